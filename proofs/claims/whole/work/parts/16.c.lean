def K_X11_all_20 (x1 : Int) (r : Option V × Mem × Mem) : (Int × Mem) ⊕ ((Mem)) → Prop := Sum.elim (fun a => Ev M_X11_all 218 218 r 20 218 rho a.2 [(2, (181 : Int)), (0, x1), (0, a.1)] []) (fun e => Ev M_X11_all 218 218 r 58 218 rho e [(2, (181 : Int)), (0, x1), (9, 0)] [])
def K_X11_all_2 (r : Option V × Mem × Mem) : (Int × Mem) ⊕ ((Mem)) → Prop := Sum.elim (fun a => Ev M_X11_all 218 218 r 2 218 rho a.2 [(2, (181 : Int)), (0, a.1), (9, 0)] []) (fun e => Ev M_X11_all 218 218 r 64 218 rho e [(9, 0), (9, 0), (9, 0)] [])
set_option maxHeartbeats 4000000 in
set_option maxRecDepth 20000 in
theorem e_X11_all_58 (σ : Mem) (x1 : Int)  {q : ((Int × Mem) ⊕ ((Mem)))} (h : f_X11_all_58 σ x1 = some q) {r : Option V × Mem × Mem} (K : K_X11_all_2  r q) : Ev M_X11_all 218 218 r 58 218 rho σ [(2, (181 : Int)), (0, x1), (9, 0)] [] := by
  unfold f_X11_all_58 at h
  refine ev_iincG dX11_all_58 rfl h rfl (fun v7 h => ?_)
  show Ev _ _ _ _ 61 _ _ _ [(2, (181 : Int)), (0, v7), (9, 0)] _
  refine ev_goto (tgt := 2) dX11_all_61 rfl ?_
  obtain rfl := Option.some.inj h
  exact ev_sub (L2 := [(2, (181 : Int)), (0, v7), (9, 0)]) K ⟨.inr rfl, .inr rfl, .inl rfl, trivial⟩
set_option maxHeartbeats 4000000 in
set_option maxRecDepth 20000 in
theorem b_X11_all_20 (x1 : Int)  {r : Option V × Mem × Mem} : ∀ a x, f_X11_all_20B x1 a = some x → K_X11_all_20 x1 r x → K_X11_all_20 x1 r (.inl a) := by
  intro a x h K
  obtain ⟨x2, σ⟩ := a
  have h : f_X11_all_20C x1 x2 σ = some x := h
  unfold f_X11_all_20C at h
  show Ev M_X11_all 218 218 r 20 218 rho σ [(2, (181 : Int)), (0, x1), (0, x2)] []
  refine ev_iload_n dX11_all_20 rfl ?_
  refine ev_sipush dX11_all_21 (by decide) (by decide) ?_
  refine ev_icmp_ge (tgt := 58) dX11_all_24 rfl h (fun cb h => ?_) (fun cb h => ?_)
  · obtain rfl := Option.some.inj h
    exact ev_sub (L2 := [(2, (181 : Int)), (0, x1), (9, 0)]) K ⟨.inr rfl, .inr rfl, .inl rfl, trivial⟩
  refine ev_aload_n dX11_all_27 rfl (by decide) ?_
  refine ev_getf (j := 28) (t := 2) (x := (204 : Int)) dX11_all_28 cf_X11 wf_X11_78 sp181 (by decide) (by decide) rfl (by decide) (rp181_28 _) ?_
  refine ev_sipush dX11_all_31 (by decide) (by decide) ?_
  refine ev_iload_n dX11_all_34 rfl ?_
  refine ev_imul dX11_all_35 ?_
  refine ev_iload_n dX11_all_36 rfl ?_
  refine ev_iadd dX11_all_37 ?_
  refine ev_aload_n dX11_all_38 rfl (by decide) ?_
  refine ev_iload_n dX11_all_39 rfl ?_
  refine ev_iload_n dX11_all_40 rfl ?_
  refine ev_bipush dX11_all_41 (by decide) (by decide) ?_
  show Ev _ _ _ _ 43 _ _ _ _ _
  refine ev_idiv dX11_all_43 h (fun h => ?_)
  refine ev_iload_n dX11_all_44 rfl ?_
  refine ev_bipush dX11_all_45 (by decide) (by decide) ?_
  refine ev_irem dX11_all_47 h (fun h => ?_)
  obtain ⟨v3, hc4, h⟩ := bind_of h
  refine ev_invV_v (k := (181 : Int)) (av := [(0, x1), (0, (jdiv x2 (48 : Int))), (0, (jrem x2 (48 : Int)))]) (st := [(0, (jadd (jmul (240 : Int) x1) x2)), (2, (204 : Int))]) (v := (0, v3)) (τ := σ) dX11_all_48 ml_X11_310 mv_X11_doing (T := TX11) (ci := 10) rfl sp181 (by decide) (by decide) rfl ⟨Nat.le_of_ble_eq_true rfl, Nat.le_of_ble_eq_true rfl⟩ (Nat.le_of_ble_eq_true rfl) (c_X11_doing hc4) ?_
  refine ev_iastG dX11_all_51 sp204 (by decide) (by decide) h (fun σ5 h => ?_)
  refine ev_iincG dX11_all_52 rfl h rfl (fun v6 h => ?_)
  show Ev _ _ _ _ 55 _ _ _ [(2, (181 : Int)), (0, x1), (0, v6)] _
  refine ev_goto (tgt := 20) dX11_all_55 rfl ?_
  obtain rfl := Option.some.inj h
  exact ev_sub (L2 := [(2, (181 : Int)), (0, x1), (0, v6)]) K ⟨.inr rfl, .inr rfl, .inr rfl, trivial⟩
set_option maxHeartbeats 4000000 in
set_option maxRecDepth 20000 in
theorem e_X11_all_20 (σ : Mem) (x1 x2 : Int)  {q : ((Int × Mem) ⊕ ((Mem)))} (h : f_X11_all_20 σ x1 x2 = some q) {r : Option V × Mem × Mem} (K : K_X11_all_2  r q) : Ev M_X11_all 218 218 r 20 218 rho σ [(2, (181 : Int)), (0, x1), (0, x2)] [] := by
  unfold f_X11_all_20 at h
  obtain ⟨e, hl, h⟩ := bind_of h
  refine loop_ev (K := K_X11_all_20 x1 r) (b_X11_all_20 x1) FU (x2, σ) e hl ?_
  show Ev M_X11_all 218 218 r 58 218 rho e [(2, (181 : Int)), (0, x1), (9, 0)] []
  replace h : f_X11_all_58 e x1 = some q := h
  exact ev_sub (L2 := [(2, (181 : Int)), (0, x1), (9, 0)]) (e_X11_all_58 e x1 h K) ⟨.inr rfl, .inr rfl, .inl rfl, trivial⟩
set_option maxHeartbeats 4000000 in
set_option maxRecDepth 20000 in
theorem b_X11_all_2  {r : Option V × Mem × Mem} : ∀ a x, f_X11_all_2B  a = some x → K_X11_all_2  r x → K_X11_all_2  r (.inl a) := by
  intro a x h K
  obtain ⟨x1, σ⟩ := a
  have h : f_X11_all_2C  x1 σ = some x := h
  unfold f_X11_all_2C at h
  show Ev M_X11_all 218 218 r 2 218 rho σ [(2, (181 : Int)), (0, x1), (9, 0)] []
  refine ev_iload_n dX11_all_2 rfl ?_
  refine ev_aload_n dX11_all_3 rfl (by decide) ?_
  refine ev_getf (j := 0) (t := 2) (x := (182 : Int)) dX11_all_4 cf_X11 wf_X11_7 sp181 (by decide) (by decide) rfl (by decide) (rp181_0 _) ?_
  refine ev_bipush dX11_all_7 (by decide) (by decide) ?_
  refine ev_iald dX11_all_9 sp182 (by decide) (by decide) h (fun h => ?_)
  refine ev_icmp_ge (tgt := 64) dX11_all_10 rfl h (fun cb h => ?_) (fun cb h => ?_)
  · obtain rfl := Option.some.inj h
    exact ev_sub (L2 := [(9, 0), (9, 0), (9, 0)]) K ⟨.inl rfl, .inl rfl, .inl rfl, trivial⟩
  refine ev_aload_n dX11_all_13 rfl (by decide) ?_
  refine ev_iload_n dX11_all_14 rfl ?_
  obtain ⟨σ1, hc2, h⟩ := bind_of h
  refine ev_invV_n (k := (181 : Int)) (av := [(0, x1)]) (st := []) (τ := σ1) dX11_all_15 ml_X11_290 mv_X11_plans (T := TX11) (ci := 10) rfl sp181 (by decide) (by decide) rfl ⟨Nat.le_of_ble_eq_true rfl, Nat.le_of_ble_eq_true rfl⟩ (Nat.le_of_ble_eq_true rfl) (c_X11_plans hc2) ?_
  refine ev_iconst dX11_all_18 (by decide) ?_
  refine ev_istore_n dX11_all_19 rfl (by decide) ?_
  show Ev _ _ _ _ 20 _ _ _ [(2, (181 : Int)), (0, x1), (0, (0 : Int))] _
  exact ev_sub (L2 := [(2, (181 : Int)), (0, x1), (0, (0 : Int))]) (e_X11_all_20 σ1 x1 (0 : Int) h K) ⟨.inr rfl, .inr rfl, .inr rfl, trivial⟩
set_option maxHeartbeats 4000000 in
set_option maxRecDepth 20000 in
theorem e_X11_all_2 (σ : Mem) (x1 : Int)  {q : Mem} (h : f_X11_all_2 σ x1 = some q) : Ev M_X11_all 218 218 (none, rho, q) 2 218 rho σ [(2, (181 : Int)), (0, x1), (9, 0)] [] := by
  unfold f_X11_all_2 at h
  obtain ⟨e, hl, h⟩ := bind_of h
  refine loop_ev (K := K_X11_all_2  (none, rho, q)) (b_X11_all_2 ) FU (x1, σ) e hl ?_
  show Ev M_X11_all 218 218 _ 64 218 rho e [(9, 0), (9, 0), (9, 0)] []
  replace h : some e = some q := h
  obtain rfl := Option.some.inj h
  exact ev_vret dX11_all_64 rfl rfl
set_option maxHeartbeats 4000000 in
set_option maxRecDepth 20000 in
theorem c_X11_all {σ : Mem}  {q : Mem} (h : f_X11_all σ  = some q) : Ms yX11_all M_X11_all 218 218 [(2, (181 : Int))] rho σ (none, rho, q) := by
  refine Ms.of 2 (by decide +kernel) rfl (fun z => absurd z (by decide)) (fun _ _ _ => trivial) rfl rfl ?_
  unfold f_X11_all at h
  show Ev M_X11_all 218 218 _ 0 218 rho σ [(2, (181 : Int)), (9, 0), (9, 0)] []
  refine ev_iconst dX11_all_0 (by decide) ?_
  refine ev_istore_n dX11_all_1 rfl (by decide) ?_
  show Ev _ _ _ _ 2 _ _ _ [(2, (181 : Int)), (0, (0 : Int)), (9, 0)] _
  exact ev_sub (L2 := [(2, (181 : Int)), (0, (0 : Int)), (9, 0)]) (e_X11_all_2 σ (0 : Int) h) ⟨.inr rfl, .inr rfl, .inl rfl, trivial⟩
set_option maxHeartbeats 4000000 in
set_option maxRecDepth 20000 in
theorem e_X11_what_10 (σ : Mem)  {q : Int} (h : f_X11_what_10 σ  = some q) : Ev M_X11_what 218 218 (some (0, q), rho, σ) 10 218 rho σ [(9, 0), (9, 0), (9, 0), (9, 0)] [] := by
  unfold f_X11_what_10 at h
  refine ev_iconst dX11_what_10 (by decide) ?_
  refine ev_goto (tgt := 31) dX11_what_11 rfl ?_
  obtain rfl := Option.some.inj h
  exact ev_iret dX11_what_31 rfl rfl
set_option maxHeartbeats 4000000 in
set_option maxRecDepth 20000 in
theorem c_X11_what {σ : Mem} {x1 x2 x3 : Int}  {q : Int} (h : f_X11_what σ x1 x2 x3 = some q) : Ms yX11_what M_X11_what 218 218 [(2, (181 : Int)), (0, x1), (0, x2), (0, x3)] rho σ (some (0, q), rho, σ) := by
  refine Ms.of 0 (by decide +kernel) rfl (fun z => absurd z (by decide)) (fun _ _ _ => trivial) rfl rfl ?_
  unfold f_X11_what at h
  show Ev M_X11_what 218 218 _ 0 218 rho σ [(2, (181 : Int)), (0, x1), (0, x2), (0, x3)] []
  refine ev_iload_n dX11_what_0 rfl ?_
  refine ev_if_lt (tgt := 10) dX11_what_1 rfl h (fun cb h => ?_) (fun cb h => ?_)
  · exact ev_sub (L2 := [(9, 0), (9, 0), (9, 0), (9, 0)]) (e_X11_what_10 σ h) ⟨.inl rfl, .inl rfl, .inl rfl, .inl rfl, trivial⟩
  refine ev_iload_n dX11_what_4 rfl ?_
  refine ev_bipush dX11_what_5 (by decide) (by decide) ?_
  refine ev_icmp_lt (tgt := 14) dX11_what_7 rfl h (fun cb h => ?_) (fun cb h => ?_)
  · refine ev_aload_n dX11_what_14 rfl (by decide) ?_
    refine ev_getf (j := 28) (t := 2) (x := (204 : Int)) dX11_what_15 cf_X11 wf_X11_78 sp181 (by decide) (by decide) rfl (by decide) (rp181_28 _) ?_
    refine ev_sipush dX11_what_18 (by decide) (by decide) ?_
    refine ev_iload_n dX11_what_21 rfl ?_
    refine ev_imul dX11_what_22 ?_
    refine ev_bipush dX11_what_23 (by decide) (by decide) ?_
    refine ev_iload_n dX11_what_25 rfl ?_
    refine ev_imul dX11_what_26 ?_
    refine ev_iadd dX11_what_27 ?_
    refine ev_iload_n dX11_what_28 rfl ?_
    refine ev_iadd dX11_what_29 ?_
    show Ev _ _ _ _ 30 _ _ _ _ _
    refine ev_iald dX11_what_30 sp204 (by decide) (by decide) h (fun h => ?_)
    obtain rfl := Option.some.inj h
    exact ev_iret dX11_what_31 rfl rfl
  exact ev_sub (L2 := [(9, 0), (9, 0), (9, 0), (9, 0)]) (e_X11_what_10 σ h) ⟨.inl rfl, .inl rfl, .inl rfl, .inl rfl, trivial⟩
def K_X11_watcher_4 (σ : Mem) (x1 : Int) (r : Option V × Mem × Mem) : (Int × Int) ⊕ ((Int)) → Prop := Sum.elim (fun a => Ev M_X11_watcher 218 218 r 4 218 rho σ [(2, (181 : Int)), (0, x1), (0, a.1), (0, a.2)] []) (fun e => Ev M_X11_watcher 218 218 r 61 218 rho σ [(2, (181 : Int)), (9, 0), (0, e), (9, 0)] [])
set_option maxHeartbeats 4000000 in
set_option maxRecDepth 20000 in
theorem e_X11_watcher_54 (σ : Mem) (x1 x3 s0 : Int)  {q : ((Int × Int) ⊕ ((Int)))} (h : f_X11_watcher_54 σ x1 x3 s0 = some q) {r : Option V × Mem × Mem} (K : K_X11_watcher_4 σ x1 r q) : Ev M_X11_watcher 218 218 r 54 218 rho σ [(2, (181 : Int)), (0, x1), (9, 0), (0, x3)] [(0, s0)] := by
  unfold f_X11_watcher_54 at h
  refine ev_istore_n dX11_watcher_54 rfl (by decide) ?_
  show Ev _ _ _ _ 55 _ _ _ [(2, (181 : Int)), (0, x1), (0, s0), (0, x3)] _
  refine ev_iincG dX11_watcher_55 rfl h rfl (fun v3 h => ?_)
  show Ev _ _ _ _ 58 _ _ _ [(2, (181 : Int)), (0, x1), (0, s0), (0, v3)] _
  refine ev_goto (tgt := 4) dX11_watcher_58 rfl ?_
  obtain rfl := Option.some.inj h
  exact ev_sub (L2 := [(2, (181 : Int)), (0, x1), (0, s0), (0, v3)]) K ⟨.inr rfl, .inr rfl, .inr rfl, .inr rfl, trivial⟩
set_option maxHeartbeats 4000000 in
set_option maxRecDepth 20000 in
theorem e_X11_watcher_49 (σ : Mem) (x1 x3 : Int)  {q : ((Int × Int) ⊕ ((Int)))} (h : f_X11_watcher_49 σ x1 x3 = some q) {r : Option V × Mem × Mem} (K : K_X11_watcher_4 σ x1 r q) : Ev M_X11_watcher 218 218 r 49 218 rho σ [(2, (181 : Int)), (0, x1), (9, 0), (0, x3)] [] := by
  unfold f_X11_watcher_49 at h
  refine ev_iload_n dX11_watcher_49 rfl ?_
  refine ev_goto (tgt := 54) dX11_watcher_50 rfl ?_
  exact ev_sub (L2 := [(2, (181 : Int)), (0, x1), (9, 0), (0, x3)]) (e_X11_watcher_54 σ x1 x3 x3 h K) ⟨.inr rfl, .inr rfl, .inl rfl, .inr rfl, trivial⟩
set_option maxHeartbeats 4000000 in
set_option maxRecDepth 20000 in
theorem e_X11_watcher_53 (σ : Mem) (x1 x2 x3 : Int)  {q : ((Int × Int) ⊕ ((Int)))} (h : f_X11_watcher_53 σ x1 x2 x3 = some q) {r : Option V × Mem × Mem} (K : K_X11_watcher_4 σ x1 r q) : Ev M_X11_watcher 218 218 r 53 218 rho σ [(2, (181 : Int)), (0, x1), (0, x2), (0, x3)] [] := by
  unfold f_X11_watcher_53 at h
  refine ev_iload_n dX11_watcher_53 rfl ?_
  exact ev_sub (L2 := [(2, (181 : Int)), (0, x1), (9, 0), (0, x3)]) (e_X11_watcher_54 σ x1 x3 x2 h K) ⟨.inr rfl, .inr rfl, .inl rfl, .inr rfl, trivial⟩
set_option maxHeartbeats 4000000 in
set_option maxRecDepth 20000 in
theorem e_X11_watcher_61 (σ : Mem) (x2 : Int)  {q : (Int × Mem)} (h : f_X11_watcher_61 σ x2 = some q) : Ev M_X11_watcher 218 218 (some (0, q.1), rho, q.2) 61 218 rho σ [(2, (181 : Int)), (9, 0), (0, x2), (9, 0)] [] := by
  unfold f_X11_watcher_61 at h
  refine ev_iload_n dX11_watcher_61 rfl ?_
  refine ev_if_ge (tgt := 80) dX11_watcher_62 rfl h (fun cb h => ?_) (fun cb h => ?_)
  · refine ev_iload_n dX11_watcher_80 rfl ?_
    obtain rfl := Option.some.inj h
    dsimp only
    exact ev_iret dX11_watcher_81 rfl rfl
  refine ev_aload_n dX11_watcher_65 rfl (by decide) ?_
  refine ev_getf (j := 35) (t := 0) (x := (σ (181 : Int) 35)) dX11_watcher_66 cf_X11 wf_X11_322 sp181 (by decide) (by decide) rfl (by decide) rfl ?_
  refine ev_istore_nG dX11_watcher_69 h rfl (by decide) (fun v1 h => ?_)
  show Ev _ _ _ _ 70 _ _ _ [(2, (181 : Int)), (9, 0), (0, v1), (9, 0)] _
  refine ev_aload_n dX11_watcher_70 rfl (by decide) ?_
  refine ev_dup dX11_watcher_71 (show (2 : Nat) ≠ 1 by decide) ?_
  refine ev_getf (j := 35) (t := 0) (x := (σ (181 : Int) 35)) dX11_watcher_72 cf_X11 wf_X11_322 sp181 (by decide) (by decide) rfl (by decide) rfl ?_
  refine ev_iconst dX11_watcher_75 (by decide) ?_
  refine ev_iadd dX11_watcher_76 ?_
  refine ev_putfG (j := 35) (t := 0) dX11_watcher_77 cf_X11 wf_X11_322 sp181 (by decide) (by decide) rfl (by decide) (by decide) rfl (fun z => absurd z (by decide +kernel)) h (fun σ2 h => ?_)
  refine ev_iload_n dX11_watcher_80 rfl ?_
  obtain rfl := Option.some.inj h
  dsimp only
  exact ev_iret dX11_watcher_81 rfl rfl
set_option maxHeartbeats 4000000 in
set_option maxRecDepth 20000 in
theorem b_X11_watcher_4 (σ : Mem) (x1 : Int)  {r : Option V × Mem × Mem} : ∀ a x, f_X11_watcher_4B σ x1 a = some x → K_X11_watcher_4 σ x1 r x → K_X11_watcher_4 σ x1 r (.inl a) := by
  intro a x h K
  obtain ⟨x2, x3⟩ := a
  have h : f_X11_watcher_4C σ x1 x2 x3 = some x := h
  unfold f_X11_watcher_4C at h
  show Ev M_X11_watcher 218 218 r 4 218 rho σ [(2, (181 : Int)), (0, x1), (0, x2), (0, x3)] []
  refine ev_iload_n dX11_watcher_4 rfl ?_
  refine ev_aload_n dX11_watcher_5 rfl (by decide) ?_
  refine ev_getf (j := 35) (t := 0) (x := (σ (181 : Int) 35)) dX11_watcher_6 cf_X11 wf_X11_322 sp181 (by decide) (by decide) rfl (by decide) rfl ?_
  refine ev_icmp_ge (tgt := 61) dX11_watcher_9 rfl h (fun cb h => ?_) (fun cb h => ?_)
  · obtain rfl := Option.some.inj h
    exact ev_sub (L2 := [(2, (181 : Int)), (9, 0), (0, x2), (9, 0)]) K ⟨.inr rfl, .inl rfl, .inr rfl, .inl rfl, trivial⟩
  refine ev_iload_n dX11_watcher_12 rfl ?_
  refine ev_aload_n dX11_watcher_13 rfl (by decide) ?_
  refine ev_getf (j := 36) (t := 2) (x := (210 : Int)) dX11_watcher_14 cf_X11 wf_X11_96 sp181 (by decide) (by decide) rfl (by decide) (rp181_36 _) ?_
  refine ev_iload_n dX11_watcher_17 rfl ?_
  refine ev_iald dX11_watcher_18 sp210 (by decide) (by decide) h (fun h => ?_)
  refine ev_aload_n dX11_watcher_19 rfl (by decide) ?_
  refine ev_getf (j := 0) (t := 2) (x := (182 : Int)) dX11_watcher_20 cf_X11 wf_X11_7 sp181 (by decide) (by decide) rfl (by decide) (rp181_0 _) ?_
  refine ev_bipush dX11_watcher_23 (by decide) (by decide) ?_
  refine ev_iald dX11_watcher_25 sp182 (by decide) (by decide) h (fun h => ?_)
  refine ev_iadd dX11_watcher_26 ?_
  refine ev_icmp_lt (tgt := 53) dX11_watcher_27 rfl h (fun cb h => ?_) (fun cb h => ?_)
  · exact ev_sub (L2 := [(2, (181 : Int)), (0, x1), (0, x2), (0, x3)]) (e_X11_watcher_53 σ x1 x2 x3 h K) ⟨.inr rfl, .inr rfl, .inr rfl, .inr rfl, trivial⟩
  refine ev_iload_n dX11_watcher_30 rfl ?_
  refine ev_if_lt (tgt := 49) dX11_watcher_31 rfl h (fun cb h => ?_) (fun cb h => ?_)
  · exact ev_sub (L2 := [(2, (181 : Int)), (0, x1), (9, 0), (0, x3)]) (e_X11_watcher_49 σ x1 x3 h K) ⟨.inr rfl, .inr rfl, .inl rfl, .inr rfl, trivial⟩
  refine ev_aload_n dX11_watcher_34 rfl (by decide) ?_
  refine ev_getf (j := 36) (t := 2) (x := (210 : Int)) dX11_watcher_35 cf_X11 wf_X11_96 sp181 (by decide) (by decide) rfl (by decide) (rp181_36 _) ?_
  refine ev_iload_n dX11_watcher_38 rfl ?_
  refine ev_iald dX11_watcher_39 sp210 (by decide) (by decide) h (fun h => ?_)
  refine ev_aload_n dX11_watcher_40 rfl (by decide) ?_
  refine ev_getf (j := 36) (t := 2) (x := (210 : Int)) dX11_watcher_41 cf_X11 wf_X11_96 sp181 (by decide) (by decide) rfl (by decide) (rp181_36 _) ?_
  refine ev_iload_n dX11_watcher_44 rfl ?_
  refine ev_iald dX11_watcher_45 sp210 (by decide) (by decide) h (fun h => ?_)
  refine ev_icmp_le (tgt := 53) dX11_watcher_46 rfl h (fun cb h => ?_) (fun cb h => ?_)
  · exact ev_sub (L2 := [(2, (181 : Int)), (0, x1), (0, x2), (0, x3)]) (e_X11_watcher_53 σ x1 x2 x3 h K) ⟨.inr rfl, .inr rfl, .inr rfl, .inr rfl, trivial⟩
  exact ev_sub (L2 := [(2, (181 : Int)), (0, x1), (9, 0), (0, x3)]) (e_X11_watcher_49 σ x1 x3 h K) ⟨.inr rfl, .inr rfl, .inl rfl, .inr rfl, trivial⟩
set_option maxHeartbeats 4000000 in
set_option maxRecDepth 20000 in
theorem e_X11_watcher_4 (σ : Mem) (x1 x2 x3 : Int)  {q : (Int × Mem)} (h : f_X11_watcher_4 σ x1 x2 x3 = some q) : Ev M_X11_watcher 218 218 (some (0, q.1), rho, q.2) 4 218 rho σ [(2, (181 : Int)), (0, x1), (0, x2), (0, x3)] [] := by
  unfold f_X11_watcher_4 at h
  obtain ⟨e, hl, h⟩ := bind_of h
  refine loop_ev (K := K_X11_watcher_4 σ x1 (some (0, q.1), rho, q.2)) (b_X11_watcher_4 σ x1) FU (x2, x3) e hl ?_
  show Ev M_X11_watcher 218 218 _ 61 218 rho σ [(2, (181 : Int)), (9, 0), (0, e), (9, 0)] []
  replace h : f_X11_watcher_61 σ e = some q := h
  exact ev_sub (L2 := [(2, (181 : Int)), (9, 0), (0, e), (9, 0)]) (e_X11_watcher_61 σ e h) ⟨.inr rfl, .inl rfl, .inr rfl, .inl rfl, trivial⟩
set_option maxHeartbeats 4000000 in
set_option maxRecDepth 20000 in
theorem c_X11_watcher {σ : Mem} {x1 : Int}  {q : (Int × Mem)} (h : f_X11_watcher σ x1 = some q) : Ms yX11_watcher M_X11_watcher 218 218 [(2, (181 : Int)), (0, x1)] rho σ (some (0, q.1), rho, q.2) := by
  refine Ms.of 2 (by decide +kernel) rfl (fun z => absurd z (by decide)) (fun _ _ _ => trivial) rfl rfl ?_
  unfold f_X11_watcher at h
  show Ev M_X11_watcher 218 218 _ 0 218 rho σ [(2, (181 : Int)), (0, x1), (9, 0), (9, 0)] []
  refine ev_iconst dX11_watcher_0 (by decide) ?_
  refine ev_istore_n dX11_watcher_1 rfl (by decide) ?_
  show Ev _ _ _ _ 2 _ _ _ [(2, (181 : Int)), (0, x1), (0, (-1 : Int)), (9, 0)] _
  refine ev_iconst dX11_watcher_2 (by decide) ?_
  refine ev_istore_n dX11_watcher_3 rfl (by decide) ?_
  show Ev _ _ _ _ 4 _ _ _ [(2, (181 : Int)), (0, x1), (0, (-1 : Int)), (0, (0 : Int))] _
  exact ev_sub (L2 := [(2, (181 : Int)), (0, x1), (0, (-1 : Int)), (0, (0 : Int))]) (e_X11_watcher_4 σ x1 (-1 : Int) (0 : Int) h) ⟨.inr rfl, .inr rfl, .inr rfl, .inr rfl, trivial⟩
def K_X11_duties_79 (σ : Mem) (x1 x2 x3 x4 : Int) (r : Option V × Mem × Mem) : (Int) ⊕ ((Int)) → Prop := Sum.elim (fun a => Ev M_X11_duties 218 218 r 79 218 rho σ [(2, (181 : Int)), (0, x1), (0, x2), (0, x3), (0, x4), (0, a)] []) (fun e => Ev M_X11_duties 218 218 r 101 218 rho σ [(2, (181 : Int)), (0, x1), (0, x2), (0, x3), (0, x4), (0, e)] [])
def K_X11_duties_36 (x1 x2 x3 : Int) (r : Option V × Mem × Mem) : (Int × Mem) ⊕ ((Mem)) → Prop := Sum.elim (fun a => Ev M_X11_duties 218 218 r 36 218 rho a.2 [(2, (181 : Int)), (0, x1), (0, x2), (0, x3), (0, a.1), (9, 0)] []) (fun e => Ev M_X11_duties 218 218 r 191 218 rho e [(2, (181 : Int)), (0, x1), (9, 0), (9, 0), (9, 0), (9, 0)] [])
def K_X11_duties_16 (r : Option V × Mem × Mem) : (Int × Mem) ⊕ ((Mem)) → Prop := Sum.elim (fun a => Ev M_X11_duties 218 218 r 16 218 rho a.2 [(2, (181 : Int)), (0, a.1), (9, 0), (9, 0), (9, 0), (9, 0)] []) (fun e => Ev M_X11_duties 218 218 r 197 218 rho e [(9, 0), (9, 0), (9, 0), (9, 0), (9, 0), (9, 0)] [])
set_option maxHeartbeats 4000000 in
set_option maxRecDepth 20000 in
theorem e_X11_duties_185 (σ : Mem) (x1 x2 x3 x4 : Int)  {q : ((Int × Mem) ⊕ ((Mem)))} (h : f_X11_duties_185 σ x1 x2 x3 x4 = some q) {r : Option V × Mem × Mem} (K : K_X11_duties_36 x1 x2 x3 r q) : Ev M_X11_duties 218 218 r 185 218 rho σ [(2, (181 : Int)), (0, x1), (0, x2), (0, x3), (0, x4), (9, 0)] [] := by
  unfold f_X11_duties_185 at h
  refine ev_iincG dX11_duties_185 rfl h rfl (fun v11 h => ?_)
  show Ev _ _ _ _ 188 _ _ _ [(2, (181 : Int)), (0, x1), (0, x2), (0, x3), (0, v11), (9, 0)] _
  refine ev_goto (tgt := 36) dX11_duties_188 rfl ?_
  obtain rfl := Option.some.inj h
  exact ev_sub (L2 := [(2, (181 : Int)), (0, x1), (0, x2), (0, x3), (0, v11), (9, 0)]) K ⟨.inr rfl, .inr rfl, .inr rfl, .inr rfl, .inr rfl, .inl rfl, trivial⟩
set_option maxHeartbeats 4000000 in
set_option maxRecDepth 20000 in
theorem e_X11_duties_101 (σ : Mem) (x1 x2 x3 x4 x5 : Int)  {q : ((Int × Mem) ⊕ ((Mem)))} (h : f_X11_duties_101 σ x1 x2 x3 x4 x5 = some q) {r : Option V × Mem × Mem} (K : K_X11_duties_36 x1 x2 x3 r q) : Ev M_X11_duties 218 218 r 101 218 rho σ [(2, (181 : Int)), (0, x1), (0, x2), (0, x3), (0, x4), (0, x5)] [] := by
  unfold f_X11_duties_101 at h
  refine ev_aload_n dX11_duties_101 rfl (by decide) ?_
  refine ev_getf (j := 30) (t := 2) (x := (205 : Int)) dX11_duties_102 cf_X11 wf_X11_81 sp181 (by decide) (by decide) rfl (by decide) (rp181_30 _) ?_
  refine ev_aload_n dX11_duties_105 rfl (by decide) ?_
  refine ev_getf (j := 29) (t := 0) (x := (σ (181 : Int) 29)) dX11_duties_106 cf_X11 wf_X11_319 sp181 (by decide) (by decide) rfl (by decide) rfl ?_
  refine ev_iload dX11_duties_109 rfl ?_
  refine ev_iastG dX11_duties_111 sp205 (by decide) (by decide) h (fun σ16 h => ?_)
  refine ev_aload_n dX11_duties_112 rfl (by decide) ?_
  refine ev_getf (j := 31) (t := 2) (x := (206 : Int)) dX11_duties_113 cf_X11 wf_X11_84 sp181 (by decide) (by decide) rfl (by decide) (rp181_31 _) ?_
  refine ev_aload_n dX11_duties_116 rfl (by decide) ?_
  refine ev_getf (j := 29) (t := 0) (x := (σ16 (181 : Int) 29)) dX11_duties_117 cf_X11 wf_X11_319 sp181 (by decide) (by decide) rfl (by decide) rfl ?_
  refine ev_iload_n dX11_duties_120 rfl ?_
  show Ev _ _ _ _ 121 _ _ _ _ _
  refine ev_iastG dX11_duties_121 sp206 (by decide) (by decide) h (fun σ17 h => ?_)
  refine ev_aload_n dX11_duties_122 rfl (by decide) ?_
  refine ev_getf (j := 32) (t := 2) (x := (207 : Int)) dX11_duties_123 cf_X11 wf_X11_87 sp181 (by decide) (by decide) rfl (by decide) (rp181_32 _) ?_
  refine ev_aload_n dX11_duties_126 rfl (by decide) ?_
  refine ev_getf (j := 29) (t := 0) (x := (σ17 (181 : Int) 29)) dX11_duties_127 cf_X11 wf_X11_319 sp181 (by decide) (by decide) rfl (by decide) rfl ?_
  refine ev_iload_n dX11_duties_130 rfl ?_
  refine ev_iastG dX11_duties_131 sp207 (by decide) (by decide) h (fun σ18 h => ?_)
  refine ev_aload_n dX11_duties_132 rfl (by decide) ?_
  refine ev_getf (j := 33) (t := 2) (x := (208 : Int)) dX11_duties_133 cf_X11 wf_X11_90 sp181 (by decide) (by decide) rfl (by decide) (rp181_33 _) ?_
  refine ev_aload_n dX11_duties_136 rfl (by decide) ?_
  refine ev_getf (j := 29) (t := 0) (x := (σ18 (181 : Int) 29)) dX11_duties_137 cf_X11 wf_X11_319 sp181 (by decide) (by decide) rfl (by decide) rfl ?_
  refine ev_iload dX11_duties_140 rfl ?_
  show Ev _ _ _ _ 142 _ _ _ _ _
  refine ev_iastG dX11_duties_142 sp208 (by decide) (by decide) h (fun σ19 h => ?_)
  refine ev_aload_n dX11_duties_143 rfl (by decide) ?_
  refine ev_getf (j := 34) (t := 2) (x := (209 : Int)) dX11_duties_144 cf_X11 wf_X11_93 sp181 (by decide) (by decide) rfl (by decide) (rp181_34 _) ?_
  refine ev_aload_n dX11_duties_147 rfl (by decide) ?_
  refine ev_getf (j := 29) (t := 0) (x := (σ19 (181 : Int) 29)) dX11_duties_148 cf_X11 wf_X11_319 sp181 (by decide) (by decide) rfl (by decide) rfl ?_
  refine ev_aload_n dX11_duties_151 rfl (by decide) ?_
  refine ev_iload_n dX11_duties_152 rfl ?_
  obtain ⟨v20, hc21, h⟩ := bind_of h
  refine ev_invV_v (k := (181 : Int)) (av := [(0, x1)]) (st := [(0, (σ19 (181 : Int) 29)), (2, (209 : Int))]) (v := (0, v20.1)) (τ := v20.2) dX11_duties_153 ml_X11_328 mv_X11_watcher (T := TX11) (ci := 10) rfl sp181 (by decide) (by decide) rfl ⟨Nat.le_of_ble_eq_true rfl, Nat.le_of_ble_eq_true rfl⟩ (Nat.le_of_ble_eq_true rfl) (c_X11_watcher hc21) ?_
  refine ev_iastG dX11_duties_156 sp209 (by decide) (by decide) h (fun σ22 h => ?_)
  refine ev_aload_n dX11_duties_157 rfl (by decide) ?_
  refine ev_getf (j := 36) (t := 2) (x := (210 : Int)) dX11_duties_158 cf_X11 wf_X11_96 sp181 (by decide) (by decide) rfl (by decide) (rp181_36 _) ?_
  refine ev_aload_n dX11_duties_161 rfl (by decide) ?_
  show Ev _ _ _ _ 162 _ _ _ _ _
  refine ev_getf (j := 34) (t := 2) (x := (209 : Int)) dX11_duties_162 cf_X11 wf_X11_93 sp181 (by decide) (by decide) rfl (by decide) (rp181_34 _) ?_
  refine ev_aload_n dX11_duties_165 rfl (by decide) ?_
  refine ev_getf (j := 29) (t := 0) (x := (σ22 (181 : Int) 29)) dX11_duties_166 cf_X11 wf_X11_319 sp181 (by decide) (by decide) rfl (by decide) rfl ?_
  refine ev_iald dX11_duties_169 sp209 (by decide) (by decide) h (fun h => ?_)
  refine ev_iload_n dX11_duties_170 rfl ?_
  refine ev_iload dX11_duties_171 rfl ?_
  refine ev_iadd dX11_duties_173 ?_
  refine ev_iastG dX11_duties_174 sp210 (by decide) (by decide) h (fun σ23 h => ?_)
  refine ev_aload_n dX11_duties_175 rfl (by decide) ?_
  refine ev_dup dX11_duties_176 (show (2 : Nat) ≠ 1 by decide) ?_
  refine ev_getf (j := 29) (t := 0) (x := (σ23 (181 : Int) 29)) dX11_duties_177 cf_X11 wf_X11_319 sp181 (by decide) (by decide) rfl (by decide) rfl ?_
  refine ev_iconst dX11_duties_180 (by decide) ?_
  show Ev _ _ _ _ 181 _ _ _ _ _
  refine ev_iadd dX11_duties_181 ?_
  refine ev_putfG (j := 29) (t := 0) dX11_duties_182 cf_X11 wf_X11_319 sp181 (by decide) (by decide) rfl (by decide) (by decide) rfl (fun z => absurd z (by decide +kernel)) h (fun σ24 h => ?_)
  exact ev_sub (L2 := [(2, (181 : Int)), (0, x1), (0, x2), (0, x3), (0, x4), (9, 0)]) (e_X11_duties_185 σ24 x1 x2 x3 x4 h K) ⟨.inr rfl, .inr rfl, .inr rfl, .inr rfl, .inr rfl, .inl rfl, trivial⟩
set_option maxHeartbeats 4000000 in
set_option maxRecDepth 20000 in
theorem b_X11_duties_79 (σ : Mem) (x1 x2 x3 x4 : Int)  {r : Option V × Mem × Mem} : ∀ a x, f_X11_duties_79B σ x1 x2 x3 x4 a = some x → K_X11_duties_79 σ x1 x2 x3 x4 r x → K_X11_duties_79 σ x1 x2 x3 x4 r (.inl a) := by
  intro a x h K
  have ⟨x5, ea⟩ : ∃ z, z = a := ⟨_, rfl⟩
  subst ea
  have h : f_X11_duties_79C σ x1 x2 x3 x4 x5 = some x := h
  unfold f_X11_duties_79C at h
  show Ev M_X11_duties 218 218 r 79 218 rho σ [(2, (181 : Int)), (0, x1), (0, x2), (0, x3), (0, x4), (0, x5)] []
  refine ev_aload_n dX11_duties_79 rfl (by decide) ?_
  refine ev_iload dX11_duties_80 rfl ?_
  refine ev_iload_n dX11_duties_82 rfl ?_
  refine ev_iload_n dX11_duties_83 rfl ?_
  refine ev_iload dX11_duties_84 rfl ?_
  refine ev_iadd dX11_duties_86 ?_
  obtain ⟨v12, hc13, h⟩ := bind_of h
  refine ev_invV_v (k := (181 : Int)) (av := [(0, x4), (0, x2), (0, (jadd x3 x5))]) (st := []) (v := (0, v12)) (τ := σ) dX11_duties_87 ml_X11_325 mv_X11_what (T := TX11) (ci := 10) rfl sp181 (by decide) (by decide) rfl ⟨Nat.le_of_ble_eq_true rfl, Nat.le_of_ble_eq_true rfl⟩ (Nat.le_of_ble_eq_true rfl) (c_X11_what hc13) ?_
  refine ev_bipush dX11_duties_90 (by decide) (by decide) ?_
  refine ev_icmp_ne (tgt := 101) dX11_duties_92 rfl h (fun cb h => ?_) (fun cb h => ?_)
  · obtain rfl := Option.some.inj h
    exact ev_sub (L2 := [(2, (181 : Int)), (0, x1), (0, x2), (0, x3), (0, x4), (0, x5)]) K ⟨.inr rfl, .inr rfl, .inr rfl, .inr rfl, .inr rfl, .inr rfl, trivial⟩
  refine ev_iincG dX11_duties_95 rfl h rfl (fun v14 h => ?_)
  show Ev _ _ _ _ 98 _ _ _ [(2, (181 : Int)), (0, x1), (0, x2), (0, x3), (0, x4), (0, v14)] _
  refine ev_goto (tgt := 79) dX11_duties_98 rfl ?_
  obtain rfl := Option.some.inj h
  exact ev_sub (L2 := [(2, (181 : Int)), (0, x1), (0, x2), (0, x3), (0, x4), (0, v14)]) K ⟨.inr rfl, .inr rfl, .inr rfl, .inr rfl, .inr rfl, .inr rfl, trivial⟩
set_option maxHeartbeats 4000000 in
set_option maxRecDepth 20000 in
theorem e_X11_duties_79 (σ : Mem) (x1 x2 x3 x4 x5 : Int)  {q : ((Int × Mem) ⊕ ((Mem)))} (h : f_X11_duties_79 σ x1 x2 x3 x4 x5 = some q) {r : Option V × Mem × Mem} (K : K_X11_duties_36 x1 x2 x3 r q) : Ev M_X11_duties 218 218 r 79 218 rho σ [(2, (181 : Int)), (0, x1), (0, x2), (0, x3), (0, x4), (0, x5)] [] := by
  unfold f_X11_duties_79 at h
  obtain ⟨e, hl, h⟩ := bind_of h
  refine loop_ev (K := K_X11_duties_79 σ x1 x2 x3 x4 r) (b_X11_duties_79 σ x1 x2 x3 x4) FU x5 e hl ?_
  show Ev M_X11_duties 218 218 r 101 218 rho σ [(2, (181 : Int)), (0, x1), (0, x2), (0, x3), (0, x4), (0, e)] []
  replace h : f_X11_duties_101 σ x1 x2 x3 x4 e = some q := h
  exact ev_sub (L2 := [(2, (181 : Int)), (0, x1), (0, x2), (0, x3), (0, x4), (0, e)]) (e_X11_duties_101 σ x1 x2 x3 x4 e h K) ⟨.inr rfl, .inr rfl, .inr rfl, .inr rfl, .inr rfl, .inr rfl, trivial⟩
set_option maxHeartbeats 4000000 in
set_option maxRecDepth 20000 in
theorem e_X11_duties_191 (σ : Mem) (x1 : Int)  {q : ((Int × Mem) ⊕ ((Mem)))} (h : f_X11_duties_191 σ x1 = some q) {r : Option V × Mem × Mem} (K : K_X11_duties_16  r q) : Ev M_X11_duties 218 218 r 191 218 rho σ [(2, (181 : Int)), (0, x1), (9, 0), (9, 0), (9, 0), (9, 0)] [] := by
  unfold f_X11_duties_191 at h
  refine ev_iincG dX11_duties_191 rfl h rfl (fun v15 h => ?_)
  show Ev _ _ _ _ 194 _ _ _ [(2, (181 : Int)), (0, v15), (9, 0), (9, 0), (9, 0), (9, 0)] _
  refine ev_goto (tgt := 16) dX11_duties_194 rfl ?_
  obtain rfl := Option.some.inj h
  exact ev_sub (L2 := [(2, (181 : Int)), (0, v15), (9, 0), (9, 0), (9, 0), (9, 0)]) K ⟨.inr rfl, .inr rfl, .inl rfl, .inl rfl, .inl rfl, .inl rfl, trivial⟩
set_option maxHeartbeats 4000000 in
set_option maxRecDepth 20000 in
theorem b_X11_duties_36 (x1 x2 x3 : Int)  {r : Option V × Mem × Mem} : ∀ a x, f_X11_duties_36B x1 x2 x3 a = some x → K_X11_duties_36 x1 x2 x3 r x → K_X11_duties_36 x1 x2 x3 r (.inl a) := by
  intro a x h K
  obtain ⟨x4, σ⟩ := a
  have h : f_X11_duties_36C x1 x2 x3 x4 σ = some x := h
  unfold f_X11_duties_36C at h
  show Ev M_X11_duties 218 218 r 36 218 rho σ [(2, (181 : Int)), (0, x1), (0, x2), (0, x3), (0, x4), (9, 0)] []
  refine ev_iload dX11_duties_36 rfl ?_
  refine ev_aload_n dX11_duties_38 rfl (by decide) ?_
  refine ev_getf (j := 0) (t := 2) (x := (182 : Int)) dX11_duties_39 cf_X11 wf_X11_7 sp181 (by decide) (by decide) rfl (by decide) (rp181_0 _) ?_
  refine ev_bipush dX11_duties_42 (by decide) (by decide) ?_
  refine ev_iald dX11_duties_44 sp182 (by decide) (by decide) h (fun h => ?_)
  refine ev_icmp_ge (tgt := 191) dX11_duties_45 rfl h (fun cb h => ?_) (fun cb h => ?_)
  · obtain rfl := Option.some.inj h
    exact ev_sub (L2 := [(2, (181 : Int)), (0, x1), (9, 0), (9, 0), (9, 0), (9, 0)]) K ⟨.inr rfl, .inr rfl, .inl rfl, .inl rfl, .inl rfl, .inl rfl, trivial⟩
  refine ev_aload_n dX11_duties_48 rfl (by decide) ?_
  refine ev_iload dX11_duties_49 rfl ?_
  refine ev_iload_n dX11_duties_51 rfl ?_
  refine ev_iload_n dX11_duties_52 rfl ?_
  obtain ⟨v7, hc8, h⟩ := bind_of h
  refine ev_invV_v (k := (181 : Int)) (av := [(0, x4), (0, x2), (0, x3)]) (st := []) (v := (0, v7)) (τ := σ) dX11_duties_53 ml_X11_325 mv_X11_what (T := TX11) (ci := 10) rfl sp181 (by decide) (by decide) rfl ⟨Nat.le_of_ble_eq_true rfl, Nat.le_of_ble_eq_true rfl⟩ (Nat.le_of_ble_eq_true rfl) (c_X11_what hc8) ?_
  refine ev_bipush dX11_duties_56 (by decide) (by decide) ?_
  refine ev_icmp_ne (tgt := 185) dX11_duties_58 rfl h (fun cb h => ?_) (fun cb h => ?_)
  · exact ev_sub (L2 := [(2, (181 : Int)), (0, x1), (0, x2), (0, x3), (0, x4), (9, 0)]) (e_X11_duties_185 σ x1 x2 x3 x4 h K) ⟨.inr rfl, .inr rfl, .inr rfl, .inr rfl, .inr rfl, .inl rfl, trivial⟩
  refine ev_aload_n dX11_duties_61 rfl (by decide) ?_
  refine ev_iload dX11_duties_62 rfl ?_
  refine ev_iload_n dX11_duties_64 rfl ?_
  refine ev_iload_n dX11_duties_65 rfl ?_
  refine ev_iconst dX11_duties_66 (by decide) ?_
  refine ev_isub dX11_duties_67 ?_
  obtain ⟨v9, hc10, h⟩ := bind_of h
  refine ev_invV_v (k := (181 : Int)) (av := [(0, x4), (0, x2), (0, (jsub x3 (1 : Int)))]) (st := []) (v := (0, v9)) (τ := σ) dX11_duties_68 ml_X11_325 mv_X11_what (T := TX11) (ci := 10) rfl sp181 (by decide) (by decide) rfl ⟨Nat.le_of_ble_eq_true rfl, Nat.le_of_ble_eq_true rfl⟩ (Nat.le_of_ble_eq_true rfl) (c_X11_what hc10) ?_
  refine ev_bipush dX11_duties_71 (by decide) (by decide) ?_
  refine ev_icmp_eq (tgt := 185) dX11_duties_73 rfl h (fun cb h => ?_) (fun cb h => ?_)
  · exact ev_sub (L2 := [(2, (181 : Int)), (0, x1), (0, x2), (0, x3), (0, x4), (9, 0)]) (e_X11_duties_185 σ x1 x2 x3 x4 h K) ⟨.inr rfl, .inr rfl, .inr rfl, .inr rfl, .inr rfl, .inl rfl, trivial⟩
  refine ev_iconst dX11_duties_76 (by decide) ?_
  refine ev_istore dX11_duties_77 rfl (by decide) ?_
  show Ev _ _ _ _ 79 _ _ _ [(2, (181 : Int)), (0, x1), (0, x2), (0, x3), (0, x4), (0, (0 : Int))] _
  exact ev_sub (L2 := [(2, (181 : Int)), (0, x1), (0, x2), (0, x3), (0, x4), (0, (0 : Int))]) (e_X11_duties_79 σ x1 x2 x3 x4 (0 : Int) h K) ⟨.inr rfl, .inr rfl, .inr rfl, .inr rfl, .inr rfl, .inr rfl, trivial⟩
set_option maxHeartbeats 4000000 in
set_option maxRecDepth 20000 in
theorem e_X11_duties_36 (σ : Mem) (x1 x2 x3 x4 : Int)  {q : ((Int × Mem) ⊕ ((Mem)))} (h : f_X11_duties_36 σ x1 x2 x3 x4 = some q) {r : Option V × Mem × Mem} (K : K_X11_duties_16  r q) : Ev M_X11_duties 218 218 r 36 218 rho σ [(2, (181 : Int)), (0, x1), (0, x2), (0, x3), (0, x4), (9, 0)] [] := by
  unfold f_X11_duties_36 at h
  obtain ⟨e, hl, h⟩ := bind_of h
  refine loop_ev (K := K_X11_duties_36 x1 x2 x3 r) (b_X11_duties_36 x1 x2 x3) FU (x4, σ) e hl ?_
  show Ev M_X11_duties 218 218 r 191 218 rho e [(2, (181 : Int)), (0, x1), (9, 0), (9, 0), (9, 0), (9, 0)] []
  replace h : f_X11_duties_191 e x1 = some q := h
  exact ev_sub (L2 := [(2, (181 : Int)), (0, x1), (9, 0), (9, 0), (9, 0), (9, 0)]) (e_X11_duties_191 e x1 h K) ⟨.inr rfl, .inr rfl, .inl rfl, .inl rfl, .inl rfl, .inl rfl, trivial⟩
set_option maxHeartbeats 4000000 in
set_option maxRecDepth 20000 in
theorem b_X11_duties_16  {r : Option V × Mem × Mem} : ∀ a x, f_X11_duties_16B  a = some x → K_X11_duties_16  r x → K_X11_duties_16  r (.inl a) := by
  intro a x h K
  obtain ⟨x1, σ⟩ := a
  have h : f_X11_duties_16C  x1 σ = some x := h
  unfold f_X11_duties_16C at h
  show Ev M_X11_duties 218 218 r 16 218 rho σ [(2, (181 : Int)), (0, x1), (9, 0), (9, 0), (9, 0), (9, 0)] []
  refine ev_iload_n dX11_duties_16 rfl ?_
  refine ev_sipush dX11_duties_17 (by decide) (by decide) ?_
  refine ev_icmp_ge (tgt := 197) dX11_duties_20 rfl h (fun cb h => ?_) (fun cb h => ?_)
  · obtain rfl := Option.some.inj h
    exact ev_sub (L2 := [(9, 0), (9, 0), (9, 0), (9, 0), (9, 0), (9, 0)]) K ⟨.inl rfl, .inl rfl, .inl rfl, .inl rfl, .inl rfl, .inl rfl, trivial⟩
  refine ev_iload_n dX11_duties_23 rfl ?_
  refine ev_bipush dX11_duties_24 (by decide) (by decide) ?_
  refine ev_idiv dX11_duties_26 h (fun h => ?_)
  refine ev_istore_nG dX11_duties_27 h rfl (by decide) (fun v5 h => ?_)
  show Ev _ _ _ _ 28 _ _ _ [(2, (181 : Int)), (0, x1), (0, v5), (9, 0), (9, 0), (9, 0)] _
  refine ev_iload_n dX11_duties_28 rfl ?_
  refine ev_bipush dX11_duties_29 (by decide) (by decide) ?_
  refine ev_irem dX11_duties_31 h (fun h => ?_)
  refine ev_istore_nG dX11_duties_32 h rfl (by decide) (fun v6 h => ?_)
  show Ev _ _ _ _ 33 _ _ _ [(2, (181 : Int)), (0, x1), (0, v5), (0, v6), (9, 0), (9, 0)] _
  refine ev_iconst dX11_duties_33 (by decide) ?_
  refine ev_istore dX11_duties_34 rfl (by decide) ?_
  show Ev _ _ _ _ 36 _ _ _ [(2, (181 : Int)), (0, x1), (0, v5), (0, v6), (0, (0 : Int)), (9, 0)] _
  exact ev_sub (L2 := [(2, (181 : Int)), (0, x1), (0, v5), (0, v6), (0, (0 : Int)), (9, 0)]) (e_X11_duties_36 σ x1 v5 v6 (0 : Int) h K) ⟨.inr rfl, .inr rfl, .inr rfl, .inr rfl, .inr rfl, .inl rfl, trivial⟩
set_option maxHeartbeats 4000000 in
set_option maxRecDepth 20000 in
theorem e_X11_duties_16 (σ : Mem) (x1 : Int)  {q : Mem} (h : f_X11_duties_16 σ x1 = some q) : Ev M_X11_duties 218 218 (none, rho, q) 16 218 rho σ [(2, (181 : Int)), (0, x1), (9, 0), (9, 0), (9, 0), (9, 0)] [] := by
  unfold f_X11_duties_16 at h
  obtain ⟨e, hl, h⟩ := bind_of h
  refine loop_ev (K := K_X11_duties_16  (none, rho, q)) (b_X11_duties_16 ) FU (x1, σ) e hl ?_
  show Ev M_X11_duties 218 218 _ 197 218 rho e [(9, 0), (9, 0), (9, 0), (9, 0), (9, 0), (9, 0)] []
  replace h : some e = some q := h
  obtain rfl := Option.some.inj h
  exact ev_vret dX11_duties_197 rfl rfl
set_option maxHeartbeats 4000000 in
set_option maxRecDepth 20000 in
theorem c_X11_duties {σ : Mem}  {q : Mem} (h : f_X11_duties σ  = some q) : Ms yX11_duties M_X11_duties 218 218 [(2, (181 : Int))] rho σ (none, rho, q) := by
  refine Ms.of 5 (by decide +kernel) rfl (fun z => absurd z (by decide)) (fun _ _ _ => trivial) rfl rfl ?_
  unfold f_X11_duties at h
  show Ev M_X11_duties 218 218 _ 0 218 rho σ [(2, (181 : Int)), (9, 0), (9, 0), (9, 0), (9, 0), (9, 0)] []
  refine ev_aload_n dX11_duties_0 rfl (by decide) ?_
  obtain ⟨σ1, hc2, h⟩ := bind_of h
  refine ev_invV_n (k := (181 : Int)) (av := []) (st := []) (τ := σ1) dX11_duties_1 ml_X11_316 mv_X11_all (T := TX11) (ci := 10) rfl sp181 (by decide) (by decide) rfl ⟨Nat.le_of_ble_eq_true rfl, Nat.le_of_ble_eq_true rfl⟩ (Nat.le_of_ble_eq_true rfl) (c_X11_all hc2) ?_
  refine ev_aload_n dX11_duties_4 rfl (by decide) ?_
  refine ev_iconst dX11_duties_5 (by decide) ?_
  refine ev_putfG (j := 29) (t := 0) dX11_duties_6 cf_X11 wf_X11_319 sp181 (by decide) (by decide) rfl (by decide) (by decide) rfl (fun z => absurd z (by decide +kernel)) h (fun σ3 h => ?_)
  refine ev_aload_n dX11_duties_9 rfl (by decide) ?_
  refine ev_iconst dX11_duties_10 (by decide) ?_
  refine ev_putfG (j := 35) (t := 0) dX11_duties_11 cf_X11 wf_X11_322 sp181 (by decide) (by decide) rfl (by decide) (by decide) rfl (fun z => absurd z (by decide +kernel)) h (fun σ4 h => ?_)
  refine ev_iconst dX11_duties_14 (by decide) ?_
  refine ev_istore_n dX11_duties_15 rfl (by decide) ?_
  show Ev _ _ _ _ 16 _ _ _ [(2, (181 : Int)), (0, (0 : Int)), (9, 0), (9, 0), (9, 0), (9, 0)] _
  exact ev_sub (L2 := [(2, (181 : Int)), (0, (0 : Int)), (9, 0), (9, 0), (9, 0), (9, 0)]) (e_X11_duties_16 σ4 (0 : Int) h) ⟨.inr rfl, .inr rfl, .inl rfl, .inl rfl, .inl rfl, .inl rfl, trivial⟩
set_option maxHeartbeats 4000000 in
set_option maxRecDepth 20000 in
theorem c_X11_begin {σ : Mem} {x1 : Int}  {q : Int} (h : f_X11_begin σ x1 = some q) : Ms yX11_begin M_X11_begin 218 218 [(2, (181 : Int)), (0, x1)] rho σ (some (0, q), rho, σ) := by
  refine Ms.of 0 (by decide +kernel) rfl (fun z => absurd z (by decide)) (fun _ _ _ => trivial) rfl rfl ?_
  unfold f_X11_begin at h
  show Ev M_X11_begin 218 218 _ 0 218 rho σ [(2, (181 : Int)), (0, x1)] []
  refine ev_bipush dX11_begin_0 (by decide) (by decide) ?_
  refine ev_aload_n dX11_begin_2 rfl (by decide) ?_
  refine ev_getf (j := 31) (t := 2) (x := (206 : Int)) dX11_begin_3 cf_X11 wf_X11_84 sp181 (by decide) (by decide) rfl (by decide) (rp181_31 _) ?_
  refine ev_iload_n dX11_begin_6 rfl ?_
  refine ev_iald dX11_begin_7 sp206 (by decide) (by decide) h (fun h => ?_)
  refine ev_imul dX11_begin_8 ?_
  refine ev_aload_n dX11_begin_9 rfl (by decide) ?_
  refine ev_getf (j := 32) (t := 2) (x := (207 : Int)) dX11_begin_10 cf_X11 wf_X11_87 sp181 (by decide) (by decide) rfl (by decide) (rp181_32 _) ?_
  refine ev_iload_n dX11_begin_13 rfl ?_
  refine ev_iald dX11_begin_14 sp207 (by decide) (by decide) h (fun h => ?_)
  refine ev_iadd dX11_begin_15 ?_
  show Ev _ _ _ _ 16 _ _ _ _ _
  obtain rfl := Option.some.inj h
  exact ev_iret dX11_begin_16 rfl rfl
def K_X11_atOnce_17 (σ : Mem) (x1 x2 : Int) (r : Option V × Mem × Mem) : (Int × Int) ⊕ ((Int)) → Prop := Sum.elim (fun a => Ev M_X11_atOnce 218 218 r 17 218 rho σ [(2, (181 : Int)), (0, x1), (0, x2), (0, a.1), (0, a.2)] []) (fun e => Ev M_X11_atOnce 218 218 r 84 218 rho σ [(2, (181 : Int)), (0, x1), (0, x2), (0, e), (9, 0)] [])
def K_X11_atOnce_4 (σ : Mem) (r : Option V × Mem × Mem) : (Int × Int) ⊕ ((Int)) → Prop := Sum.elim (fun a => Ev M_X11_atOnce 218 218 r 4 218 rho σ [(2, (181 : Int)), (0, a.1), (0, a.2), (9, 0), (9, 0)] []) (fun e => Ev M_X11_atOnce 218 218 r 96 218 rho σ [(9, 0), (0, e), (9, 0), (9, 0), (9, 0)] [])
set_option maxHeartbeats 4000000 in
set_option maxRecDepth 20000 in
theorem e_X11_atOnce_76 (σ : Mem) (x1 x2 x4 s1 s0 : Int)  {q : ((Int × Int) ⊕ ((Int)))} (h : f_X11_atOnce_76 σ x1 x2 x4 s1 s0 = some q) {r : Option V × Mem × Mem} (K : K_X11_atOnce_17 σ x1 x2 r q) : Ev M_X11_atOnce 218 218 r 76 218 rho σ [(2, (181 : Int)), (0, x1), (0, x2), (9, 0), (0, x4)] [(0, s1), (0, s0)] := by
  unfold f_X11_atOnce_76 at h
  refine ev_iadd dX11_atOnce_76 ?_
  refine ev_istore_nG dX11_atOnce_77 h rfl (by decide) (fun v9 h => ?_)
  show Ev _ _ _ _ 78 _ _ _ [(2, (181 : Int)), (0, x1), (0, x2), (0, v9), (0, x4)] _
  refine ev_iincG dX11_atOnce_78 rfl h rfl (fun v10 h => ?_)
  show Ev _ _ _ _ 81 _ _ _ [(2, (181 : Int)), (0, x1), (0, x2), (0, v9), (0, v10)] _
  refine ev_goto (tgt := 17) dX11_atOnce_81 rfl ?_
  obtain rfl := Option.some.inj h
  exact ev_sub (L2 := [(2, (181 : Int)), (0, x1), (0, x2), (0, v9), (0, v10)]) K ⟨.inr rfl, .inr rfl, .inr rfl, .inr rfl, .inr rfl, trivial⟩
set_option maxHeartbeats 4000000 in
set_option maxRecDepth 20000 in
theorem e_X11_atOnce_75 (σ : Mem) (x1 x2 x4 s0 : Int)  {q : ((Int × Int) ⊕ ((Int)))} (h : f_X11_atOnce_75 σ x1 x2 x4 s0 = some q) {r : Option V × Mem × Mem} (K : K_X11_atOnce_17 σ x1 x2 r q) : Ev M_X11_atOnce 218 218 r 75 218 rho σ [(2, (181 : Int)), (0, x1), (0, x2), (9, 0), (0, x4)] [(0, s0)] := by
  unfold f_X11_atOnce_75 at h
  refine ev_iconst dX11_atOnce_75 (by decide) ?_
  exact ev_sub (L2 := [(2, (181 : Int)), (0, x1), (0, x2), (9, 0), (0, x4)]) (e_X11_atOnce_76 σ x1 x2 x4 (0 : Int) s0 h K) ⟨.inr rfl, .inr rfl, .inr rfl, .inl rfl, .inr rfl, trivial⟩
set_option maxHeartbeats 4000000 in
set_option maxRecDepth 20000 in
theorem e_X11_atOnce_84 (σ : Mem) (x1 x2 x3 : Int)  {q : ((Int × Int) ⊕ ((Int)))} (h : f_X11_atOnce_84 σ x1 x2 x3 = some q) {r : Option V × Mem × Mem} (K : K_X11_atOnce_4 σ r q) : Ev M_X11_atOnce 218 218 r 84 218 rho σ [(2, (181 : Int)), (0, x1), (0, x2), (0, x3), (9, 0)] [] := by
  unfold f_X11_atOnce_84 at h
  refine ev_iload_n dX11_atOnce_84 rfl ?_
  refine ev_iload_n dX11_atOnce_85 rfl ?_
  refine ev_mx dX11_atOnce_86 wa_X11_258 wm_max (by decide) (Nat.le_of_ble_eq_true rfl) ?_
  refine ev_istore_nG dX11_atOnce_89 h rfl (by decide) (fun v11 h => ?_)
  show Ev _ _ _ _ 90 _ _ _ [(2, (181 : Int)), (0, v11), (0, x2), (0, x3), (9, 0)] _
  refine ev_iincG dX11_atOnce_90 rfl h rfl (fun v12 h => ?_)
  show Ev _ _ _ _ 93 _ _ _ [(2, (181 : Int)), (0, v11), (0, v12), (0, x3), (9, 0)] _
  refine ev_goto (tgt := 4) dX11_atOnce_93 rfl ?_
  obtain rfl := Option.some.inj h
  exact ev_sub (L2 := [(2, (181 : Int)), (0, v11), (0, v12), (9, 0), (9, 0)]) K ⟨.inr rfl, .inr rfl, .inr rfl, .inl rfl, .inl rfl, trivial⟩
set_option maxHeartbeats 4000000 in
set_option maxRecDepth 20000 in
theorem b_X11_atOnce_17 (σ : Mem) (x1 x2 : Int)  {r : Option V × Mem × Mem} : ∀ a x, f_X11_atOnce_17B σ x1 x2 a = some x → K_X11_atOnce_17 σ x1 x2 r x → K_X11_atOnce_17 σ x1 x2 r (.inl a) := by
  intro a x h K
  obtain ⟨x3, x4⟩ := a
  have h : f_X11_atOnce_17C σ x1 x2 x3 x4 = some x := h
  unfold f_X11_atOnce_17C at h
  show Ev M_X11_atOnce 218 218 r 17 218 rho σ [(2, (181 : Int)), (0, x1), (0, x2), (0, x3), (0, x4)] []
  refine ev_iload dX11_atOnce_17 rfl ?_
  refine ev_aload_n dX11_atOnce_19 rfl (by decide) ?_
  refine ev_getf (j := 29) (t := 0) (x := (σ (181 : Int) 29)) dX11_atOnce_20 cf_X11 wf_X11_319 sp181 (by decide) (by decide) rfl (by decide) rfl ?_
  refine ev_icmp_ge (tgt := 84) dX11_atOnce_23 rfl h (fun cb h => ?_) (fun cb h => ?_)
  · obtain rfl := Option.some.inj h
    exact ev_sub (L2 := [(2, (181 : Int)), (0, x1), (0, x2), (0, x3), (9, 0)]) K ⟨.inr rfl, .inr rfl, .inr rfl, .inr rfl, .inl rfl, trivial⟩
  refine ev_iload_n dX11_atOnce_26 rfl ?_
  refine ev_aload_n dX11_atOnce_27 rfl (by decide) ?_
  refine ev_iload dX11_atOnce_28 rfl ?_
  obtain ⟨v1, hc2, h⟩ := bind_of h
  refine ev_invV_v (k := (181 : Int)) (av := [(0, x4)]) (st := [(0, x3)]) (v := (0, v1)) (τ := σ) dX11_atOnce_30 ml_X11_331 mv_X11_begin (T := TX11) (ci := 10) rfl sp181 (by decide) (by decide) rfl ⟨Nat.le_of_ble_eq_true rfl, Nat.le_of_ble_eq_true rfl⟩ (Nat.le_of_ble_eq_true rfl) (c_X11_begin hc2) ?_
  refine ev_aload_n dX11_atOnce_33 rfl (by decide) ?_
  refine ev_iload_n dX11_atOnce_34 rfl ?_
  obtain ⟨v3, hc4, h⟩ := bind_of h
  refine ev_invV_v (k := (181 : Int)) (av := [(0, x2)]) (st := [(0, v1), (0, x3)]) (v := (0, v3)) (τ := σ) dX11_atOnce_35 ml_X11_331 mv_X11_begin (T := TX11) (ci := 10) rfl sp181 (by decide) (by decide) rfl ⟨Nat.le_of_ble_eq_true rfl, Nat.le_of_ble_eq_true rfl⟩ (Nat.le_of_ble_eq_true rfl) (c_X11_begin hc4) ?_
  refine ev_icmp_gt (tgt := 75) dX11_atOnce_38 rfl h (fun cb h => ?_) (fun cb h => ?_)
  · exact ev_sub (L2 := [(2, (181 : Int)), (0, x1), (0, x2), (9, 0), (0, x4)]) (e_X11_atOnce_75 σ x1 x2 x4 x3 h K) ⟨.inr rfl, .inr rfl, .inr rfl, .inl rfl, .inr rfl, trivial⟩
  refine ev_aload_n dX11_atOnce_41 rfl (by decide) ?_
  refine ev_iload_n dX11_atOnce_42 rfl ?_
  obtain ⟨v5, hc6, h⟩ := bind_of h
  refine ev_invV_v (k := (181 : Int)) (av := [(0, x2)]) (st := [(0, x3)]) (v := (0, v5)) (τ := σ) dX11_atOnce_43 ml_X11_331 mv_X11_begin (T := TX11) (ci := 10) rfl sp181 (by decide) (by decide) rfl ⟨Nat.le_of_ble_eq_true rfl, Nat.le_of_ble_eq_true rfl⟩ (Nat.le_of_ble_eq_true rfl) (c_X11_begin hc6) ?_
  refine ev_aload_n dX11_atOnce_46 rfl (by decide) ?_
  refine ev_iload dX11_atOnce_47 rfl ?_
  obtain ⟨v7, hc8, h⟩ := bind_of h
  refine ev_invV_v (k := (181 : Int)) (av := [(0, x4)]) (st := [(0, v5), (0, x3)]) (v := (0, v7)) (τ := σ) dX11_atOnce_49 ml_X11_331 mv_X11_begin (T := TX11) (ci := 10) rfl sp181 (by decide) (by decide) rfl ⟨Nat.le_of_ble_eq_true rfl, Nat.le_of_ble_eq_true rfl⟩ (Nat.le_of_ble_eq_true rfl) (c_X11_begin hc8) ?_
  refine ev_aload_n dX11_atOnce_52 rfl (by decide) ?_
  refine ev_getf (j := 33) (t := 2) (x := (208 : Int)) dX11_atOnce_53 cf_X11 wf_X11_90 sp181 (by decide) (by decide) rfl (by decide) (rp181_33 _) ?_
  refine ev_iload dX11_atOnce_56 rfl ?_
  refine ev_iald dX11_atOnce_58 sp208 (by decide) (by decide) h (fun h => ?_)
  refine ev_iadd dX11_atOnce_59 ?_
  show Ev _ _ _ _ 60 _ _ _ _ _
  refine ev_aload_n dX11_atOnce_60 rfl (by decide) ?_
  refine ev_getf (j := 0) (t := 2) (x := (182 : Int)) dX11_atOnce_61 cf_X11 wf_X11_7 sp181 (by decide) (by decide) rfl (by decide) (rp181_0 _) ?_
  refine ev_bipush dX11_atOnce_64 (by decide) (by decide) ?_
  refine ev_iald dX11_atOnce_66 sp182 (by decide) (by decide) h (fun h => ?_)
  refine ev_iadd dX11_atOnce_67 ?_
  refine ev_icmp_ge (tgt := 75) dX11_atOnce_68 rfl h (fun cb h => ?_) (fun cb h => ?_)
  · exact ev_sub (L2 := [(2, (181 : Int)), (0, x1), (0, x2), (9, 0), (0, x4)]) (e_X11_atOnce_75 σ x1 x2 x4 x3 h K) ⟨.inr rfl, .inr rfl, .inr rfl, .inl rfl, .inr rfl, trivial⟩
  refine ev_iconst dX11_atOnce_71 (by decide) ?_
  refine ev_goto (tgt := 76) dX11_atOnce_72 rfl ?_
  exact ev_sub (L2 := [(2, (181 : Int)), (0, x1), (0, x2), (9, 0), (0, x4)]) (e_X11_atOnce_76 σ x1 x2 x4 (1 : Int) x3 h K) ⟨.inr rfl, .inr rfl, .inr rfl, .inl rfl, .inr rfl, trivial⟩
set_option maxHeartbeats 4000000 in
set_option maxRecDepth 20000 in
theorem e_X11_atOnce_17 (σ : Mem) (x1 x2 x3 x4 : Int)  {q : ((Int × Int) ⊕ ((Int)))} (h : f_X11_atOnce_17 σ x1 x2 x3 x4 = some q) {r : Option V × Mem × Mem} (K : K_X11_atOnce_4 σ r q) : Ev M_X11_atOnce 218 218 r 17 218 rho σ [(2, (181 : Int)), (0, x1), (0, x2), (0, x3), (0, x4)] [] := by
  unfold f_X11_atOnce_17 at h
  obtain ⟨e, hl, h⟩ := bind_of h
  refine loop_ev (K := K_X11_atOnce_17 σ x1 x2 r) (b_X11_atOnce_17 σ x1 x2) FU (x3, x4) e hl ?_
  show Ev M_X11_atOnce 218 218 r 84 218 rho σ [(2, (181 : Int)), (0, x1), (0, x2), (0, e), (9, 0)] []
  replace h : f_X11_atOnce_84 σ x1 x2 e = some q := h
  exact ev_sub (L2 := [(2, (181 : Int)), (0, x1), (0, x2), (0, e), (9, 0)]) (e_X11_atOnce_84 σ x1 x2 e h K) ⟨.inr rfl, .inr rfl, .inr rfl, .inr rfl, .inl rfl, trivial⟩
set_option maxHeartbeats 4000000 in
set_option maxRecDepth 20000 in
theorem b_X11_atOnce_4 (σ : Mem)  {r : Option V × Mem × Mem} : ∀ a x, f_X11_atOnce_4B σ a = some x → K_X11_atOnce_4 σ r x → K_X11_atOnce_4 σ r (.inl a) := by
  intro a x h K
  obtain ⟨x1, x2⟩ := a
  have h : f_X11_atOnce_4C σ x1 x2 = some x := h
  unfold f_X11_atOnce_4C at h
  show Ev M_X11_atOnce 218 218 r 4 218 rho σ [(2, (181 : Int)), (0, x1), (0, x2), (9, 0), (9, 0)] []
  refine ev_iload_n dX11_atOnce_4 rfl ?_
  refine ev_aload_n dX11_atOnce_5 rfl (by decide) ?_
  refine ev_getf (j := 29) (t := 0) (x := (σ (181 : Int) 29)) dX11_atOnce_6 cf_X11 wf_X11_319 sp181 (by decide) (by decide) rfl (by decide) rfl ?_
  refine ev_icmp_ge (tgt := 96) dX11_atOnce_9 rfl h (fun cb h => ?_) (fun cb h => ?_)
  · obtain rfl := Option.some.inj h
    exact ev_sub (L2 := [(9, 0), (0, x1), (9, 0), (9, 0), (9, 0)]) K ⟨.inl rfl, .inr rfl, .inl rfl, .inl rfl, .inl rfl, trivial⟩
  refine ev_iconst dX11_atOnce_12 (by decide) ?_
  refine ev_istore_n dX11_atOnce_13 rfl (by decide) ?_
  show Ev _ _ _ _ 14 _ _ _ [(2, (181 : Int)), (0, x1), (0, x2), (0, (0 : Int)), (9, 0)] _
  refine ev_iconst dX11_atOnce_14 (by decide) ?_
  refine ev_istore dX11_atOnce_15 rfl (by decide) ?_
  show Ev _ _ _ _ 17 _ _ _ [(2, (181 : Int)), (0, x1), (0, x2), (0, (0 : Int)), (0, (0 : Int))] _
  exact ev_sub (L2 := [(2, (181 : Int)), (0, x1), (0, x2), (0, (0 : Int)), (0, (0 : Int))]) (e_X11_atOnce_17 σ x1 x2 (0 : Int) (0 : Int) h K) ⟨.inr rfl, .inr rfl, .inr rfl, .inr rfl, .inr rfl, trivial⟩
set_option maxHeartbeats 4000000 in
set_option maxRecDepth 20000 in
theorem e_X11_atOnce_4 (σ : Mem) (x1 x2 : Int)  {q : Int} (h : f_X11_atOnce_4 σ x1 x2 = some q) : Ev M_X11_atOnce 218 218 (some (0, q), rho, σ) 4 218 rho σ [(2, (181 : Int)), (0, x1), (0, x2), (9, 0), (9, 0)] [] := by
  unfold f_X11_atOnce_4 at h
  obtain ⟨e, hl, h⟩ := bind_of h
  refine loop_ev (K := K_X11_atOnce_4 σ (some (0, q), rho, σ)) (b_X11_atOnce_4 σ) FU (x1, x2) e hl ?_
  show Ev M_X11_atOnce 218 218 _ 96 218 rho σ [(9, 0), (0, e), (9, 0), (9, 0), (9, 0)] []
  replace h : some e = some q := h
  refine ev_iload_n dX11_atOnce_96 rfl ?_
  obtain rfl := Option.some.inj h
  exact ev_iret dX11_atOnce_97 rfl rfl
set_option maxHeartbeats 4000000 in
set_option maxRecDepth 20000 in
theorem c_X11_atOnce {σ : Mem}  {q : Int} (h : f_X11_atOnce σ  = some q) : Ms yX11_atOnce M_X11_atOnce 218 218 [(2, (181 : Int))] rho σ (some (0, q), rho, σ) := by
  refine Ms.of 4 (by decide +kernel) rfl (fun z => absurd z (by decide)) (fun _ _ _ => trivial) rfl rfl ?_
  unfold f_X11_atOnce at h
  show Ev M_X11_atOnce 218 218 _ 0 218 rho σ [(2, (181 : Int)), (9, 0), (9, 0), (9, 0), (9, 0)] []
  refine ev_iconst dX11_atOnce_0 (by decide) ?_
  refine ev_istore_n dX11_atOnce_1 rfl (by decide) ?_
  show Ev _ _ _ _ 2 _ _ _ [(2, (181 : Int)), (0, (0 : Int)), (9, 0), (9, 0), (9, 0)] _
  refine ev_iconst dX11_atOnce_2 (by decide) ?_
  refine ev_istore_n dX11_atOnce_3 rfl (by decide) ?_
  show Ev _ _ _ _ 4 _ _ _ [(2, (181 : Int)), (0, (0 : Int)), (0, (0 : Int)), (9, 0), (9, 0)] _
  exact ev_sub (L2 := [(2, (181 : Int)), (0, (0 : Int)), (0, (0 : Int)), (9, 0), (9, 0)]) (e_X11_atOnce_4 σ (0 : Int) (0 : Int) h) ⟨.inr rfl, .inr rfl, .inr rfl, .inl rfl, .inl rfl, trivial⟩
set_option maxHeartbeats 4000000 in
set_option maxRecDepth 20000 in
theorem c_X11_watch {σ : Mem} {x1 : Int}  {q : (Int × Mem)} (h : f_X11_watch σ x1 = some q) : Ms yX11_watch M_X11_watch 218 218 [(2, (181 : Int)), (0, x1)] rho σ (some (0, q.1), rho, q.2) := by
  refine Ms.of 0 (by decide +kernel) rfl (fun z => absurd z (by decide)) (fun _ _ _ => trivial) rfl rfl ?_
  unfold f_X11_watch at h
  show Ev M_X11_watch 218 218 _ 0 218 rho σ [(2, (181 : Int)), (0, x1)] []
  refine ev_iload_n dX11_watch_0 rfl ?_
  refine ev_i2lk dX11_watch_1 ?_
  refine ev_lconst (x := (0 : Int)) dX11_watch_2 (by decide) (by decide) ?_
  refine ev_ldc2 (x := (2 : Int)) dX11_watch_3 wc_X11_308 (by decide) (by decide) ?_
  obtain ⟨v1, hc2, h⟩ := bind_of h
  refine ev_invS_v (av := [(1, x1), (1, (0 : Int)), (1, (2 : Int))]) (st := []) (v := (0, v1)) (τ := σ) dX11_watch_6 ml_X11_120 mt_X11_isIn rfl ⟨Nat.le_of_ble_eq_true rfl, Nat.le_of_ble_eq_true rfl⟩ (Nat.le_of_ble_eq_true rfl) (c_X11_isIn hc2) ?_
  refine ev_if_ne (tgt := 19) dX11_watch_9 rfl h (fun cb h => ?_) (fun cb h => ?_)
  · refine ev_aload_n dX11_watch_19 rfl (by decide) ?_
    obtain ⟨σ3, hc4, h⟩ := bind_of h
    refine ev_invV_n (k := (181 : Int)) (av := []) (st := []) (τ := σ3) dX11_watch_20 ml_X11_334 mv_X11_duties (T := TX11) (ci := 10) rfl sp181 (by decide) (by decide) rfl ⟨Nat.le_of_ble_eq_true rfl, Nat.le_of_ble_eq_true rfl⟩ (Nat.le_of_ble_eq_true rfl) (c_X11_duties hc4) ?_
    refine ev_iload_n dX11_watch_23 rfl ?_
    refine ev_if_ne (tgt := 34) dX11_watch_24 rfl h (fun cb h => ?_) (fun cb h => ?_)
    · refine ev_iload_n dX11_watch_34 rfl ?_
      refine ev_iconst dX11_watch_35 (by decide) ?_
      refine ev_icmp_ne (tgt := 46) dX11_watch_36 rfl h (fun cb h => ?_) (fun cb h => ?_)
      · refine ev_aload_n dX11_watch_46 rfl (by decide) ?_
        obtain ⟨v5, hc6, h⟩ := bind_of h
        refine ev_invV_v (k := (181 : Int)) (av := []) (st := []) (v := (0, v5)) (τ := σ3) dX11_watch_47 ml_X11_337 mv_X11_atOnce (T := TX11) (ci := 10) rfl sp181 (by decide) (by decide) rfl ⟨Nat.le_of_ble_eq_true rfl, Nat.le_of_ble_eq_true rfl⟩ (Nat.le_of_ble_eq_true rfl) (c_X11_atOnce hc6) ?_
        obtain rfl := Option.some.inj h
        dsimp only
        exact ev_iret dX11_watch_50 rfl rfl
      refine ev_aload_n dX11_watch_39 rfl (by decide) ?_
      refine ev_getf (j := 35) (t := 0) (x := (σ3 (181 : Int) 35)) dX11_watch_40 cf_X11 wf_X11_322 sp181 (by decide) (by decide) rfl (by decide) rfl ?_
      refine ev_goto (tgt := 50) dX11_watch_43 rfl ?_
      obtain rfl := Option.some.inj h
      dsimp only
      exact ev_iret dX11_watch_50 rfl rfl
    refine ev_aload_n dX11_watch_27 rfl (by decide) ?_
    refine ev_getf (j := 29) (t := 0) (x := (σ3 (181 : Int) 29)) dX11_watch_28 cf_X11 wf_X11_319 sp181 (by decide) (by decide) rfl (by decide) rfl ?_
    refine ev_goto (tgt := 50) dX11_watch_31 rfl ?_
    obtain rfl := Option.some.inj h
    dsimp only
    exact ev_iret dX11_watch_50 rfl rfl
  refine ev_aload_n dX11_watch_12 rfl (by decide) ?_
  refine ev_bipush dX11_watch_13 (by decide) (by decide) ?_
  obtain ⟨v7, hc8, h⟩ := bind_of h
  refine ev_invV_v (k := (181 : Int)) (av := [(0, (-52 : Int))]) (st := []) (v := (0, v7.1)) (τ := v7.2) dX11_watch_15 ml_X11_151 mv_X11_no (T := TX11) (ci := 10) rfl sp181 (by decide) (by decide) rfl ⟨Nat.le_of_ble_eq_true rfl, Nat.le_of_ble_eq_true rfl⟩ (Nat.le_of_ble_eq_true rfl) (c_X11_no hc8) ?_
  obtain rfl := Option.some.inj h
  dsimp only
  exact ev_iret dX11_watch_18 rfl rfl
set_option maxHeartbeats 4000000 in
set_option maxRecDepth 20000 in
theorem c_X11_duty {σ : Mem} {x1 x2 : Int}  {q : (Int × Mem)} (h : f_X11_duty σ x1 x2 = some q) : Ms yX11_duty M_X11_duty 218 218 [(2, (181 : Int)), (0, x1), (0, x2)] rho σ (some (0, q.1), rho, q.2) := by
  refine Ms.of 0 (by decide +kernel) rfl (fun z => absurd z (by decide)) (fun _ _ _ => trivial) rfl rfl ?_
  unfold f_X11_duty at h
  show Ev M_X11_duty 218 218 _ 0 218 rho σ [(2, (181 : Int)), (0, x1), (0, x2)] []
  refine ev_iload_n dX11_duty_0 rfl ?_
  refine ev_i2lk dX11_duty_1 ?_
  refine ev_lconst (x := (0 : Int)) dX11_duty_2 (by decide) (by decide) ?_
  refine ev_ldc2 (x := (4 : Int)) dX11_duty_3 wc_X11_124 (by decide) (by decide) ?_
  obtain ⟨v1, hc2, h⟩ := bind_of h
  refine ev_invS_v (av := [(1, x2), (1, (0 : Int)), (1, (4 : Int))]) (st := []) (v := (0, v1)) (τ := σ) dX11_duty_6 ml_X11_120 mt_X11_isIn rfl ⟨Nat.le_of_ble_eq_true rfl, Nat.le_of_ble_eq_true rfl⟩ (Nat.le_of_ble_eq_true rfl) (c_X11_isIn hc2) ?_
  refine ev_if_ne (tgt := 19) dX11_duty_9 rfl h (fun cb h => ?_) (fun cb h => ?_)
  · refine ev_aload_n dX11_duty_19 rfl (by decide) ?_
    obtain ⟨σ3, hc4, h⟩ := bind_of h
    refine ev_invV_n (k := (181 : Int)) (av := []) (st := []) (τ := σ3) dX11_duty_20 ml_X11_334 mv_X11_duties (T := TX11) (ci := 10) rfl sp181 (by decide) (by decide) rfl ⟨Nat.le_of_ble_eq_true rfl, Nat.le_of_ble_eq_true rfl⟩ (Nat.le_of_ble_eq_true rfl) (c_X11_duties hc4) ?_
    refine ev_iload_n dX11_duty_23 rfl ?_
    refine ev_i2lk dX11_duty_24 ?_
    refine ev_lconst (x := (0 : Int)) dX11_duty_25 (by decide) (by decide) ?_
    refine ev_aload_n dX11_duty_26 rfl (by decide) ?_
    refine ev_getf (j := 29) (t := 0) (x := (σ3 (181 : Int) 29)) dX11_duty_27 cf_X11 wf_X11_319 sp181 (by decide) (by decide) rfl (by decide) rfl ?_
    refine ev_iconst dX11_duty_30 (by decide) ?_
    refine ev_isub dX11_duty_31 ?_
    refine ev_i2lk dX11_duty_32 ?_
    obtain ⟨v5, hc6, h⟩ := bind_of h
    refine ev_invS_v (av := [(1, x1), (1, (0 : Int)), (1, (jsub (σ3 (181 : Int) 29) (1 : Int)))]) (st := []) (v := (0, v5)) (τ := σ3) dX11_duty_33 ml_X11_120 mt_X11_isIn rfl ⟨Nat.le_of_ble_eq_true rfl, Nat.le_of_ble_eq_true rfl⟩ (Nat.le_of_ble_eq_true rfl) (c_X11_isIn hc6) ?_
    show Ev _ _ _ _ 36 _ _ _ _ _
    refine ev_if_ne (tgt := 46) dX11_duty_36 rfl h (fun cb h => ?_) (fun cb h => ?_)
    · refine ev_iload_n dX11_duty_46 rfl ?_
      refine ev_if_ne (tgt := 59) dX11_duty_47 rfl h (fun cb h => ?_) (fun cb h => ?_)
      · refine ev_iload_n dX11_duty_59 rfl ?_
        refine ev_iconst dX11_duty_60 (by decide) ?_
        refine ev_icmp_ne (tgt := 73) dX11_duty_61 rfl h (fun cb h => ?_) (fun cb h => ?_)
        · refine ev_iload_n dX11_duty_73 rfl ?_
          refine ev_iconst dX11_duty_74 (by decide) ?_
          refine ev_icmp_ne (tgt := 87) dX11_duty_75 rfl h (fun cb h => ?_) (fun cb h => ?_)
          · refine ev_iload_n dX11_duty_87 rfl ?_
            refine ev_iconst dX11_duty_88 (by decide) ?_
            refine ev_icmp_ne (tgt := 101) dX11_duty_89 rfl h (fun cb h => ?_) (fun cb h => ?_)
            · refine ev_aload_n dX11_duty_101 rfl (by decide) ?_
              refine ev_getf (j := 34) (t := 2) (x := (209 : Int)) dX11_duty_102 cf_X11 wf_X11_93 sp181 (by decide) (by decide) rfl (by decide) (rp181_34 _) ?_
              refine ev_iload_n dX11_duty_105 rfl ?_
              refine ev_iald dX11_duty_106 sp209 (by decide) (by decide) h (fun h => ?_)
              obtain rfl := Option.some.inj h
              dsimp only
              exact ev_iret dX11_duty_107 rfl rfl
            refine ev_aload_n dX11_duty_92 rfl (by decide) ?_
            refine ev_getf (j := 33) (t := 2) (x := (208 : Int)) dX11_duty_93 cf_X11 wf_X11_90 sp181 (by decide) (by decide) rfl (by decide) (rp181_33 _) ?_
            refine ev_iload_n dX11_duty_96 rfl ?_
            refine ev_iald dX11_duty_97 sp208 (by decide) (by decide) h (fun h => ?_)
            refine ev_goto (tgt := 107) dX11_duty_98 rfl ?_
            obtain rfl := Option.some.inj h
            dsimp only
            exact ev_iret dX11_duty_107 rfl rfl
          refine ev_aload_n dX11_duty_78 rfl (by decide) ?_
          refine ev_getf (j := 32) (t := 2) (x := (207 : Int)) dX11_duty_79 cf_X11 wf_X11_87 sp181 (by decide) (by decide) rfl (by decide) (rp181_32 _) ?_
          refine ev_iload_n dX11_duty_82 rfl ?_
          refine ev_iald dX11_duty_83 sp207 (by decide) (by decide) h (fun h => ?_)
          refine ev_goto (tgt := 107) dX11_duty_84 rfl ?_
          obtain rfl := Option.some.inj h
          dsimp only
          exact ev_iret dX11_duty_107 rfl rfl
        refine ev_aload_n dX11_duty_64 rfl (by decide) ?_
        refine ev_getf (j := 31) (t := 2) (x := (206 : Int)) dX11_duty_65 cf_X11 wf_X11_84 sp181 (by decide) (by decide) rfl (by decide) (rp181_31 _) ?_
        refine ev_iload_n dX11_duty_68 rfl ?_
        refine ev_iald dX11_duty_69 sp206 (by decide) (by decide) h (fun h => ?_)
        refine ev_goto (tgt := 107) dX11_duty_70 rfl ?_
        obtain rfl := Option.some.inj h
        dsimp only
        exact ev_iret dX11_duty_107 rfl rfl
      refine ev_aload_n dX11_duty_50 rfl (by decide) ?_
      refine ev_getf (j := 30) (t := 2) (x := (205 : Int)) dX11_duty_51 cf_X11 wf_X11_81 sp181 (by decide) (by decide) rfl (by decide) (rp181_30 _) ?_
      refine ev_iload_n dX11_duty_54 rfl ?_
      refine ev_iald dX11_duty_55 sp205 (by decide) (by decide) h (fun h => ?_)
      refine ev_goto (tgt := 107) dX11_duty_56 rfl ?_
      obtain rfl := Option.some.inj h
      dsimp only
      exact ev_iret dX11_duty_107 rfl rfl
    refine ev_aload_n dX11_duty_39 rfl (by decide) ?_
    refine ev_bipush dX11_duty_40 (by decide) (by decide) ?_
    obtain ⟨v7, hc8, h⟩ := bind_of h
    refine ev_invV_v (k := (181 : Int)) (av := [(0, (-52 : Int))]) (st := []) (v := (0, v7.1)) (τ := v7.2) dX11_duty_42 ml_X11_151 mv_X11_no (T := TX11) (ci := 10) rfl sp181 (by decide) (by decide) rfl ⟨Nat.le_of_ble_eq_true rfl, Nat.le_of_ble_eq_true rfl⟩ (Nat.le_of_ble_eq_true rfl) (c_X11_no hc8) ?_
    obtain rfl := Option.some.inj h
    dsimp only
    exact ev_iret dX11_duty_45 rfl rfl
  refine ev_aload_n dX11_duty_12 rfl (by decide) ?_
  refine ev_bipush dX11_duty_13 (by decide) (by decide) ?_
  obtain ⟨v9, hc10, h⟩ := bind_of h
  refine ev_invV_v (k := (181 : Int)) (av := [(0, (-52 : Int))]) (st := []) (v := (0, v9.1)) (τ := v9.2) dX11_duty_15 ml_X11_151 mv_X11_no (T := TX11) (ci := 10) rfl sp181 (by decide) (by decide) rfl ⟨Nat.le_of_ble_eq_true rfl, Nat.le_of_ble_eq_true rfl⟩ (Nat.le_of_ble_eq_true rfl) (c_X11_no hc10) ?_
  obtain rfl := Option.some.inj h
  dsimp only
  exact ev_iret dX11_duty_18 rfl rfl
def K_X11_piecesOf_45 (σ : Mem) (x1 x2 x3 x4 : Int) (r : Option V × Mem × Mem) : (Int) ⊕ ((Int)) → Prop := Sum.elim (fun a => Ev M_X11_piecesOf 218 218 r 45 218 rho σ [(2, (181 : Int)), (0, x1), (0, x2), (0, x3), (0, x4), (0, a)] []) (fun e => Ev M_X11_piecesOf 218 218 r 66 218 rho σ [(2, (181 : Int)), (0, x1), (0, x2), (0, x3), (9, 0), (0, e)] [])
def K_X11_piecesOf_7 (x1 x2 : Int) (r : Option V × Mem × Mem) : (Int × Mem) ⊕ ((Mem)) → Prop := Sum.elim (fun a => Ev M_X11_piecesOf 218 218 r 7 218 rho a.2 [(2, (181 : Int)), (0, x1), (0, x2), (0, a.1), (9, 0), (9, 0)] []) (fun e => Ev M_X11_piecesOf 218 218 r 103 218 rho e [(9, 0), (9, 0), (9, 0), (9, 0), (9, 0), (9, 0)] [])
set_option maxHeartbeats 4000000 in
set_option maxRecDepth 20000 in
theorem e_X11_piecesOf_97 (σ : Mem) (x1 x2 x3 : Int)  {q : ((Int × Mem) ⊕ ((Mem)))} (h : f_X11_piecesOf_97 σ x1 x2 x3 = some q) {r : Option V × Mem × Mem} (K : K_X11_piecesOf_7 x1 x2 r q) : Ev M_X11_piecesOf 218 218 r 97 218 rho σ [(2, (181 : Int)), (0, x1), (0, x2), (0, x3), (9, 0), (9, 0)] [] := by
  unfold f_X11_piecesOf_97 at h
  refine ev_iincG dX11_piecesOf_97 rfl h rfl (fun v6 h => ?_)
  show Ev _ _ _ _ 100 _ _ _ [(2, (181 : Int)), (0, x1), (0, x2), (0, v6), (9, 0), (9, 0)] _
  refine ev_goto (tgt := 7) dX11_piecesOf_100 rfl ?_
  obtain rfl := Option.some.inj h
  exact ev_sub (L2 := [(2, (181 : Int)), (0, x1), (0, x2), (0, v6), (9, 0), (9, 0)]) K ⟨.inr rfl, .inr rfl, .inr rfl, .inr rfl, .inl rfl, .inl rfl, trivial⟩
set_option maxHeartbeats 4000000 in
set_option maxRecDepth 20000 in
theorem e_X11_piecesOf_66 (σ : Mem) (x1 x2 x3 x5 : Int)  {q : ((Int × Mem) ⊕ ((Mem)))} (h : f_X11_piecesOf_66 σ x1 x2 x3 x5 = some q) {r : Option V × Mem × Mem} (K : K_X11_piecesOf_7 x1 x2 r q) : Ev M_X11_piecesOf 218 218 r 66 218 rho σ [(2, (181 : Int)), (0, x1), (0, x2), (0, x3), (9, 0), (0, x5)] [] := by
  unfold f_X11_piecesOf_66 at h
  refine ev_aload_n dX11_piecesOf_66 rfl (by decide) ?_
  refine ev_getf (j := 38) (t := 2) (x := (211 : Int)) dX11_piecesOf_67 cf_X11 wf_X11_99 sp181 (by decide) (by decide) rfl (by decide) (rp181_38 _) ?_
  refine ev_aload_n dX11_piecesOf_70 rfl (by decide) ?_
  refine ev_getf (j := 37) (t := 0) (x := (σ (181 : Int) 37)) dX11_piecesOf_71 cf_X11 wf_X11_340 sp181 (by decide) (by decide) rfl (by decide) rfl ?_
  refine ev_iload_n dX11_piecesOf_74 rfl ?_
  refine ev_iastG dX11_piecesOf_75 sp211 (by decide) (by decide) h (fun σ10 h => ?_)
  refine ev_aload_n dX11_piecesOf_76 rfl (by decide) ?_
  refine ev_getf (j := 39) (t := 2) (x := (212 : Int)) dX11_piecesOf_77 cf_X11 wf_X11_102 sp181 (by decide) (by decide) rfl (by decide) (rp181_39 _) ?_
  refine ev_aload_n dX11_piecesOf_80 rfl (by decide) ?_
  refine ev_getf (j := 37) (t := 0) (x := (σ10 (181 : Int) 37)) dX11_piecesOf_81 cf_X11 wf_X11_340 sp181 (by decide) (by decide) rfl (by decide) rfl ?_
  refine ev_iload dX11_piecesOf_84 rfl ?_
  show Ev _ _ _ _ 86 _ _ _ _ _
  refine ev_iastG dX11_piecesOf_86 sp212 (by decide) (by decide) h (fun σ11 h => ?_)
  refine ev_aload_n dX11_piecesOf_87 rfl (by decide) ?_
  refine ev_dup dX11_piecesOf_88 (show (2 : Nat) ≠ 1 by decide) ?_
  refine ev_getf (j := 37) (t := 0) (x := (σ11 (181 : Int) 37)) dX11_piecesOf_89 cf_X11 wf_X11_340 sp181 (by decide) (by decide) rfl (by decide) rfl ?_
  refine ev_iconst dX11_piecesOf_92 (by decide) ?_
  refine ev_iadd dX11_piecesOf_93 ?_
  refine ev_putfG (j := 37) (t := 0) dX11_piecesOf_94 cf_X11 wf_X11_340 sp181 (by decide) (by decide) rfl (by decide) (by decide) rfl (fun z => absurd z (by decide +kernel)) h (fun σ12 h => ?_)
  exact ev_sub (L2 := [(2, (181 : Int)), (0, x1), (0, x2), (0, x3), (9, 0), (9, 0)]) (e_X11_piecesOf_97 σ12 x1 x2 x3 h K) ⟨.inr rfl, .inr rfl, .inr rfl, .inr rfl, .inl rfl, .inl rfl, trivial⟩
set_option maxHeartbeats 4000000 in
set_option maxRecDepth 20000 in
theorem b_X11_piecesOf_45 (σ : Mem) (x1 x2 x3 x4 : Int)  {r : Option V × Mem × Mem} : ∀ a x, f_X11_piecesOf_45B σ x1 x2 x3 x4 a = some x → K_X11_piecesOf_45 σ x1 x2 x3 x4 r x → K_X11_piecesOf_45 σ x1 x2 x3 x4 r (.inl a) := by
  intro a x h K
  have ⟨x5, ea⟩ : ∃ z, z = a := ⟨_, rfl⟩
  subst ea
  have h : f_X11_piecesOf_45C σ x1 x2 x3 x4 x5 = some x := h
  unfold f_X11_piecesOf_45C at h
  show Ev M_X11_piecesOf 218 218 r 45 218 rho σ [(2, (181 : Int)), (0, x1), (0, x2), (0, x3), (0, x4), (0, x5)] []
  refine ev_aload_n dX11_piecesOf_45 rfl (by decide) ?_
  refine ev_iload_n dX11_piecesOf_46 rfl ?_
  refine ev_iload_n dX11_piecesOf_47 rfl ?_
  refine ev_iload_n dX11_piecesOf_48 rfl ?_
  refine ev_iload dX11_piecesOf_49 rfl ?_
  refine ev_iadd dX11_piecesOf_51 ?_
  obtain ⟨v7, hc8, h⟩ := bind_of h
  refine ev_invV_v (k := (181 : Int)) (av := [(0, x1), (0, x2), (0, (jadd x3 x5))]) (st := []) (v := (0, v7)) (τ := σ) dX11_piecesOf_52 ml_X11_325 mv_X11_what (T := TX11) (ci := 10) rfl sp181 (by decide) (by decide) rfl ⟨Nat.le_of_ble_eq_true rfl, Nat.le_of_ble_eq_true rfl⟩ (Nat.le_of_ble_eq_true rfl) (c_X11_what hc8) ?_
  refine ev_iload dX11_piecesOf_55 rfl ?_
  refine ev_icmp_ne (tgt := 66) dX11_piecesOf_57 rfl h (fun cb h => ?_) (fun cb h => ?_)
  · obtain rfl := Option.some.inj h
    exact ev_sub (L2 := [(2, (181 : Int)), (0, x1), (0, x2), (0, x3), (9, 0), (0, x5)]) K ⟨.inr rfl, .inr rfl, .inr rfl, .inr rfl, .inl rfl, .inr rfl, trivial⟩
  refine ev_iincG dX11_piecesOf_60 rfl h rfl (fun v9 h => ?_)
  show Ev _ _ _ _ 63 _ _ _ [(2, (181 : Int)), (0, x1), (0, x2), (0, x3), (0, x4), (0, v9)] _
  refine ev_goto (tgt := 45) dX11_piecesOf_63 rfl ?_
  obtain rfl := Option.some.inj h
  exact ev_sub (L2 := [(2, (181 : Int)), (0, x1), (0, x2), (0, x3), (0, x4), (0, v9)]) K ⟨.inr rfl, .inr rfl, .inr rfl, .inr rfl, .inr rfl, .inr rfl, trivial⟩
set_option maxHeartbeats 4000000 in
set_option maxRecDepth 20000 in
theorem e_X11_piecesOf_45 (σ : Mem) (x1 x2 x3 x4 x5 : Int)  {q : ((Int × Mem) ⊕ ((Mem)))} (h : f_X11_piecesOf_45 σ x1 x2 x3 x4 x5 = some q) {r : Option V × Mem × Mem} (K : K_X11_piecesOf_7 x1 x2 r q) : Ev M_X11_piecesOf 218 218 r 45 218 rho σ [(2, (181 : Int)), (0, x1), (0, x2), (0, x3), (0, x4), (0, x5)] [] := by
  unfold f_X11_piecesOf_45 at h
  obtain ⟨e, hl, h⟩ := bind_of h
  refine loop_ev (K := K_X11_piecesOf_45 σ x1 x2 x3 x4 r) (b_X11_piecesOf_45 σ x1 x2 x3 x4) FU x5 e hl ?_
  show Ev M_X11_piecesOf 218 218 r 66 218 rho σ [(2, (181 : Int)), (0, x1), (0, x2), (0, x3), (9, 0), (0, e)] []
  replace h : f_X11_piecesOf_66 σ x1 x2 x3 e = some q := h
  exact ev_sub (L2 := [(2, (181 : Int)), (0, x1), (0, x2), (0, x3), (9, 0), (0, e)]) (e_X11_piecesOf_66 σ x1 x2 x3 e h K) ⟨.inr rfl, .inr rfl, .inr rfl, .inr rfl, .inl rfl, .inr rfl, trivial⟩
set_option maxHeartbeats 4000000 in
set_option maxRecDepth 20000 in
theorem b_X11_piecesOf_7 (x1 x2 : Int)  {r : Option V × Mem × Mem} : ∀ a x, f_X11_piecesOf_7B x1 x2 a = some x → K_X11_piecesOf_7 x1 x2 r x → K_X11_piecesOf_7 x1 x2 r (.inl a) := by
  intro a x h K
  obtain ⟨x3, σ⟩ := a
  have h : f_X11_piecesOf_7C x1 x2 x3 σ = some x := h
  unfold f_X11_piecesOf_7C at h
  show Ev M_X11_piecesOf 218 218 r 7 218 rho σ [(2, (181 : Int)), (0, x1), (0, x2), (0, x3), (9, 0), (9, 0)] []
  refine ev_iload_n dX11_piecesOf_7 rfl ?_
  refine ev_bipush dX11_piecesOf_8 (by decide) (by decide) ?_
  refine ev_icmp_ge (tgt := 103) dX11_piecesOf_10 rfl h (fun cb h => ?_) (fun cb h => ?_)
  · obtain rfl := Option.some.inj h
    exact ev_sub (L2 := [(9, 0), (9, 0), (9, 0), (9, 0), (9, 0), (9, 0)]) K ⟨.inl rfl, .inl rfl, .inl rfl, .inl rfl, .inl rfl, .inl rfl, trivial⟩
  refine ev_aload_n dX11_piecesOf_13 rfl (by decide) ?_
  refine ev_iload_n dX11_piecesOf_14 rfl ?_
  refine ev_iload_n dX11_piecesOf_15 rfl ?_
  refine ev_iload_n dX11_piecesOf_16 rfl ?_
  obtain ⟨v2, hc3, h⟩ := bind_of h
  refine ev_invV_v (k := (181 : Int)) (av := [(0, x1), (0, x2), (0, x3)]) (st := []) (v := (0, v2)) (τ := σ) dX11_piecesOf_17 ml_X11_325 mv_X11_what (T := TX11) (ci := 10) rfl sp181 (by decide) (by decide) rfl ⟨Nat.le_of_ble_eq_true rfl, Nat.le_of_ble_eq_true rfl⟩ (Nat.le_of_ble_eq_true rfl) (c_X11_what hc3) ?_
  refine ev_istore dX11_piecesOf_20 rfl (by decide) ?_
  show Ev _ _ _ _ 22 _ _ _ [(2, (181 : Int)), (0, x1), (0, x2), (0, x3), (0, v2), (9, 0)] _
  refine ev_iload dX11_piecesOf_22 rfl ?_
  refine ev_iconst dX11_piecesOf_24 (by decide) ?_
  refine ev_icmp_eq (tgt := 97) dX11_piecesOf_25 rfl h (fun cb h => ?_) (fun cb h => ?_)
  · exact ev_sub (L2 := [(2, (181 : Int)), (0, x1), (0, x2), (0, x3), (9, 0), (9, 0)]) (e_X11_piecesOf_97 σ x1 x2 x3 h K) ⟨.inr rfl, .inr rfl, .inr rfl, .inr rfl, .inl rfl, .inl rfl, trivial⟩
  refine ev_iload dX11_piecesOf_28 rfl ?_
  refine ev_aload_n dX11_piecesOf_30 rfl (by decide) ?_
  refine ev_iload_n dX11_piecesOf_31 rfl ?_
  refine ev_iload_n dX11_piecesOf_32 rfl ?_
  refine ev_iload_n dX11_piecesOf_33 rfl ?_
  refine ev_iconst dX11_piecesOf_34 (by decide) ?_
  refine ev_isub dX11_piecesOf_35 ?_
  obtain ⟨v4, hc5, h⟩ := bind_of h
  refine ev_invV_v (k := (181 : Int)) (av := [(0, x1), (0, x2), (0, (jsub x3 (1 : Int)))]) (st := [(0, v2)]) (v := (0, v4)) (τ := σ) dX11_piecesOf_36 ml_X11_325 mv_X11_what (T := TX11) (ci := 10) rfl sp181 (by decide) (by decide) rfl ⟨Nat.le_of_ble_eq_true rfl, Nat.le_of_ble_eq_true rfl⟩ (Nat.le_of_ble_eq_true rfl) (c_X11_what hc5) ?_
  refine ev_icmp_eq (tgt := 97) dX11_piecesOf_39 rfl h (fun cb h => ?_) (fun cb h => ?_)
  · exact ev_sub (L2 := [(2, (181 : Int)), (0, x1), (0, x2), (0, x3), (9, 0), (9, 0)]) (e_X11_piecesOf_97 σ x1 x2 x3 h K) ⟨.inr rfl, .inr rfl, .inr rfl, .inr rfl, .inl rfl, .inl rfl, trivial⟩
  refine ev_iconst dX11_piecesOf_42 (by decide) ?_
  refine ev_istore dX11_piecesOf_43 rfl (by decide) ?_
  show Ev _ _ _ _ 45 _ _ _ [(2, (181 : Int)), (0, x1), (0, x2), (0, x3), (0, v2), (0, (0 : Int))] _
  exact ev_sub (L2 := [(2, (181 : Int)), (0, x1), (0, x2), (0, x3), (0, v2), (0, (0 : Int))]) (e_X11_piecesOf_45 σ x1 x2 x3 v2 (0 : Int) h K) ⟨.inr rfl, .inr rfl, .inr rfl, .inr rfl, .inr rfl, .inr rfl, trivial⟩
set_option maxHeartbeats 4000000 in
set_option maxRecDepth 20000 in
theorem e_X11_piecesOf_7 (σ : Mem) (x1 x2 x3 : Int)  {q : Mem} (h : f_X11_piecesOf_7 σ x1 x2 x3 = some q) : Ev M_X11_piecesOf 218 218 (none, rho, q) 7 218 rho σ [(2, (181 : Int)), (0, x1), (0, x2), (0, x3), (9, 0), (9, 0)] [] := by
  unfold f_X11_piecesOf_7 at h
  obtain ⟨e, hl, h⟩ := bind_of h
  refine loop_ev (K := K_X11_piecesOf_7 x1 x2 (none, rho, q)) (b_X11_piecesOf_7 x1 x2) FU (x3, σ) e hl ?_
  show Ev M_X11_piecesOf 218 218 _ 103 218 rho e [(9, 0), (9, 0), (9, 0), (9, 0), (9, 0), (9, 0)] []
  replace h : some e = some q := h
  obtain rfl := Option.some.inj h
  exact ev_vret dX11_piecesOf_103 rfl rfl
set_option maxHeartbeats 4000000 in
set_option maxRecDepth 20000 in
theorem c_X11_piecesOf {σ : Mem} {x1 x2 : Int}  {q : Mem} (h : f_X11_piecesOf σ x1 x2 = some q) : Ms yX11_piecesOf M_X11_piecesOf 218 218 [(2, (181 : Int)), (0, x1), (0, x2)] rho σ (none, rho, q) := by
  refine Ms.of 3 (by decide +kernel) rfl (fun z => absurd z (by decide)) (fun _ _ _ => trivial) rfl rfl ?_
  unfold f_X11_piecesOf at h
  show Ev M_X11_piecesOf 218 218 _ 0 218 rho σ [(2, (181 : Int)), (0, x1), (0, x2), (9, 0), (9, 0), (9, 0)] []
  refine ev_aload_n dX11_piecesOf_0 rfl (by decide) ?_
  refine ev_iconst dX11_piecesOf_1 (by decide) ?_
  refine ev_putfG (j := 37) (t := 0) dX11_piecesOf_2 cf_X11 wf_X11_340 sp181 (by decide) (by decide) rfl (by decide) (by decide) rfl (fun z => absurd z (by decide +kernel)) h (fun σ1 h => ?_)
  refine ev_iconst dX11_piecesOf_5 (by decide) ?_
  refine ev_istore_n dX11_piecesOf_6 rfl (by decide) ?_
  show Ev _ _ _ _ 7 _ _ _ [(2, (181 : Int)), (0, x1), (0, x2), (0, (0 : Int)), (9, 0), (9, 0)] _
  exact ev_sub (L2 := [(2, (181 : Int)), (0, x1), (0, x2), (0, (0 : Int)), (9, 0), (9, 0)]) (e_X11_piecesOf_7 σ1 x1 x2 (0 : Int) h) ⟨.inr rfl, .inr rfl, .inr rfl, .inr rfl, .inl rfl, .inl rfl, trivial⟩
def K_X11_isSeat_10 (σ : Mem) (x1 x2 : Int) (r : Option V × Mem × Mem) : (Int × Int) ⊕ ((Int)) → Prop := Sum.elim (fun a => Ev M_X11_isSeat 218 218 r 10 218 rho σ [(2, (181 : Int)), (0, x1), (0, x2), (0, a.1), (0, a.2)] []) (fun e => Ev M_X11_isSeat 218 218 r 59 218 rho σ [(9, 0), (9, 0), (9, 0), (0, e), (9, 0)] [])
set_option maxHeartbeats 4000000 in
set_option maxRecDepth 20000 in
theorem e_X11_isSeat_52 (σ : Mem) (x1 x2 x4 s0 : Int)  {q : ((Int × Int) ⊕ ((Int)))} (h : f_X11_isSeat_52 σ x1 x2 x4 s0 = some q) {r : Option V × Mem × Mem} (K : K_X11_isSeat_10 σ x1 x2 r q) : Ev M_X11_isSeat 218 218 r 52 218 rho σ [(2, (181 : Int)), (0, x1), (0, x2), (9, 0), (0, x4)] [(0, s0)] := by
  unfold f_X11_isSeat_52 at h
  refine ev_istore_n dX11_isSeat_52 rfl (by decide) ?_
  show Ev _ _ _ _ 53 _ _ _ [(2, (181 : Int)), (0, x1), (0, x2), (0, s0), (0, x4)] _
  refine ev_iincG dX11_isSeat_53 rfl h rfl (fun v2 h => ?_)
  show Ev _ _ _ _ 56 _ _ _ [(2, (181 : Int)), (0, x1), (0, x2), (0, s0), (0, v2)] _
  refine ev_goto (tgt := 10) dX11_isSeat_56 rfl ?_
  obtain rfl := Option.some.inj h
  exact ev_sub (L2 := [(2, (181 : Int)), (0, x1), (0, x2), (0, s0), (0, v2)]) K ⟨.inr rfl, .inr rfl, .inr rfl, .inr rfl, .inr rfl, trivial⟩
set_option maxHeartbeats 4000000 in
set_option maxRecDepth 20000 in
theorem e_X11_isSeat_51 (σ : Mem) (x1 x2 x4 : Int)  {q : ((Int × Int) ⊕ ((Int)))} (h : f_X11_isSeat_51 σ x1 x2 x4 = some q) {r : Option V × Mem × Mem} (K : K_X11_isSeat_10 σ x1 x2 r q) : Ev M_X11_isSeat 218 218 r 51 218 rho σ [(2, (181 : Int)), (0, x1), (0, x2), (9, 0), (0, x4)] [] := by
  unfold f_X11_isSeat_51 at h
  refine ev_iconst dX11_isSeat_51 (by decide) ?_
  exact ev_sub (L2 := [(2, (181 : Int)), (0, x1), (0, x2), (9, 0), (0, x4)]) (e_X11_isSeat_52 σ x1 x2 x4 (0 : Int) h K) ⟨.inr rfl, .inr rfl, .inr rfl, .inl rfl, .inr rfl, trivial⟩
set_option maxHeartbeats 4000000 in
set_option maxRecDepth 20000 in
theorem b_X11_isSeat_10 (σ : Mem) (x1 x2 : Int)  {r : Option V × Mem × Mem} : ∀ a x, f_X11_isSeat_10B σ x1 x2 a = some x → K_X11_isSeat_10 σ x1 x2 r x → K_X11_isSeat_10 σ x1 x2 r (.inl a) := by
  intro a x h K
  obtain ⟨x3, x4⟩ := a
  have h : f_X11_isSeat_10C σ x1 x2 x3 x4 = some x := h
  unfold f_X11_isSeat_10C at h
  show Ev M_X11_isSeat 218 218 r 10 218 rho σ [(2, (181 : Int)), (0, x1), (0, x2), (0, x3), (0, x4)] []
  refine ev_iload dX11_isSeat_10 rfl ?_
  refine ev_aload_n dX11_isSeat_12 rfl (by decide) ?_
  refine ev_getf (j := 38) (t := 2) (x := (211 : Int)) dX11_isSeat_13 cf_X11 wf_X11_99 sp181 (by decide) (by decide) rfl (by decide) (rp181_38 _) ?_
  refine ev_iload_n dX11_isSeat_16 rfl ?_
  refine ev_iald dX11_isSeat_17 sp211 (by decide) (by decide) h (fun h => ?_)
  refine ev_aload_n dX11_isSeat_18 rfl (by decide) ?_
  refine ev_getf (j := 39) (t := 2) (x := (212 : Int)) dX11_isSeat_19 cf_X11 wf_X11_102 sp181 (by decide) (by decide) rfl (by decide) (rp181_39 _) ?_
  refine ev_iload_n dX11_isSeat_22 rfl ?_
  refine ev_iald dX11_isSeat_23 sp212 (by decide) (by decide) h (fun h => ?_)
  refine ev_iadd dX11_isSeat_24 ?_
  refine ev_icmp_ge (tgt := 59) dX11_isSeat_25 rfl h (fun cb h => ?_) (fun cb h => ?_)
  · obtain rfl := Option.some.inj h
    exact ev_sub (L2 := [(9, 0), (9, 0), (9, 0), (0, x3), (9, 0)]) K ⟨.inl rfl, .inl rfl, .inl rfl, .inr rfl, .inl rfl, trivial⟩
  refine ev_iload_n dX11_isSeat_28 rfl ?_
  refine ev_if_eq (tgt := 51) dX11_isSeat_29 rfl h (fun cb h => ?_) (fun cb h => ?_)
  · exact ev_sub (L2 := [(2, (181 : Int)), (0, x1), (0, x2), (9, 0), (0, x4)]) (e_X11_isSeat_51 σ x1 x2 x4 h K) ⟨.inr rfl, .inr rfl, .inr rfl, .inl rfl, .inr rfl, trivial⟩
  refine ev_aload_n dX11_isSeat_32 rfl (by decide) ?_
  refine ev_getf (j := 43) (t := 2) (x := (216 : Int)) dX11_isSeat_33 cf_X11 wf_X11_114 sp181 (by decide) (by decide) rfl (by decide) (rp181_43 _) ?_
  refine ev_bipush dX11_isSeat_36 (by decide) (by decide) ?_
  refine ev_iload_n dX11_isSeat_38 rfl ?_
  refine ev_imul dX11_isSeat_39 ?_
  refine ev_iload dX11_isSeat_40 rfl ?_
  refine ev_iadd dX11_isSeat_42 ?_
  refine ev_iald dX11_isSeat_43 sp216 (by decide) (by decide) h (fun h => ?_)
  refine ev_if_le (tgt := 51) dX11_isSeat_44 rfl h (fun cb h => ?_) (fun cb h => ?_)
  · exact ev_sub (L2 := [(2, (181 : Int)), (0, x1), (0, x2), (9, 0), (0, x4)]) (e_X11_isSeat_51 σ x1 x2 x4 h K) ⟨.inr rfl, .inr rfl, .inr rfl, .inl rfl, .inr rfl, trivial⟩
  refine ev_iconst dX11_isSeat_47 (by decide) ?_
  refine ev_goto (tgt := 52) dX11_isSeat_48 rfl ?_
  exact ev_sub (L2 := [(2, (181 : Int)), (0, x1), (0, x2), (9, 0), (0, x4)]) (e_X11_isSeat_52 σ x1 x2 x4 (1 : Int) h K) ⟨.inr rfl, .inr rfl, .inr rfl, .inl rfl, .inr rfl, trivial⟩
set_option maxHeartbeats 4000000 in
set_option maxRecDepth 20000 in
theorem e_X11_isSeat_10 (σ : Mem) (x1 x2 x3 x4 : Int)  {q : Int} (h : f_X11_isSeat_10 σ x1 x2 x3 x4 = some q) : Ev M_X11_isSeat 218 218 (some (0, q), rho, σ) 10 218 rho σ [(2, (181 : Int)), (0, x1), (0, x2), (0, x3), (0, x4)] [] := by
  unfold f_X11_isSeat_10 at h
  obtain ⟨e, hl, h⟩ := bind_of h
  refine loop_ev (K := K_X11_isSeat_10 σ x1 x2 (some (0, q), rho, σ)) (b_X11_isSeat_10 σ x1 x2) FU (x3, x4) e hl ?_
  show Ev M_X11_isSeat 218 218 _ 59 218 rho σ [(9, 0), (9, 0), (9, 0), (0, e), (9, 0)] []
  replace h : chk (e = 0 ∨ e = 1) (some e) = some q := h
  refine ev_iload_n dX11_isSeat_59 rfl ?_
  obtain ⟨hz, h⟩ := chk_of h
  obtain rfl := Option.some.inj h
  exact ev_zret dX11_isSeat_60 rfl (chk_pos hz)
set_option maxHeartbeats 4000000 in
set_option maxRecDepth 20000 in
theorem c_X11_isSeat {σ : Mem} {x1 x2 : Int}  {q : Int} (h : f_X11_isSeat σ x1 x2 = some q) : Ms yX11_isSeat M_X11_isSeat 218 218 [(2, (181 : Int)), (0, x1), (0, x2)] rho σ (some (0, q), rho, σ) := by
  refine Ms.of 2 (by decide +kernel) rfl (fun z => absurd z (by decide)) (fun _ _ _ => trivial) rfl rfl ?_
  unfold f_X11_isSeat at h
  show Ev M_X11_isSeat 218 218 _ 0 218 rho σ [(2, (181 : Int)), (0, x1), (0, x2), (9, 0), (9, 0)] []
  refine ev_iconst dX11_isSeat_0 (by decide) ?_
  refine ev_istore_n dX11_isSeat_1 rfl (by decide) ?_
  show Ev _ _ _ _ 2 _ _ _ [(2, (181 : Int)), (0, x1), (0, x2), (0, (1 : Int)), (9, 0)] _
  refine ev_aload_n dX11_isSeat_2 rfl (by decide) ?_
  refine ev_getf (j := 38) (t := 2) (x := (211 : Int)) dX11_isSeat_3 cf_X11 wf_X11_99 sp181 (by decide) (by decide) rfl (by decide) (rp181_38 _) ?_
  refine ev_iload_n dX11_isSeat_6 rfl ?_
  refine ev_iald dX11_isSeat_7 sp211 (by decide) (by decide) h (fun h => ?_)
  refine ev_istoreG dX11_isSeat_8 h rfl (by decide) (fun v1 h => ?_)
  show Ev _ _ _ _ 10 _ _ _ [(2, (181 : Int)), (0, x1), (0, x2), (0, (1 : Int)), (0, v1)] _
  exact ev_sub (L2 := [(2, (181 : Int)), (0, x1), (0, x2), (0, (1 : Int)), (0, v1)]) (e_X11_isSeat_10 σ x1 x2 (1 : Int) v1 h) ⟨.inr rfl, .inr rfl, .inr rfl, .inr rfl, .inr rfl, trivial⟩
def K_X11_isRoomed_52 (σ : Mem) (x1 x2 x3 x4 : Int) (r : Option V × Mem × Mem) : (Int × Int) ⊕ ((Int)) → Prop := Sum.elim (fun a => Ev M_X11_isRoomed 218 218 r 52 218 rho σ [(2, (181 : Int)), (0, x1), (0, x2), (0, x3), (0, x4), (0, a.1), (0, a.2)] []) (fun e => Ev M_X11_isRoomed 218 218 r 114 218 rho σ [(2, (181 : Int)), (0, x1), (0, x2), (0, x3), (0, x4), (0, e), (9, 0)] [])
def K_X11_isRoomed_18 (x1 x2 : Int) (r : Option V × Mem × Mem) : (Int × Int × Mem) ⊕ ((Int × Mem)) → Prop := Sum.elim (fun a => Ev M_X11_isRoomed 218 218 r 18 218 rho a.2.2 [(2, (181 : Int)), (0, x1), (0, x2), (0, a.1), (0, a.2.1), (9, 0), (9, 0)] []) (fun e => Ev M_X11_isRoomed 218 218 r 170 218 rho e.2 [(2, (181 : Int)), (0, x1), (0, x2), (0, e.1), (9, 0), (9, 0), (9, 0)] [])
def K_X11_isRoomed_9 (r : Option V × Mem × Mem) : (Int × Int × Mem) ⊕ ((Int × Mem)) → Prop := Sum.elim (fun a => Ev M_X11_isRoomed 218 218 r 9 218 rho a.2.2 [(2, (181 : Int)), (0, a.1), (0, a.2.1), (9, 0), (9, 0), (9, 0), (9, 0)] []) (fun e => Ev M_X11_isRoomed 218 218 r 190 218 rho e.2 [(9, 0), (0, e.1), (9, 0), (9, 0), (9, 0), (9, 0), (9, 0)] [])
set_option maxHeartbeats 4000000 in
set_option maxRecDepth 20000 in
theorem e_X11_isRoomed_102 (σ : Mem) (x1 x2 x3 x4 x6 s2 s1 s0 : Int)  {q : ((Int × Int) ⊕ ((Int)))} (h : f_X11_isRoomed_102 σ x1 x2 x3 x4 x6 s2 s1 s0 = some q) {r : Option V × Mem × Mem} (K : K_X11_isRoomed_52 σ x1 x2 x3 x4 r q) : Ev M_X11_isRoomed 218 218 r 102 218 rho σ [(2, (181 : Int)), (0, x1), (0, x2), (0, x3), (0, x4), (9, 0), (0, x6)] [(0, s2), (0, s1), (0, s0)] := by
  unfold f_X11_isRoomed_102 at h
  refine ev_iadd dX11_isRoomed_102 ?_
  refine ev_mn dX11_isRoomed_103 wa_X11_343 wm_min (by decide) (Nat.le_of_ble_eq_true rfl) ?_
  refine ev_istoreG dX11_isRoomed_106 h rfl (by decide) (fun v3 h => ?_)
  show Ev _ _ _ _ 108 _ _ _ [(2, (181 : Int)), (0, x1), (0, x2), (0, x3), (0, x4), (0, v3), (0, x6)] _
  refine ev_iincG dX11_isRoomed_108 rfl h rfl (fun v4 h => ?_)
  show Ev _ _ _ _ 111 _ _ _ [(2, (181 : Int)), (0, x1), (0, x2), (0, x3), (0, x4), (0, v3), (0, v4)] _
  refine ev_goto (tgt := 52) dX11_isRoomed_111 rfl ?_
  obtain rfl := Option.some.inj h
  exact ev_sub (L2 := [(2, (181 : Int)), (0, x1), (0, x2), (0, x3), (0, x4), (0, v3), (0, v4)]) K ⟨.inr rfl, .inr rfl, .inr rfl, .inr rfl, .inr rfl, .inr rfl, .inr rfl, trivial⟩
set_option maxHeartbeats 4000000 in
set_option maxRecDepth 20000 in
theorem e_X11_isRoomed_163 (σ : Mem) (x1 x2 x4 s0 : Int)  {q : ((Int × Int × Mem) ⊕ ((Int × Mem)))} (h : f_X11_isRoomed_163 σ x1 x2 x4 s0 = some q) {r : Option V × Mem × Mem} (K : K_X11_isRoomed_18 x1 x2 r q) : Ev M_X11_isRoomed 218 218 r 163 218 rho σ [(2, (181 : Int)), (0, x1), (0, x2), (9, 0), (0, x4), (9, 0), (9, 0)] [(0, s0)] := by
  unfold f_X11_isRoomed_163 at h
  refine ev_istore_n dX11_isRoomed_163 rfl (by decide) ?_
  show Ev _ _ _ _ 164 _ _ _ [(2, (181 : Int)), (0, x1), (0, x2), (0, s0), (0, x4), (9, 0), (9, 0)] _
  refine ev_iincG dX11_isRoomed_164 rfl h rfl (fun v10 h => ?_)
  show Ev _ _ _ _ 167 _ _ _ [(2, (181 : Int)), (0, x1), (0, x2), (0, s0), (0, v10), (9, 0), (9, 0)] _
  refine ev_goto (tgt := 18) dX11_isRoomed_167 rfl ?_
  obtain rfl := Option.some.inj h
  exact ev_sub (L2 := [(2, (181 : Int)), (0, x1), (0, x2), (0, s0), (0, v10), (9, 0), (9, 0)]) K ⟨.inr rfl, .inr rfl, .inr rfl, .inr rfl, .inr rfl, .inl rfl, .inl rfl, trivial⟩
set_option maxHeartbeats 4000000 in
set_option maxRecDepth 20000 in
theorem e_X11_isRoomed_158 (σ : Mem) (x1 x2 x4 : Int)  {q : ((Int × Int × Mem) ⊕ ((Int × Mem)))} (h : f_X11_isRoomed_158 σ x1 x2 x4 = some q) {r : Option V × Mem × Mem} (K : K_X11_isRoomed_18 x1 x2 r q) : Ev M_X11_isRoomed 218 218 r 158 218 rho σ [(2, (181 : Int)), (0, x1), (0, x2), (9, 0), (0, x4), (9, 0), (9, 0)] [] := by
  unfold f_X11_isRoomed_158 at h
  refine ev_iconst dX11_isRoomed_158 (by decide) ?_
  refine ev_goto (tgt := 163) dX11_isRoomed_159 rfl ?_
  exact ev_sub (L2 := [(2, (181 : Int)), (0, x1), (0, x2), (9, 0), (0, x4), (9, 0), (9, 0)]) (e_X11_isRoomed_163 σ x1 x2 x4 (1 : Int) h K) ⟨.inr rfl, .inr rfl, .inr rfl, .inl rfl, .inr rfl, .inl rfl, .inl rfl, trivial⟩
set_option maxHeartbeats 4000000 in
set_option maxRecDepth 20000 in
theorem e_X11_isRoomed_143 (σ : Mem) (x1 x2 x3 x4 s2 s1 : Int)  {q : ((Int × Int × Mem) ⊕ ((Int × Mem)))} (h : f_X11_isRoomed_143 σ x1 x2 x3 x4 s2 s1 = some q) {r : Option V × Mem × Mem} (K : K_X11_isRoomed_18 x1 x2 r q) : Ev M_X11_isRoomed 218 218 r 143 218 rho σ [(2, (181 : Int)), (0, x1), (0, x2), (0, x3), (0, x4), (9, 0), (9, 0)] [(0, s2), (0, s1), (2, (217 : Int))] := by
  unfold f_X11_isRoomed_143 at h
  refine ev_iastG dX11_isRoomed_143 sp217 (by decide) (by decide) h (fun σ7 h => ?_)
  refine ev_iload_n dX11_isRoomed_144 rfl ?_
  refine ev_if_ne (tgt := 158) dX11_isRoomed_145 rfl h (fun cb h => ?_) (fun cb h => ?_)
  · exact ev_sub (L2 := [(2, (181 : Int)), (0, x1), (0, x2), (9, 0), (0, x4), (9, 0), (9, 0)]) (e_X11_isRoomed_158 σ7 x1 x2 x4 h K) ⟨.inr rfl, .inr rfl, .inr rfl, .inl rfl, .inr rfl, .inl rfl, .inl rfl, trivial⟩
  refine ev_aload_n dX11_isRoomed_148 rfl (by decide) ?_
  refine ev_iload_n dX11_isRoomed_149 rfl ?_
  refine ev_iload dX11_isRoomed_150 rfl ?_
  obtain ⟨v8, hc9, h⟩ := bind_of h
  refine ev_invV_v (k := (181 : Int)) (av := [(0, x2), (0, x4)]) (st := []) (v := (0, v8)) (τ := σ7) dX11_isRoomed_152 ml_X11_346 mv_X11_isSeat (T := TX11) (ci := 10) rfl sp181 (by decide) (by decide) rfl ⟨Nat.le_of_ble_eq_true rfl, Nat.le_of_ble_eq_true rfl⟩ (Nat.le_of_ble_eq_true rfl) (c_X11_isSeat hc9) ?_
  refine ev_if_eq (tgt := 162) dX11_isRoomed_155 rfl h (fun cb h => ?_) (fun cb h => ?_)
  · refine ev_iconst dX11_isRoomed_162 (by decide) ?_
    exact ev_sub (L2 := [(2, (181 : Int)), (0, x1), (0, x2), (9, 0), (0, x4), (9, 0), (9, 0)]) (e_X11_isRoomed_163 σ7 x1 x2 x4 (0 : Int) h K) ⟨.inr rfl, .inr rfl, .inr rfl, .inl rfl, .inr rfl, .inl rfl, .inl rfl, trivial⟩
  exact ev_sub (L2 := [(2, (181 : Int)), (0, x1), (0, x2), (9, 0), (0, x4), (9, 0), (9, 0)]) (e_X11_isRoomed_158 σ7 x1 x2 x4 h K) ⟨.inr rfl, .inr rfl, .inr rfl, .inl rfl, .inr rfl, .inl rfl, .inl rfl, trivial⟩
set_option maxHeartbeats 4000000 in
set_option maxRecDepth 20000 in
theorem e_X11_isRoomed_114 (σ : Mem) (x1 x2 x3 x4 x5 : Int)  {q : ((Int × Int × Mem) ⊕ ((Int × Mem)))} (h : f_X11_isRoomed_114 σ x1 x2 x3 x4 x5 = some q) {r : Option V × Mem × Mem} (K : K_X11_isRoomed_18 x1 x2 r q) : Ev M_X11_isRoomed 218 218 r 114 218 rho σ [(2, (181 : Int)), (0, x1), (0, x2), (0, x3), (0, x4), (0, x5), (9, 0)] [] := by
  unfold f_X11_isRoomed_114 at h
  refine ev_aload_n dX11_isRoomed_114 rfl (by decide) ?_
  refine ev_getf (j := 44) (t := 2) (x := (217 : Int)) dX11_isRoomed_115 cf_X11 wf_X11_117 sp181 (by decide) (by decide) rfl (by decide) (rp181_44 _) ?_
  refine ev_bipush dX11_isRoomed_118 (by decide) (by decide) ?_
  refine ev_iload_n dX11_isRoomed_120 rfl ?_
  refine ev_imul dX11_isRoomed_121 ?_
  refine ev_iload dX11_isRoomed_122 rfl ?_
  refine ev_iadd dX11_isRoomed_124 ?_
  refine ev_aload_n dX11_isRoomed_125 rfl (by decide) ?_
  refine ev_iload_n dX11_isRoomed_126 rfl ?_
  refine ev_iload dX11_isRoomed_127 rfl ?_
  obtain ⟨v5, hc6, h⟩ := bind_of h
  refine ev_invV_v (k := (181 : Int)) (av := [(0, x2), (0, x4)]) (st := [(0, (jadd (jmul (6 : Int) x2) x4)), (2, (217 : Int))]) (v := (0, v5)) (τ := σ) dX11_isRoomed_129 ml_X11_346 mv_X11_isSeat (T := TX11) (ci := 10) rfl sp181 (by decide) (by decide) rfl ⟨Nat.le_of_ble_eq_true rfl, Nat.le_of_ble_eq_true rfl⟩ (Nat.le_of_ble_eq_true rfl) (c_X11_isSeat hc6) ?_
  show Ev _ _ _ _ 132 _ _ _ _ _
  refine ev_if_eq (tgt := 140) dX11_isRoomed_132 rfl h (fun cb h => ?_) (fun cb h => ?_)
  · refine ev_sipush dX11_isRoomed_140 (by decide) (by decide) ?_
    exact ev_sub (L2 := [(2, (181 : Int)), (0, x1), (0, x2), (0, x3), (0, x4), (9, 0), (9, 0)]) (e_X11_isRoomed_143 σ x1 x2 x3 x4 (999 : Int) (jadd (jmul (6 : Int) x2) x4) h K) ⟨.inr rfl, .inr rfl, .inr rfl, .inr rfl, .inr rfl, .inl rfl, .inl rfl, trivial⟩
  refine ev_iload dX11_isRoomed_135 rfl ?_
  refine ev_goto (tgt := 143) dX11_isRoomed_137 rfl ?_
  exact ev_sub (L2 := [(2, (181 : Int)), (0, x1), (0, x2), (0, x3), (0, x4), (9, 0), (9, 0)]) (e_X11_isRoomed_143 σ x1 x2 x3 x4 x5 (jadd (jmul (6 : Int) x2) x4) h K) ⟨.inr rfl, .inr rfl, .inr rfl, .inr rfl, .inr rfl, .inl rfl, .inl rfl, trivial⟩
set_option maxHeartbeats 4000000 in
set_option maxRecDepth 20000 in
theorem b_X11_isRoomed_52 (σ : Mem) (x1 x2 x3 x4 : Int)  {r : Option V × Mem × Mem} : ∀ a x, f_X11_isRoomed_52B σ x1 x2 x3 x4 a = some x → K_X11_isRoomed_52 σ x1 x2 x3 x4 r x → K_X11_isRoomed_52 σ x1 x2 x3 x4 r (.inl a) := by
  intro a x h K
  obtain ⟨x5, x6⟩ := a
  have h : f_X11_isRoomed_52C σ x1 x2 x3 x4 x5 x6 = some x := h
  unfold f_X11_isRoomed_52C at h
  show Ev M_X11_isRoomed 218 218 r 52 218 rho σ [(2, (181 : Int)), (0, x1), (0, x2), (0, x3), (0, x4), (0, x5), (0, x6)] []
  refine ev_iload dX11_isRoomed_52 rfl ?_
  refine ev_aload_n dX11_isRoomed_54 rfl (by decide) ?_
  refine ev_getf (j := 0) (t := 2) (x := (182 : Int)) dX11_isRoomed_55 cf_X11 wf_X11_7 sp181 (by decide) (by decide) rfl (by decide) (rp181_0 _) ?_
  refine ev_bipush dX11_isRoomed_58 (by decide) (by decide) ?_
  refine ev_iald dX11_isRoomed_60 sp182 (by decide) (by decide) h (fun h => ?_)
  refine ev_icmp_ge (tgt := 114) dX11_isRoomed_61 rfl h (fun cb h => ?_) (fun cb h => ?_)
  · obtain rfl := Option.some.inj h
    exact ev_sub (L2 := [(2, (181 : Int)), (0, x1), (0, x2), (0, x3), (0, x4), (0, x5), (9, 0)]) K ⟨.inr rfl, .inr rfl, .inr rfl, .inr rfl, .inr rfl, .inr rfl, .inl rfl, trivial⟩
  refine ev_iload_n dX11_isRoomed_64 rfl ?_
  refine ev_aload_n dX11_isRoomed_65 rfl (by decide) ?_
  refine ev_getf (j := 37) (t := 0) (x := (σ (181 : Int) 37)) dX11_isRoomed_66 cf_X11 wf_X11_340 sp181 (by decide) (by decide) rfl (by decide) rfl ?_
  refine ev_iconst dX11_isRoomed_69 (by decide) ?_
  refine ev_isub dX11_isRoomed_70 ?_
  refine ev_icmp_ge (tgt := 114) dX11_isRoomed_71 rfl h (fun cb h => ?_) (fun cb h => ?_)
  · obtain rfl := Option.some.inj h
    exact ev_sub (L2 := [(2, (181 : Int)), (0, x1), (0, x2), (0, x3), (0, x4), (0, x5), (9, 0)]) K ⟨.inr rfl, .inr rfl, .inr rfl, .inr rfl, .inr rfl, .inr rfl, .inl rfl, trivial⟩
  refine ev_iload dX11_isRoomed_74 rfl ?_
  refine ev_aload_n dX11_isRoomed_76 rfl (by decide) ?_
  refine ev_getf (j := 44) (t := 2) (x := (217 : Int)) dX11_isRoomed_77 cf_X11 wf_X11_117 sp181 (by decide) (by decide) rfl (by decide) (rp181_44 _) ?_
  refine ev_bipush dX11_isRoomed_80 (by decide) (by decide) ?_
  refine ev_iload_n dX11_isRoomed_82 rfl ?_
  refine ev_iconst dX11_isRoomed_83 (by decide) ?_
  refine ev_iadd dX11_isRoomed_84 ?_
  refine ev_imul dX11_isRoomed_85 ?_
  refine ev_iload dX11_isRoomed_86 rfl ?_
  refine ev_iadd dX11_isRoomed_88 ?_
  refine ev_iald dX11_isRoomed_89 sp217 (by decide) (by decide) h (fun h => ?_)
  show Ev _ _ _ _ 90 _ _ _ _ _
  refine ev_iload dX11_isRoomed_90 rfl ?_
  refine ev_iload dX11_isRoomed_92 rfl ?_
  refine ev_icmp_ne (tgt := 101) dX11_isRoomed_94 rfl h (fun cb h => ?_) (fun cb h => ?_)
  · refine ev_iconst dX11_isRoomed_101 (by decide) ?_
    exact ev_sub (L2 := [(2, (181 : Int)), (0, x1), (0, x2), (0, x3), (0, x4), (9, 0), (0, x6)]) (e_X11_isRoomed_102 σ x1 x2 x3 x4 x6 (1 : Int) (σ (217 : Int) (jadd (jmul (6 : Int) (jadd x2 (1 : Int))) x6)) x5 h K) ⟨.inr rfl, .inr rfl, .inr rfl, .inr rfl, .inr rfl, .inl rfl, .inr rfl, trivial⟩
  refine ev_iconst dX11_isRoomed_97 (by decide) ?_
  refine ev_goto (tgt := 102) dX11_isRoomed_98 rfl ?_
  exact ev_sub (L2 := [(2, (181 : Int)), (0, x1), (0, x2), (0, x3), (0, x4), (9, 0), (0, x6)]) (e_X11_isRoomed_102 σ x1 x2 x3 x4 x6 (0 : Int) (σ (217 : Int) (jadd (jmul (6 : Int) (jadd x2 (1 : Int))) x6)) x5 h K) ⟨.inr rfl, .inr rfl, .inr rfl, .inr rfl, .inr rfl, .inl rfl, .inr rfl, trivial⟩
set_option maxHeartbeats 4000000 in
set_option maxRecDepth 20000 in
theorem e_X11_isRoomed_52 (σ : Mem) (x1 x2 x3 x4 x5 x6 : Int)  {q : ((Int × Int × Mem) ⊕ ((Int × Mem)))} (h : f_X11_isRoomed_52 σ x1 x2 x3 x4 x5 x6 = some q) {r : Option V × Mem × Mem} (K : K_X11_isRoomed_18 x1 x2 r q) : Ev M_X11_isRoomed 218 218 r 52 218 rho σ [(2, (181 : Int)), (0, x1), (0, x2), (0, x3), (0, x4), (0, x5), (0, x6)] [] := by
  unfold f_X11_isRoomed_52 at h
  obtain ⟨e, hl, h⟩ := bind_of h
  refine loop_ev (K := K_X11_isRoomed_52 σ x1 x2 x3 x4 r) (b_X11_isRoomed_52 σ x1 x2 x3 x4) FU (x5, x6) e hl ?_
  show Ev M_X11_isRoomed 218 218 r 114 218 rho σ [(2, (181 : Int)), (0, x1), (0, x2), (0, x3), (0, x4), (0, e), (9, 0)] []
  replace h : f_X11_isRoomed_114 σ x1 x2 x3 x4 e = some q := h
  exact ev_sub (L2 := [(2, (181 : Int)), (0, x1), (0, x2), (0, x3), (0, x4), (0, e), (9, 0)]) (e_X11_isRoomed_114 σ x1 x2 x3 x4 e h K) ⟨.inr rfl, .inr rfl, .inr rfl, .inr rfl, .inr rfl, .inr rfl, .inl rfl, trivial⟩
set_option maxHeartbeats 4000000 in
set_option maxRecDepth 20000 in
theorem e_X11_isRoomed_47 (σ : Mem) (x1 x2 x3 x4 s0 : Int)  {q : ((Int × Int × Mem) ⊕ ((Int × Mem)))} (h : f_X11_isRoomed_47 σ x1 x2 x3 x4 s0 = some q) {r : Option V × Mem × Mem} (K : K_X11_isRoomed_18 x1 x2 r q) : Ev M_X11_isRoomed 218 218 r 47 218 rho σ [(2, (181 : Int)), (0, x1), (0, x2), (0, x3), (0, x4), (9, 0), (9, 0)] [(0, s0)] := by
  unfold f_X11_isRoomed_47 at h
  refine ev_istore dX11_isRoomed_47 rfl (by decide) ?_
  show Ev _ _ _ _ 49 _ _ _ [(2, (181 : Int)), (0, x1), (0, x2), (0, x3), (0, x4), (0, s0), (9, 0)] _
  refine ev_iconst dX11_isRoomed_49 (by decide) ?_
  refine ev_istore dX11_isRoomed_50 rfl (by decide) ?_
  show Ev _ _ _ _ 52 _ _ _ [(2, (181 : Int)), (0, x1), (0, x2), (0, x3), (0, x4), (0, s0), (0, (0 : Int))] _
  exact ev_sub (L2 := [(2, (181 : Int)), (0, x1), (0, x2), (0, x3), (0, x4), (0, s0), (0, (0 : Int))]) (e_X11_isRoomed_52 σ x1 x2 x3 x4 s0 (0 : Int) h K) ⟨.inr rfl, .inr rfl, .inr rfl, .inr rfl, .inr rfl, .inr rfl, .inr rfl, trivial⟩
set_option maxHeartbeats 4000000 in
set_option maxRecDepth 20000 in
theorem e_X11_isRoomed_183 (σ : Mem) (x2 s0 : Int)  {q : ((Int × Int × Mem) ⊕ ((Int × Mem)))} (h : f_X11_isRoomed_183 σ x2 s0 = some q) {r : Option V × Mem × Mem} (K : K_X11_isRoomed_9  r q) : Ev M_X11_isRoomed 218 218 r 183 218 rho σ [(2, (181 : Int)), (9, 0), (0, x2), (9, 0), (9, 0), (9, 0), (9, 0)] [(0, s0)] := by
  unfold f_X11_isRoomed_183 at h
  refine ev_istore_n dX11_isRoomed_183 rfl (by decide) ?_
  show Ev _ _ _ _ 184 _ _ _ [(2, (181 : Int)), (0, s0), (0, x2), (9, 0), (9, 0), (9, 0), (9, 0)] _
  refine ev_iincG dX11_isRoomed_184 rfl h rfl (fun v2 h => ?_)
  show Ev _ _ _ _ 187 _ _ _ [(2, (181 : Int)), (0, s0), (0, v2), (9, 0), (9, 0), (9, 0), (9, 0)] _
  refine ev_goto (tgt := 9) dX11_isRoomed_187 rfl ?_
  obtain rfl := Option.some.inj h
  exact ev_sub (L2 := [(2, (181 : Int)), (0, s0), (0, v2), (9, 0), (9, 0), (9, 0), (9, 0)]) K ⟨.inr rfl, .inr rfl, .inr rfl, .inl rfl, .inl rfl, .inl rfl, .inl rfl, trivial⟩
set_option maxHeartbeats 4000000 in
set_option maxRecDepth 20000 in
theorem e_X11_isRoomed_182 (σ : Mem) (x2 : Int)  {q : ((Int × Int × Mem) ⊕ ((Int × Mem)))} (h : f_X11_isRoomed_182 σ x2 = some q) {r : Option V × Mem × Mem} (K : K_X11_isRoomed_9  r q) : Ev M_X11_isRoomed 218 218 r 182 218 rho σ [(2, (181 : Int)), (9, 0), (0, x2), (9, 0), (9, 0), (9, 0), (9, 0)] [] := by
  unfold f_X11_isRoomed_182 at h
  refine ev_iconst dX11_isRoomed_182 (by decide) ?_
  exact ev_sub (L2 := [(2, (181 : Int)), (9, 0), (0, x2), (9, 0), (9, 0), (9, 0), (9, 0)]) (e_X11_isRoomed_183 σ x2 (0 : Int) h K) ⟨.inr rfl, .inl rfl, .inr rfl, .inl rfl, .inl rfl, .inl rfl, .inl rfl, trivial⟩
set_option maxHeartbeats 4000000 in
set_option maxRecDepth 20000 in
theorem e_X11_isRoomed_170 (σ : Mem) (x1 x2 x3 : Int)  {q : ((Int × Int × Mem) ⊕ ((Int × Mem)))} (h : f_X11_isRoomed_170 σ x1 x2 x3 = some q) {r : Option V × Mem × Mem} (K : K_X11_isRoomed_9  r q) : Ev M_X11_isRoomed 218 218 r 170 218 rho σ [(2, (181 : Int)), (0, x1), (0, x2), (0, x3), (9, 0), (9, 0), (9, 0)] [] := by
  unfold f_X11_isRoomed_170 at h
  refine ev_iload_n dX11_isRoomed_170 rfl ?_
  refine ev_if_eq (tgt := 182) dX11_isRoomed_171 rfl h (fun cb h => ?_) (fun cb h => ?_)
  · exact ev_sub (L2 := [(2, (181 : Int)), (9, 0), (0, x2), (9, 0), (9, 0), (9, 0), (9, 0)]) (e_X11_isRoomed_182 σ x2 h K) ⟨.inr rfl, .inl rfl, .inr rfl, .inl rfl, .inl rfl, .inl rfl, .inl rfl, trivial⟩
  refine ev_iload_n dX11_isRoomed_174 rfl ?_
  refine ev_if_eq (tgt := 182) dX11_isRoomed_175 rfl h (fun cb h => ?_) (fun cb h => ?_)
  · exact ev_sub (L2 := [(2, (181 : Int)), (9, 0), (0, x2), (9, 0), (9, 0), (9, 0), (9, 0)]) (e_X11_isRoomed_182 σ x2 h K) ⟨.inr rfl, .inl rfl, .inr rfl, .inl rfl, .inl rfl, .inl rfl, .inl rfl, trivial⟩
  refine ev_iconst dX11_isRoomed_178 (by decide) ?_
  refine ev_goto (tgt := 183) dX11_isRoomed_179 rfl ?_
  exact ev_sub (L2 := [(2, (181 : Int)), (9, 0), (0, x2), (9, 0), (9, 0), (9, 0), (9, 0)]) (e_X11_isRoomed_183 σ x2 (1 : Int) h K) ⟨.inr rfl, .inl rfl, .inr rfl, .inl rfl, .inl rfl, .inl rfl, .inl rfl, trivial⟩
set_option maxHeartbeats 4000000 in
set_option maxRecDepth 20000 in
theorem b_X11_isRoomed_18 (x1 x2 : Int)  {r : Option V × Mem × Mem} : ∀ a x, f_X11_isRoomed_18B x1 x2 a = some x → K_X11_isRoomed_18 x1 x2 r x → K_X11_isRoomed_18 x1 x2 r (.inl a) := by
  intro a x h K
  obtain ⟨x3, x4, σ⟩ := a
  have h : f_X11_isRoomed_18C x1 x2 x3 x4 σ = some x := h
  unfold f_X11_isRoomed_18C at h
  show Ev M_X11_isRoomed 218 218 r 18 218 rho σ [(2, (181 : Int)), (0, x1), (0, x2), (0, x3), (0, x4), (9, 0), (9, 0)] []
  refine ev_iload dX11_isRoomed_18 rfl ?_
  refine ev_aload_n dX11_isRoomed_20 rfl (by decide) ?_
  refine ev_getf (j := 0) (t := 2) (x := (182 : Int)) dX11_isRoomed_21 cf_X11 wf_X11_7 sp181 (by decide) (by decide) rfl (by decide) (rp181_0 _) ?_
  refine ev_bipush dX11_isRoomed_24 (by decide) (by decide) ?_
  refine ev_iald dX11_isRoomed_26 sp182 (by decide) (by decide) h (fun h => ?_)
  refine ev_icmp_ge (tgt := 170) dX11_isRoomed_27 rfl h (fun cb h => ?_) (fun cb h => ?_)
  · obtain rfl := Option.some.inj h
    exact ev_sub (L2 := [(2, (181 : Int)), (0, x1), (0, x2), (0, x3), (9, 0), (9, 0), (9, 0)]) K ⟨.inr rfl, .inr rfl, .inr rfl, .inr rfl, .inl rfl, .inl rfl, .inl rfl, trivial⟩
  refine ev_iload_n dX11_isRoomed_30 rfl ?_
  refine ev_aload_n dX11_isRoomed_31 rfl (by decide) ?_
  refine ev_getf (j := 37) (t := 0) (x := (σ (181 : Int) 37)) dX11_isRoomed_32 cf_X11 wf_X11_340 sp181 (by decide) (by decide) rfl (by decide) rfl ?_
  refine ev_iconst dX11_isRoomed_35 (by decide) ?_
  refine ev_isub dX11_isRoomed_36 ?_
  refine ev_icmp_ne (tgt := 44) dX11_isRoomed_37 rfl h (fun cb h => ?_) (fun cb h => ?_)
  · refine ev_sipush dX11_isRoomed_44 (by decide) (by decide) ?_
    exact ev_sub (L2 := [(2, (181 : Int)), (0, x1), (0, x2), (0, x3), (0, x4), (9, 0), (9, 0)]) (e_X11_isRoomed_47 σ x1 x2 x3 x4 (999 : Int) h K) ⟨.inr rfl, .inr rfl, .inr rfl, .inr rfl, .inr rfl, .inl rfl, .inl rfl, trivial⟩
  refine ev_iconst dX11_isRoomed_40 (by decide) ?_
  refine ev_goto (tgt := 47) dX11_isRoomed_41 rfl ?_
  exact ev_sub (L2 := [(2, (181 : Int)), (0, x1), (0, x2), (0, x3), (0, x4), (9, 0), (9, 0)]) (e_X11_isRoomed_47 σ x1 x2 x3 x4 (0 : Int) h K) ⟨.inr rfl, .inr rfl, .inr rfl, .inr rfl, .inr rfl, .inl rfl, .inl rfl, trivial⟩
set_option maxHeartbeats 4000000 in
set_option maxRecDepth 20000 in
theorem e_X11_isRoomed_18 (σ : Mem) (x1 x2 x3 x4 : Int)  {q : ((Int × Int × Mem) ⊕ ((Int × Mem)))} (h : f_X11_isRoomed_18 σ x1 x2 x3 x4 = some q) {r : Option V × Mem × Mem} (K : K_X11_isRoomed_9  r q) : Ev M_X11_isRoomed 218 218 r 18 218 rho σ [(2, (181 : Int)), (0, x1), (0, x2), (0, x3), (0, x4), (9, 0), (9, 0)] [] := by
  unfold f_X11_isRoomed_18 at h
  obtain ⟨e, hl, h⟩ := bind_of h
  refine loop_ev (K := K_X11_isRoomed_18 x1 x2 r) (b_X11_isRoomed_18 x1 x2) FU (x3, x4, σ) e hl ?_
  show Ev M_X11_isRoomed 218 218 r 170 218 rho e.2 [(2, (181 : Int)), (0, x1), (0, x2), (0, e.1), (9, 0), (9, 0), (9, 0)] []
  replace h : f_X11_isRoomed_170 e.2 x1 x2 e.1 = some q := h
  exact ev_sub (L2 := [(2, (181 : Int)), (0, x1), (0, x2), (0, e.1), (9, 0), (9, 0), (9, 0)]) (e_X11_isRoomed_170 e.2 x1 x2 e.1 h K) ⟨.inr rfl, .inr rfl, .inr rfl, .inr rfl, .inl rfl, .inl rfl, .inl rfl, trivial⟩
set_option maxHeartbeats 4000000 in
set_option maxRecDepth 20000 in
theorem b_X11_isRoomed_9  {r : Option V × Mem × Mem} : ∀ a x, f_X11_isRoomed_9B  a = some x → K_X11_isRoomed_9  r x → K_X11_isRoomed_9  r (.inl a) := by
  intro a x h K
  obtain ⟨x1, x2, σ⟩ := a
  have h : f_X11_isRoomed_9C  x1 x2 σ = some x := h
  unfold f_X11_isRoomed_9C at h
  show Ev M_X11_isRoomed 218 218 r 9 218 rho σ [(2, (181 : Int)), (0, x1), (0, x2), (9, 0), (9, 0), (9, 0), (9, 0)] []
  refine ev_iload_n dX11_isRoomed_9 rfl ?_
  refine ev_if_lt (tgt := 190) dX11_isRoomed_10 rfl h (fun cb h => ?_) (fun cb h => ?_)
  · obtain rfl := Option.some.inj h
    exact ev_sub (L2 := [(9, 0), (0, x1), (9, 0), (9, 0), (9, 0), (9, 0), (9, 0)]) K ⟨.inl rfl, .inr rfl, .inl rfl, .inl rfl, .inl rfl, .inl rfl, .inl rfl, trivial⟩
  refine ev_iconst dX11_isRoomed_13 (by decide) ?_
  refine ev_istore_n dX11_isRoomed_14 rfl (by decide) ?_
  show Ev _ _ _ _ 15 _ _ _ [(2, (181 : Int)), (0, x1), (0, x2), (0, (0 : Int)), (9, 0), (9, 0), (9, 0)] _
  refine ev_iconst dX11_isRoomed_15 (by decide) ?_
  refine ev_istore dX11_isRoomed_16 rfl (by decide) ?_
  show Ev _ _ _ _ 18 _ _ _ [(2, (181 : Int)), (0, x1), (0, x2), (0, (0 : Int)), (0, (0 : Int)), (9, 0), (9, 0)] _
  exact ev_sub (L2 := [(2, (181 : Int)), (0, x1), (0, x2), (0, (0 : Int)), (0, (0 : Int)), (9, 0), (9, 0)]) (e_X11_isRoomed_18 σ x1 x2 (0 : Int) (0 : Int) h K) ⟨.inr rfl, .inr rfl, .inr rfl, .inr rfl, .inr rfl, .inl rfl, .inl rfl, trivial⟩
set_option maxHeartbeats 4000000 in
set_option maxRecDepth 20000 in
theorem e_X11_isRoomed_9 (σ : Mem) (x1 x2 : Int)  {q : (Int × Mem)} (h : f_X11_isRoomed_9 σ x1 x2 = some q) : Ev M_X11_isRoomed 218 218 (some (0, q.1), rho, q.2) 9 218 rho σ [(2, (181 : Int)), (0, x1), (0, x2), (9, 0), (9, 0), (9, 0), (9, 0)] [] := by
  unfold f_X11_isRoomed_9 at h
  obtain ⟨e, hl, h⟩ := bind_of h
  refine loop_ev (K := K_X11_isRoomed_9  (some (0, q.1), rho, q.2)) (b_X11_isRoomed_9 ) FU (x1, x2, σ) e hl ?_
  show Ev M_X11_isRoomed 218 218 _ 190 218 rho e.2 [(9, 0), (0, e.1), (9, 0), (9, 0), (9, 0), (9, 0), (9, 0)] []
  replace h : chk (e.1 = 0 ∨ e.1 = 1) (some (e.1, e.2)) = some q := h
  refine ev_iload_n dX11_isRoomed_190 rfl ?_
  obtain ⟨hz, h⟩ := chk_of h
  obtain rfl := Option.some.inj h
  exact ev_zret dX11_isRoomed_191 rfl (chk_pos hz)
set_option maxHeartbeats 4000000 in
set_option maxRecDepth 20000 in
theorem c_X11_isRoomed {σ : Mem}  {q : (Int × Mem)} (h : f_X11_isRoomed σ  = some q) : Ms yX11_isRoomed M_X11_isRoomed 218 218 [(2, (181 : Int))] rho σ (some (0, q.1), rho, q.2) := by
  refine Ms.of 6 (by decide +kernel) rfl (fun z => absurd z (by decide)) (fun _ _ _ => trivial) rfl rfl ?_
  unfold f_X11_isRoomed at h
  show Ev M_X11_isRoomed 218 218 _ 0 218 rho σ [(2, (181 : Int)), (9, 0), (9, 0), (9, 0), (9, 0), (9, 0), (9, 0)] []
  refine ev_iconst dX11_isRoomed_0 (by decide) ?_
  refine ev_istore_n dX11_isRoomed_1 rfl (by decide) ?_
  show Ev _ _ _ _ 2 _ _ _ [(2, (181 : Int)), (0, (1 : Int)), (9, 0), (9, 0), (9, 0), (9, 0), (9, 0)] _
  refine ev_aload_n dX11_isRoomed_2 rfl (by decide) ?_
  refine ev_getf (j := 37) (t := 0) (x := (σ (181 : Int) 37)) dX11_isRoomed_3 cf_X11 wf_X11_340 sp181 (by decide) (by decide) rfl (by decide) rfl ?_
  refine ev_iconst dX11_isRoomed_6 (by decide) ?_
  refine ev_isub dX11_isRoomed_7 ?_
  refine ev_istore_nG dX11_isRoomed_8 h rfl (by decide) (fun v1 h => ?_)
  show Ev _ _ _ _ 9 _ _ _ [(2, (181 : Int)), (0, (1 : Int)), (0, v1), (9, 0), (9, 0), (9, 0), (9, 0)] _
  exact ev_sub (L2 := [(2, (181 : Int)), (0, (1 : Int)), (0, v1), (9, 0), (9, 0), (9, 0), (9, 0)]) (e_X11_isRoomed_9 σ (1 : Int) v1 h) ⟨.inr rfl, .inr rfl, .inr rfl, .inl rfl, .inl rfl, .inl rfl, .inl rfl, trivial⟩
def K_X11_roomed_161 (x1 x2 x3 x4 : Int) (r : Option V × Mem × Mem) : (Int × Mem) ⊕ ((Mem)) → Prop := Sum.elim (fun a => Ev M_X11_roomed 218 218 r 161 218 rho a.2 [(2, (181 : Int)), (0, x1), (0, x2), (0, x3), (0, x4), (9, 0), (0, a.1), (9, 0)] []) (fun e => Ev M_X11_roomed 218 218 r 202 218 rho e [(2, (181 : Int)), (0, x1), (0, x2), (0, x3), (9, 0), (9, 0), (9, 0), (9, 0)] [])
def K_X11_roomed_43 (σ : Mem) (x1 x2 x3 : Int) (r : Option V × Mem × Mem) : (Int × Int × Int) ⊕ ((Int × Int)) → Prop := Sum.elim (fun a => Ev M_X11_roomed 218 218 r 43 218 rho σ [(2, (181 : Int)), (0, x1), (0, x2), (0, x3), (0, a.1), (0, a.2.1), (0, a.2.2), (9, 0)] []) (fun e => Ev M_X11_roomed 218 218 r 116 218 rho σ [(2, (181 : Int)), (0, x1), (9, 0), (0, x3), (0, e.1), (0, e.2), (9, 0), (9, 0)] [])
def K_X11_roomed_24 (x1 : Int) (r : Option V × Mem × Mem) : (Int × Int × Mem) ⊕ ((Mem)) → Prop := Sum.elim (fun a => Ev M_X11_roomed 218 218 r 24 218 rho a.2.2 [(2, (181 : Int)), (0, x1), (0, a.1), (0, a.2.1), (9, 0), (9, 0), (9, 0), (9, 0)] []) (fun e => Ev M_X11_roomed 218 218 r 208 218 rho e [(9, 0), (9, 0), (9, 0), (9, 0), (9, 0), (9, 0), (9, 0), (9, 0)] [])
set_option maxHeartbeats 4000000 in
set_option maxRecDepth 20000 in
theorem e_X11_roomed_99 (σ : Mem) (x1 x2 x3 x5 x6 x7 s0 : Int)  {q : ((Int × Int × Int) ⊕ ((Int × Int)))} (h : f_X11_roomed_99 σ x1 x2 x3 x5 x6 x7 s0 = some q) {r : Option V × Mem × Mem} (K : K_X11_roomed_43 σ x1 x2 x3 r q) : Ev M_X11_roomed 218 218 r 99 218 rho σ [(2, (181 : Int)), (0, x1), (0, x2), (0, x3), (9, 0), (0, x5), (0, x6), (0, x7)] [(0, s0)] := by
  unfold f_X11_roomed_99 at h
  refine ev_istore dX11_roomed_99 rfl (by decide) ?_
  show Ev _ _ _ _ 101 _ _ _ [(2, (181 : Int)), (0, x1), (0, x2), (0, x3), (0, s0), (0, x5), (0, x6), (0, x7)] _
  refine ev_iload dX11_roomed_101 rfl ?_
  refine ev_iload dX11_roomed_103 rfl ?_
  refine ev_mn dX11_roomed_105 wa_X11_343 wm_min (by decide) (Nat.le_of_ble_eq_true rfl) ?_
  refine ev_istoreG dX11_roomed_108 h rfl (by decide) (fun v3 h => ?_)
  show Ev _ _ _ _ 110 _ _ _ [(2, (181 : Int)), (0, x1), (0, x2), (0, x3), (0, s0), (0, v3), (0, x6), (0, x7)] _
  refine ev_iincG dX11_roomed_110 rfl h rfl (fun v4 h => ?_)
  show Ev _ _ _ _ 113 _ _ _ [(2, (181 : Int)), (0, x1), (0, x2), (0, x3), (0, s0), (0, v3), (0, v4), (0, x7)] _
  refine ev_goto (tgt := 43) dX11_roomed_113 rfl ?_
  obtain rfl := Option.some.inj h
  exact ev_sub (L2 := [(2, (181 : Int)), (0, x1), (0, x2), (0, x3), (0, s0), (0, v3), (0, v4), (9, 0)]) K ⟨.inr rfl, .inr rfl, .inr rfl, .inr rfl, .inr rfl, .inr rfl, .inr rfl, .inl rfl, trivial⟩
set_option maxHeartbeats 4000000 in
set_option maxRecDepth 20000 in
theorem e_X11_roomed_82 (σ : Mem) (x1 x2 x3 x4 x5 x6 s1 s0 : Int)  {q : ((Int × Int × Int) ⊕ ((Int × Int)))} (h : f_X11_roomed_82 σ x1 x2 x3 x4 x5 x6 s1 s0 = some q) {r : Option V × Mem × Mem} (K : K_X11_roomed_43 σ x1 x2 x3 r q) : Ev M_X11_roomed 218 218 r 82 218 rho σ [(2, (181 : Int)), (0, x1), (0, x2), (0, x3), (0, x4), (0, x5), (0, x6), (9, 0)] [(0, s1), (0, s0)] := by
  unfold f_X11_roomed_82 at h
  refine ev_iadd dX11_roomed_82 ?_
  refine ev_istoreG dX11_roomed_83 h rfl (by decide) (fun v2 h => ?_)
  show Ev _ _ _ _ 85 _ _ _ [(2, (181 : Int)), (0, x1), (0, x2), (0, x3), (0, x4), (0, x5), (0, x6), (0, v2)] _
  refine ev_iload dX11_roomed_85 rfl ?_
  refine ev_iload dX11_roomed_87 rfl ?_
  refine ev_icmp_ge (tgt := 97) dX11_roomed_89 rfl h (fun cb h => ?_) (fun cb h => ?_)
  · refine ev_iload dX11_roomed_97 rfl ?_
    exact ev_sub (L2 := [(2, (181 : Int)), (0, x1), (0, x2), (0, x3), (9, 0), (0, x5), (0, x6), (0, v2)]) (e_X11_roomed_99 σ x1 x2 x3 x5 x6 v2 x4 h K) ⟨.inr rfl, .inr rfl, .inr rfl, .inr rfl, .inl rfl, .inr rfl, .inr rfl, .inr rfl, trivial⟩
  refine ev_iload dX11_roomed_92 rfl ?_
  refine ev_goto (tgt := 99) dX11_roomed_94 rfl ?_
  exact ev_sub (L2 := [(2, (181 : Int)), (0, x1), (0, x2), (0, x3), (9, 0), (0, x5), (0, x6), (0, v2)]) (e_X11_roomed_99 σ x1 x2 x3 x5 x6 v2 x6 h K) ⟨.inr rfl, .inr rfl, .inr rfl, .inr rfl, .inl rfl, .inr rfl, .inr rfl, .inr rfl, trivial⟩
set_option maxHeartbeats 4000000 in
set_option maxRecDepth 20000 in
theorem e_X11_roomed_81 (σ : Mem) (x1 x2 x3 x4 x5 x6 s0 : Int)  {q : ((Int × Int × Int) ⊕ ((Int × Int)))} (h : f_X11_roomed_81 σ x1 x2 x3 x4 x5 x6 s0 = some q) {r : Option V × Mem × Mem} (K : K_X11_roomed_43 σ x1 x2 x3 r q) : Ev M_X11_roomed 218 218 r 81 218 rho σ [(2, (181 : Int)), (0, x1), (0, x2), (0, x3), (0, x4), (0, x5), (0, x6), (9, 0)] [(0, s0)] := by
  unfold f_X11_roomed_81 at h
  refine ev_iconst dX11_roomed_81 (by decide) ?_
  exact ev_sub (L2 := [(2, (181 : Int)), (0, x1), (0, x2), (0, x3), (0, x4), (0, x5), (0, x6), (9, 0)]) (e_X11_roomed_82 σ x1 x2 x3 x4 x5 x6 (0 : Int) s0 h K) ⟨.inr rfl, .inr rfl, .inr rfl, .inr rfl, .inr rfl, .inr rfl, .inr rfl, .inl rfl, trivial⟩
set_option maxHeartbeats 4000000 in
set_option maxRecDepth 20000 in
theorem e_X11_roomed_202 (σ : Mem) (x1 x2 x3 : Int)  {q : ((Int × Int × Mem) ⊕ ((Mem)))} (h : f_X11_roomed_202 σ x1 x2 x3 = some q) {r : Option V × Mem × Mem} (K : K_X11_roomed_24 x1 r q) : Ev M_X11_roomed 218 218 r 202 218 rho σ [(2, (181 : Int)), (0, x1), (0, x2), (0, x3), (9, 0), (9, 0), (9, 0), (9, 0)] [] := by
  unfold f_X11_roomed_202 at h
  refine ev_iincG dX11_roomed_202 rfl h rfl (fun v10 h => ?_)
  show Ev _ _ _ _ 205 _ _ _ [(2, (181 : Int)), (0, x1), (0, x2), (0, v10), (9, 0), (9, 0), (9, 0), (9, 0)] _
  refine ev_goto (tgt := 24) dX11_roomed_205 rfl ?_
  obtain rfl := Option.some.inj h
  exact ev_sub (L2 := [(2, (181 : Int)), (0, x1), (0, x2), (0, v10), (9, 0), (9, 0), (9, 0), (9, 0)]) K ⟨.inr rfl, .inr rfl, .inr rfl, .inr rfl, .inl rfl, .inl rfl, .inl rfl, .inl rfl, trivial⟩
set_option maxHeartbeats 4000000 in
set_option maxRecDepth 20000 in
theorem b_X11_roomed_161 (x1 x2 x3 x4 : Int)  {r : Option V × Mem × Mem} : ∀ a x, f_X11_roomed_161B x1 x2 x3 x4 a = some x → K_X11_roomed_161 x1 x2 x3 x4 r x → K_X11_roomed_161 x1 x2 x3 x4 r (.inl a) := by
  intro a x h K
  obtain ⟨x6, σ⟩ := a
  have h : f_X11_roomed_161C x1 x2 x3 x4 x6 σ = some x := h
  unfold f_X11_roomed_161C at h
  show Ev M_X11_roomed 218 218 r 161 218 rho σ [(2, (181 : Int)), (0, x1), (0, x2), (0, x3), (0, x4), (9, 0), (0, x6), (9, 0)] []
  refine ev_iload dX11_roomed_161 rfl ?_
  refine ev_aload_n dX11_roomed_163 rfl (by decide) ?_
  refine ev_getf (j := 38) (t := 2) (x := (211 : Int)) dX11_roomed_164 cf_X11 wf_X11_99 sp181 (by decide) (by decide) rfl (by decide) (rp181_38 _) ?_
  refine ev_iload_n dX11_roomed_167 rfl ?_
  refine ev_iald dX11_roomed_168 sp211 (by decide) (by decide) h (fun h => ?_)
  refine ev_aload_n dX11_roomed_169 rfl (by decide) ?_
  refine ev_getf (j := 39) (t := 2) (x := (212 : Int)) dX11_roomed_170 cf_X11 wf_X11_102 sp181 (by decide) (by decide) rfl (by decide) (rp181_39 _) ?_
  refine ev_iload_n dX11_roomed_173 rfl ?_
  refine ev_iald dX11_roomed_174 sp212 (by decide) (by decide) h (fun h => ?_)
  refine ev_iadd dX11_roomed_175 ?_
  refine ev_icmp_ge (tgt := 202) dX11_roomed_176 rfl h (fun cb h => ?_) (fun cb h => ?_)
  · obtain rfl := Option.some.inj h
    exact ev_sub (L2 := [(2, (181 : Int)), (0, x1), (0, x2), (0, x3), (9, 0), (9, 0), (9, 0), (9, 0)]) K ⟨.inr rfl, .inr rfl, .inr rfl, .inr rfl, .inl rfl, .inl rfl, .inl rfl, .inl rfl, trivial⟩
  refine ev_aload_n dX11_roomed_179 rfl (by decide) ?_
  refine ev_getf (j := 43) (t := 2) (x := (216 : Int)) dX11_roomed_180 cf_X11 wf_X11_114 sp181 (by decide) (by decide) rfl (by decide) (rp181_43 _) ?_
  refine ev_bipush dX11_roomed_183 (by decide) (by decide) ?_
  refine ev_iload dX11_roomed_185 rfl ?_
  refine ev_imul dX11_roomed_187 ?_
  refine ev_iload dX11_roomed_188 rfl ?_
  refine ev_iadd dX11_roomed_190 ?_
  refine ev_dup2 dX11_roomed_191 (show (0 : Nat) ≠ 1 by decide) (show (2 : Nat) ≠ 1 by decide) ?_
  refine ev_iald dX11_roomed_192 sp216 (by decide) (by decide) h (fun h => ?_)
  refine ev_iconst dX11_roomed_193 (by decide) ?_
  refine ev_isub dX11_roomed_194 ?_
  show Ev _ _ _ _ 195 _ _ _ _ _
  refine ev_iastG dX11_roomed_195 sp216 (by decide) (by decide) h (fun σ8 h => ?_)
  refine ev_iincG dX11_roomed_196 rfl h rfl (fun v9 h => ?_)
  show Ev _ _ _ _ 199 _ _ _ [(2, (181 : Int)), (0, x1), (0, x2), (0, x3), (0, x4), (9, 0), (0, v9), (9, 0)] _
  refine ev_goto (tgt := 161) dX11_roomed_199 rfl ?_
  obtain rfl := Option.some.inj h
  exact ev_sub (L2 := [(2, (181 : Int)), (0, x1), (0, x2), (0, x3), (0, x4), (9, 0), (0, v9), (9, 0)]) K ⟨.inr rfl, .inr rfl, .inr rfl, .inr rfl, .inr rfl, .inl rfl, .inr rfl, .inl rfl, trivial⟩
set_option maxHeartbeats 4000000 in
set_option maxRecDepth 20000 in
theorem e_X11_roomed_161 (σ : Mem) (x1 x2 x3 x4 x6 : Int)  {q : ((Int × Int × Mem) ⊕ ((Mem)))} (h : f_X11_roomed_161 σ x1 x2 x3 x4 x6 = some q) {r : Option V × Mem × Mem} (K : K_X11_roomed_24 x1 r q) : Ev M_X11_roomed 218 218 r 161 218 rho σ [(2, (181 : Int)), (0, x1), (0, x2), (0, x3), (0, x4), (9, 0), (0, x6), (9, 0)] [] := by
  unfold f_X11_roomed_161 at h
  obtain ⟨e, hl, h⟩ := bind_of h
  refine loop_ev (K := K_X11_roomed_161 x1 x2 x3 x4 r) (b_X11_roomed_161 x1 x2 x3 x4) FU (x6, σ) e hl ?_
  show Ev M_X11_roomed 218 218 r 202 218 rho e [(2, (181 : Int)), (0, x1), (0, x2), (0, x3), (9, 0), (9, 0), (9, 0), (9, 0)] []
  replace h : f_X11_roomed_202 e x1 x2 x3 = some q := h
  exact ev_sub (L2 := [(2, (181 : Int)), (0, x1), (0, x2), (0, x3), (9, 0), (9, 0), (9, 0), (9, 0)]) (e_X11_roomed_202 e x1 x2 x3 h K) ⟨.inr rfl, .inr rfl, .inr rfl, .inr rfl, .inl rfl, .inl rfl, .inl rfl, .inl rfl, trivial⟩
set_option maxHeartbeats 4000000 in
set_option maxRecDepth 20000 in
theorem e_X11_roomed_136 (σ : Mem) (x1 x3 x4 s2 s1 : Int)  {q : ((Int × Int × Mem) ⊕ ((Mem)))} (h : f_X11_roomed_136 σ x1 x3 x4 s2 s1 = some q) {r : Option V × Mem × Mem} (K : K_X11_roomed_24 x1 r q) : Ev M_X11_roomed 218 218 r 136 218 rho σ [(2, (181 : Int)), (0, x1), (9, 0), (0, x3), (0, x4), (9, 0), (9, 0), (9, 0)] [(0, s2), (0, s1), (2, (214 : Int))] := by
  unfold f_X11_roomed_136 at h
  refine ev_iastG dX11_roomed_136 sp214 (by decide) (by decide) h (fun σ5 h => ?_)
  refine ev_aload_n dX11_roomed_137 rfl (by decide) ?_
  refine ev_getf (j := 40) (t := 2) (x := (213 : Int)) dX11_roomed_138 cf_X11 wf_X11_105 sp181 (by decide) (by decide) rfl (by decide) (rp181_40 _) ?_
  refine ev_bipush dX11_roomed_141 (by decide) (by decide) ?_
  refine ev_iload_n dX11_roomed_143 rfl ?_
  refine ev_imul dX11_roomed_144 ?_
  refine ev_iload_n dX11_roomed_145 rfl ?_
  refine ev_iadd dX11_roomed_146 ?_
  refine ev_iload dX11_roomed_147 rfl ?_
  refine ev_iastG dX11_roomed_149 sp213 (by decide) (by decide) h (fun σ6 h => ?_)
  refine ev_iload dX11_roomed_150 rfl ?_
  show Ev _ _ _ _ 152 _ _ _ _ _
  refine ev_istore_n dX11_roomed_152 rfl (by decide) ?_
  show Ev _ _ _ _ 153 _ _ _ [(2, (181 : Int)), (0, x1), (0, x4), (0, x3), (0, x4), (9, 0), (9, 0), (9, 0)] _
  refine ev_aload_n dX11_roomed_153 rfl (by decide) ?_
  refine ev_getf (j := 38) (t := 2) (x := (211 : Int)) dX11_roomed_154 cf_X11 wf_X11_99 sp181 (by decide) (by decide) rfl (by decide) (rp181_38 _) ?_
  refine ev_iload_n dX11_roomed_157 rfl ?_
  refine ev_iald dX11_roomed_158 sp211 (by decide) (by decide) h (fun h => ?_)
  refine ev_istoreG dX11_roomed_159 h rfl (by decide) (fun v7 h => ?_)
  show Ev _ _ _ _ 161 _ _ _ [(2, (181 : Int)), (0, x1), (0, x4), (0, x3), (0, x4), (9, 0), (0, v7), (9, 0)] _
  exact ev_sub (L2 := [(2, (181 : Int)), (0, x1), (0, x4), (0, x3), (0, x4), (9, 0), (0, v7), (9, 0)]) (e_X11_roomed_161 σ6 x1 x4 x3 x4 v7 h K) ⟨.inr rfl, .inr rfl, .inr rfl, .inr rfl, .inr rfl, .inl rfl, .inr rfl, .inl rfl, trivial⟩
set_option maxHeartbeats 4000000 in
set_option maxRecDepth 20000 in
theorem e_X11_roomed_116 (σ : Mem) (x1 x3 x4 x5 : Int)  {q : ((Int × Int × Mem) ⊕ ((Mem)))} (h : f_X11_roomed_116 σ x1 x3 x4 x5 = some q) {r : Option V × Mem × Mem} (K : K_X11_roomed_24 x1 r q) : Ev M_X11_roomed 218 218 r 116 218 rho σ [(2, (181 : Int)), (0, x1), (9, 0), (0, x3), (0, x4), (0, x5), (9, 0), (9, 0)] [] := by
  unfold f_X11_roomed_116 at h
  refine ev_aload_n dX11_roomed_116 rfl (by decide) ?_
  refine ev_getf (j := 41) (t := 2) (x := (214 : Int)) dX11_roomed_117 cf_X11 wf_X11_108 sp181 (by decide) (by decide) rfl (by decide) (rp181_41 _) ?_
  refine ev_iload_n dX11_roomed_120 rfl ?_
  refine ev_iload_n dX11_roomed_121 rfl ?_
  refine ev_if_ne (tgt := 130) dX11_roomed_122 rfl h (fun cb h => ?_) (fun cb h => ?_)
  · refine ev_aload_n dX11_roomed_130 rfl (by decide) ?_
    refine ev_getf (j := 41) (t := 2) (x := (214 : Int)) dX11_roomed_131 cf_X11 wf_X11_108 sp181 (by decide) (by decide) rfl (by decide) (rp181_41 _) ?_
    refine ev_iload_n dX11_roomed_134 rfl ?_
    refine ev_iald dX11_roomed_135 sp214 (by decide) (by decide) h (fun h => ?_)
    exact ev_sub (L2 := [(2, (181 : Int)), (0, x1), (9, 0), (0, x3), (0, x4), (9, 0), (9, 0), (9, 0)]) (e_X11_roomed_136 σ x1 x3 x4 (σ (214 : Int) x1) x1 h K) ⟨.inr rfl, .inr rfl, .inl rfl, .inr rfl, .inr rfl, .inl rfl, .inl rfl, .inl rfl, trivial⟩
  refine ev_iload dX11_roomed_125 rfl ?_
  refine ev_goto (tgt := 136) dX11_roomed_127 rfl ?_
  exact ev_sub (L2 := [(2, (181 : Int)), (0, x1), (9, 0), (0, x3), (0, x4), (9, 0), (9, 0), (9, 0)]) (e_X11_roomed_136 σ x1 x3 x4 x5 x1 h K) ⟨.inr rfl, .inr rfl, .inl rfl, .inr rfl, .inr rfl, .inl rfl, .inl rfl, .inl rfl, trivial⟩
set_option maxHeartbeats 4000000 in
set_option maxRecDepth 20000 in
theorem b_X11_roomed_43 (σ : Mem) (x1 x2 x3 : Int)  {r : Option V × Mem × Mem} : ∀ a x, f_X11_roomed_43B σ x1 x2 x3 a = some x → K_X11_roomed_43 σ x1 x2 x3 r x → K_X11_roomed_43 σ x1 x2 x3 r (.inl a) := by
  intro a x h K
  obtain ⟨x4, x5, x6⟩ := a
  have h : f_X11_roomed_43C σ x1 x2 x3 x4 x5 x6 = some x := h
  unfold f_X11_roomed_43C at h
  show Ev M_X11_roomed 218 218 r 43 218 rho σ [(2, (181 : Int)), (0, x1), (0, x2), (0, x3), (0, x4), (0, x5), (0, x6), (9, 0)] []
  refine ev_iload dX11_roomed_43 rfl ?_
  refine ev_aload_n dX11_roomed_45 rfl (by decide) ?_
  refine ev_getf (j := 0) (t := 2) (x := (182 : Int)) dX11_roomed_46 cf_X11 wf_X11_7 sp181 (by decide) (by decide) rfl (by decide) (rp181_0 _) ?_
  refine ev_bipush dX11_roomed_49 (by decide) (by decide) ?_
  refine ev_iald dX11_roomed_51 sp182 (by decide) (by decide) h (fun h => ?_)
  refine ev_icmp_ge (tgt := 116) dX11_roomed_52 rfl h (fun cb h => ?_) (fun cb h => ?_)
  · obtain rfl := Option.some.inj h
    exact ev_sub (L2 := [(2, (181 : Int)), (0, x1), (9, 0), (0, x3), (0, x4), (0, x5), (9, 0), (9, 0)]) K ⟨.inr rfl, .inr rfl, .inl rfl, .inr rfl, .inr rfl, .inr rfl, .inl rfl, .inl rfl, trivial⟩
  refine ev_aload_n dX11_roomed_55 rfl (by decide) ?_
  refine ev_getf (j := 44) (t := 2) (x := (217 : Int)) dX11_roomed_56 cf_X11 wf_X11_117 sp181 (by decide) (by decide) rfl (by decide) (rp181_44 _) ?_
  refine ev_bipush dX11_roomed_59 (by decide) (by decide) ?_
  refine ev_iload_n dX11_roomed_61 rfl ?_
  refine ev_imul dX11_roomed_62 ?_
  refine ev_iload dX11_roomed_63 rfl ?_
  refine ev_iadd dX11_roomed_65 ?_
  refine ev_iald dX11_roomed_66 sp217 (by decide) (by decide) h (fun h => ?_)
  refine ev_iload_n dX11_roomed_67 rfl ?_
  refine ev_if_lt (tgt := 81) dX11_roomed_68 rfl h (fun cb h => ?_) (fun cb h => ?_)
  · exact ev_sub (L2 := [(2, (181 : Int)), (0, x1), (0, x2), (0, x3), (0, x4), (0, x5), (0, x6), (9, 0)]) (e_X11_roomed_81 σ x1 x2 x3 x4 x5 x6 (σ (217 : Int) (jadd (jmul (6 : Int) x3) x6)) h K) ⟨.inr rfl, .inr rfl, .inr rfl, .inr rfl, .inr rfl, .inr rfl, .inr rfl, .inl rfl, trivial⟩
  refine ev_iload dX11_roomed_71 rfl ?_
  refine ev_iload_n dX11_roomed_73 rfl ?_
  refine ev_icmp_eq (tgt := 81) dX11_roomed_74 rfl h (fun cb h => ?_) (fun cb h => ?_)
  · exact ev_sub (L2 := [(2, (181 : Int)), (0, x1), (0, x2), (0, x3), (0, x4), (0, x5), (0, x6), (9, 0)]) (e_X11_roomed_81 σ x1 x2 x3 x4 x5 x6 (σ (217 : Int) (jadd (jmul (6 : Int) x3) x6)) h K) ⟨.inr rfl, .inr rfl, .inr rfl, .inr rfl, .inr rfl, .inr rfl, .inr rfl, .inl rfl, trivial⟩
  refine ev_iconst dX11_roomed_77 (by decide) ?_
  refine ev_goto (tgt := 82) dX11_roomed_78 rfl ?_
  exact ev_sub (L2 := [(2, (181 : Int)), (0, x1), (0, x2), (0, x3), (0, x4), (0, x5), (0, x6), (9, 0)]) (e_X11_roomed_82 σ x1 x2 x3 x4 x5 x6 (1 : Int) (σ (217 : Int) (jadd (jmul (6 : Int) x3) x6)) h K) ⟨.inr rfl, .inr rfl, .inr rfl, .inr rfl, .inr rfl, .inr rfl, .inr rfl, .inl rfl, trivial⟩
set_option maxHeartbeats 4000000 in
set_option maxRecDepth 20000 in
theorem e_X11_roomed_43 (σ : Mem) (x1 x2 x3 x4 x5 x6 : Int)  {q : ((Int × Int × Mem) ⊕ ((Mem)))} (h : f_X11_roomed_43 σ x1 x2 x3 x4 x5 x6 = some q) {r : Option V × Mem × Mem} (K : K_X11_roomed_24 x1 r q) : Ev M_X11_roomed 218 218 r 43 218 rho σ [(2, (181 : Int)), (0, x1), (0, x2), (0, x3), (0, x4), (0, x5), (0, x6), (9, 0)] [] := by
  unfold f_X11_roomed_43 at h
  obtain ⟨e, hl, h⟩ := bind_of h
  refine loop_ev (K := K_X11_roomed_43 σ x1 x2 x3 r) (b_X11_roomed_43 σ x1 x2 x3) FU (x4, x5, x6) e hl ?_
  show Ev M_X11_roomed 218 218 r 116 218 rho σ [(2, (181 : Int)), (0, x1), (9, 0), (0, x3), (0, e.1), (0, e.2), (9, 0), (9, 0)] []
  replace h : f_X11_roomed_116 σ x1 x3 e.1 e.2 = some q := h
  exact ev_sub (L2 := [(2, (181 : Int)), (0, x1), (9, 0), (0, x3), (0, e.1), (0, e.2), (9, 0), (9, 0)]) (e_X11_roomed_116 σ x1 x3 e.1 e.2 h K) ⟨.inr rfl, .inr rfl, .inl rfl, .inr rfl, .inr rfl, .inr rfl, .inl rfl, .inl rfl, trivial⟩
set_option maxHeartbeats 4000000 in
set_option maxRecDepth 20000 in
theorem b_X11_roomed_24 (x1 : Int)  {r : Option V × Mem × Mem} : ∀ a x, f_X11_roomed_24B x1 a = some x → K_X11_roomed_24 x1 r x → K_X11_roomed_24 x1 r (.inl a) := by
  intro a x h K
  obtain ⟨x2, x3, σ⟩ := a
  have h : f_X11_roomed_24C x1 x2 x3 σ = some x := h
  unfold f_X11_roomed_24C at h
  show Ev M_X11_roomed 218 218 r 24 218 rho σ [(2, (181 : Int)), (0, x1), (0, x2), (0, x3), (9, 0), (9, 0), (9, 0), (9, 0)] []
  refine ev_iload_n dX11_roomed_24 rfl ?_
  refine ev_aload_n dX11_roomed_25 rfl (by decide) ?_
  refine ev_getf (j := 37) (t := 0) (x := (σ (181 : Int) 37)) dX11_roomed_26 cf_X11 wf_X11_340 sp181 (by decide) (by decide) rfl (by decide) rfl ?_
  refine ev_icmp_ge (tgt := 208) dX11_roomed_29 rfl h (fun cb h => ?_) (fun cb h => ?_)
  · obtain rfl := Option.some.inj h
    exact ev_sub (L2 := [(9, 0), (9, 0), (9, 0), (9, 0), (9, 0), (9, 0), (9, 0), (9, 0)]) K ⟨.inl rfl, .inl rfl, .inl rfl, .inl rfl, .inl rfl, .inl rfl, .inl rfl, .inl rfl, trivial⟩
  refine ev_iconst dX11_roomed_32 (by decide) ?_
  refine ev_istore dX11_roomed_33 rfl (by decide) ?_
  show Ev _ _ _ _ 35 _ _ _ [(2, (181 : Int)), (0, x1), (0, x2), (0, x3), (0, (-1 : Int)), (9, 0), (9, 0), (9, 0)] _
  refine ev_sipush dX11_roomed_35 (by decide) (by decide) ?_
  refine ev_istore dX11_roomed_38 rfl (by decide) ?_
  show Ev _ _ _ _ 40 _ _ _ [(2, (181 : Int)), (0, x1), (0, x2), (0, x3), (0, (-1 : Int)), (0, (999 : Int)), (9, 0), (9, 0)] _
  refine ev_iconst dX11_roomed_40 (by decide) ?_
  refine ev_istore dX11_roomed_41 rfl (by decide) ?_
  show Ev _ _ _ _ 43 _ _ _ [(2, (181 : Int)), (0, x1), (0, x2), (0, x3), (0, (-1 : Int)), (0, (999 : Int)), (0, (0 : Int)), (9, 0)] _
  exact ev_sub (L2 := [(2, (181 : Int)), (0, x1), (0, x2), (0, x3), (0, (-1 : Int)), (0, (999 : Int)), (0, (0 : Int)), (9, 0)]) (e_X11_roomed_43 σ x1 x2 x3 (-1 : Int) (999 : Int) (0 : Int) h K) ⟨.inr rfl, .inr rfl, .inr rfl, .inr rfl, .inr rfl, .inr rfl, .inr rfl, .inl rfl, trivial⟩
set_option maxHeartbeats 4000000 in
set_option maxRecDepth 20000 in
theorem e_X11_roomed_24 (σ : Mem) (x1 x2 x3 : Int)  {q : Mem} (h : f_X11_roomed_24 σ x1 x2 x3 = some q) : Ev M_X11_roomed 218 218 (none, rho, q) 24 218 rho σ [(2, (181 : Int)), (0, x1), (0, x2), (0, x3), (9, 0), (9, 0), (9, 0), (9, 0)] [] := by
  unfold f_X11_roomed_24 at h
  obtain ⟨e, hl, h⟩ := bind_of h
  refine loop_ev (K := K_X11_roomed_24 x1 (none, rho, q)) (b_X11_roomed_24 x1) FU (x2, x3, σ) e hl ?_
  show Ev M_X11_roomed 218 218 _ 208 218 rho e [(9, 0), (9, 0), (9, 0), (9, 0), (9, 0), (9, 0), (9, 0), (9, 0)] []
  replace h : some e = some q := h
  obtain rfl := Option.some.inj h
  exact ev_vret dX11_roomed_208 rfl rfl
set_option maxHeartbeats 4000000 in
set_option maxRecDepth 20000 in
theorem e_X11_roomed_21 (σ : Mem) (x1 x2 s2 s1 : Int)  {q : Mem} (h : f_X11_roomed_21 σ x1 x2 s2 s1 = some q) : Ev M_X11_roomed 218 218 (none, rho, q) 21 218 rho σ [(2, (181 : Int)), (0, x1), (0, x2), (9, 0), (9, 0), (9, 0), (9, 0), (9, 0)] [(0, s2), (0, s1), (2, (214 : Int))] := by
  unfold f_X11_roomed_21 at h
  refine ev_iastG dX11_roomed_21 sp214 (by decide) (by decide) h (fun σ1 h => ?_)
  refine ev_iconst dX11_roomed_22 (by decide) ?_
  refine ev_istore_n dX11_roomed_23 rfl (by decide) ?_
  show Ev _ _ _ _ 24 _ _ _ [(2, (181 : Int)), (0, x1), (0, x2), (0, (0 : Int)), (9, 0), (9, 0), (9, 0), (9, 0)] _
  exact ev_sub (L2 := [(2, (181 : Int)), (0, x1), (0, x2), (0, (0 : Int)), (9, 0), (9, 0), (9, 0), (9, 0)]) (e_X11_roomed_24 σ1 x1 x2 (0 : Int) h) ⟨.inr rfl, .inr rfl, .inr rfl, .inr rfl, .inl rfl, .inl rfl, .inl rfl, .inl rfl, trivial⟩
set_option maxHeartbeats 4000000 in
set_option maxRecDepth 20000 in
theorem c_X11_roomed {σ : Mem} {x1 : Int}  {q : Mem} (h : f_X11_roomed σ x1 = some q) : Ms yX11_roomed M_X11_roomed 218 218 [(2, (181 : Int)), (0, x1)] rho σ (none, rho, q) := by
  refine Ms.of 6 (by decide +kernel) rfl (fun z => absurd z (by decide)) (fun _ _ _ => trivial) rfl rfl ?_
  unfold f_X11_roomed at h
  show Ev M_X11_roomed 218 218 _ 0 218 rho σ [(2, (181 : Int)), (0, x1), (9, 0), (9, 0), (9, 0), (9, 0), (9, 0), (9, 0)] []
  refine ev_iconst dX11_roomed_0 (by decide) ?_
  refine ev_istore_n dX11_roomed_1 rfl (by decide) ?_
  show Ev _ _ _ _ 2 _ _ _ [(2, (181 : Int)), (0, x1), (0, (-1 : Int)), (9, 0), (9, 0), (9, 0), (9, 0), (9, 0)] _
  refine ev_aload_n dX11_roomed_2 rfl (by decide) ?_
  refine ev_getf (j := 41) (t := 2) (x := (214 : Int)) dX11_roomed_3 cf_X11 wf_X11_108 sp181 (by decide) (by decide) rfl (by decide) (rp181_41 _) ?_
  refine ev_iload_n dX11_roomed_6 rfl ?_
  refine ev_aload_n dX11_roomed_7 rfl (by decide) ?_
  refine ev_getf (j := 37) (t := 0) (x := (σ (181 : Int) 37)) dX11_roomed_8 cf_X11 wf_X11_340 sp181 (by decide) (by decide) rfl (by decide) rfl ?_
  refine ev_if_ne (tgt := 18) dX11_roomed_11 rfl h (fun cb h => ?_) (fun cb h => ?_)
  · refine ev_sipush dX11_roomed_18 (by decide) (by decide) ?_
    exact ev_sub (L2 := [(2, (181 : Int)), (0, x1), (0, (-1 : Int)), (9, 0), (9, 0), (9, 0), (9, 0), (9, 0)]) (e_X11_roomed_21 σ x1 (-1 : Int) (999 : Int) x1 h) ⟨.inr rfl, .inr rfl, .inr rfl, .inl rfl, .inl rfl, .inl rfl, .inl rfl, .inl rfl, trivial⟩
  refine ev_iconst dX11_roomed_14 (by decide) ?_
  refine ev_goto (tgt := 21) dX11_roomed_15 rfl ?_
  exact ev_sub (L2 := [(2, (181 : Int)), (0, x1), (0, (-1 : Int)), (9, 0), (9, 0), (9, 0), (9, 0), (9, 0)]) (e_X11_roomed_21 σ x1 (-1 : Int) (0 : Int) x1 h) ⟨.inr rfl, .inr rfl, .inr rfl, .inl rfl, .inl rfl, .inl rfl, .inl rfl, .inl rfl, trivial⟩
def K_X11_seats_19 (x1 x2 : Int) (r : Option V × Mem × Mem) : (Int × Mem) ⊕ ((Mem)) → Prop := Sum.elim (fun a => Ev M_X11_seats 218 218 r 19 218 rho a.2 [(2, (181 : Int)), (0, x1), (0, x2), (0, a.1)] []) (fun e => Ev M_X11_seats 218 218 r 51 218 rho e [(2, (181 : Int)), (0, x1), (0, x2), (9, 0)] [])
def K_X11_seats_110 (x1 x2 : Int) (r : Option V × Mem × Mem) : (Int × Mem) ⊕ ((Mem)) → Prop := Sum.elim (fun a => Ev M_X11_seats 218 218 r 110 218 rho a.2 [(2, (181 : Int)), (0, x1), (0, x2), (0, a.1)] []) (fun e => Ev M_X11_seats 218 218 r 136 218 rho e [(2, (181 : Int)), (0, x1), (0, x2), (9, 0)] [])
def K_X11_seats_59 (x1 : Int) (r : Option V × Mem × Mem) : (Int × Mem) ⊕ ((Mem)) → Prop := Sum.elim (fun a => Ev M_X11_seats 218 218 r 59 218 rho a.2 [(2, (181 : Int)), (0, x1), (0, a.1), (9, 0)] []) (fun e => Ev M_X11_seats 218 218 r 142 218 rho e [(9, 0), (9, 0), (9, 0), (9, 0)] [])
def K_X11_seats_6 (x1 : Int) (r : Option V × Mem × Mem) : (Int × Mem) ⊕ ((Mem)) → Prop := Sum.elim (fun a => Ev M_X11_seats 218 218 r 6 218 rho a.2 [(2, (181 : Int)), (0, x1), (0, a.1), (9, 0)] []) (fun e => Ev M_X11_seats 218 218 r 57 218 rho e [(2, (181 : Int)), (0, x1), (9, 0), (9, 0)] [])
set_option maxHeartbeats 4000000 in
set_option maxRecDepth 20000 in
theorem e_X11_seats_51 (σ : Mem) (x1 x2 : Int)  {q : ((Int × Mem) ⊕ ((Mem)))} (h : f_X11_seats_51 σ x1 x2 = some q) {r : Option V × Mem × Mem} (K : K_X11_seats_6 x1 r q) : Ev M_X11_seats 218 218 r 51 218 rho σ [(2, (181 : Int)), (0, x1), (0, x2), (9, 0)] [] := by
  unfold f_X11_seats_51 at h
  refine ev_iincG dX11_seats_51 rfl h rfl (fun v5 h => ?_)
  show Ev _ _ _ _ 54 _ _ _ [(2, (181 : Int)), (0, x1), (0, v5), (9, 0)] _
  refine ev_goto (tgt := 6) dX11_seats_54 rfl ?_
  obtain rfl := Option.some.inj h
  exact ev_sub (L2 := [(2, (181 : Int)), (0, x1), (0, v5), (9, 0)]) K ⟨.inr rfl, .inr rfl, .inr rfl, .inl rfl, trivial⟩
set_option maxHeartbeats 4000000 in
set_option maxRecDepth 20000 in
theorem b_X11_seats_19 (x1 x2 : Int)  {r : Option V × Mem × Mem} : ∀ a x, f_X11_seats_19B x1 x2 a = some x → K_X11_seats_19 x1 x2 r x → K_X11_seats_19 x1 x2 r (.inl a) := by
  intro a x h K
  obtain ⟨x3, σ⟩ := a
  have h : f_X11_seats_19C x1 x2 x3 σ = some x := h
  unfold f_X11_seats_19C at h
  show Ev M_X11_seats 218 218 r 19 218 rho σ [(2, (181 : Int)), (0, x1), (0, x2), (0, x3)] []
  refine ev_iload_n dX11_seats_19 rfl ?_
  refine ev_bipush dX11_seats_20 (by decide) (by decide) ?_
  refine ev_icmp_ge (tgt := 51) dX11_seats_22 rfl h (fun cb h => ?_) (fun cb h => ?_)
  · obtain rfl := Option.some.inj h
    exact ev_sub (L2 := [(2, (181 : Int)), (0, x1), (0, x2), (9, 0)]) K ⟨.inr rfl, .inr rfl, .inr rfl, .inl rfl, trivial⟩
  refine ev_aload_n dX11_seats_25 rfl (by decide) ?_
  refine ev_getf (j := 43) (t := 2) (x := (216 : Int)) dX11_seats_26 cf_X11 wf_X11_114 sp181 (by decide) (by decide) rfl (by decide) (rp181_43 _) ?_
  refine ev_bipush dX11_seats_29 (by decide) (by decide) ?_
  refine ev_iload_n dX11_seats_31 rfl ?_
  refine ev_imul dX11_seats_32 ?_
  refine ev_iload_n dX11_seats_33 rfl ?_
  refine ev_iadd dX11_seats_34 ?_
  refine ev_aload_n dX11_seats_35 rfl (by decide) ?_
  refine ev_getf (j := 0) (t := 2) (x := (182 : Int)) dX11_seats_36 cf_X11 wf_X11_7 sp181 (by decide) (by decide) rfl (by decide) (rp181_0 _) ?_
  refine ev_bipush dX11_seats_39 (by decide) (by decide) ?_
  refine ev_iload_n dX11_seats_41 rfl ?_
  show Ev _ _ _ _ 42 _ _ _ _ _
  refine ev_iadd dX11_seats_42 ?_
  refine ev_iald dX11_seats_43 sp182 (by decide) (by decide) h (fun h => ?_)
  refine ev_iastG dX11_seats_44 sp216 (by decide) (by decide) h (fun σ3 h => ?_)
  refine ev_iincG dX11_seats_45 rfl h rfl (fun v4 h => ?_)
  show Ev _ _ _ _ 48 _ _ _ [(2, (181 : Int)), (0, x1), (0, x2), (0, v4)] _
  refine ev_goto (tgt := 19) dX11_seats_48 rfl ?_
  obtain rfl := Option.some.inj h
  exact ev_sub (L2 := [(2, (181 : Int)), (0, x1), (0, x2), (0, v4)]) K ⟨.inr rfl, .inr rfl, .inr rfl, .inr rfl, trivial⟩
set_option maxHeartbeats 4000000 in
set_option maxRecDepth 20000 in
theorem e_X11_seats_19 (σ : Mem) (x1 x2 x3 : Int)  {q : ((Int × Mem) ⊕ ((Mem)))} (h : f_X11_seats_19 σ x1 x2 x3 = some q) {r : Option V × Mem × Mem} (K : K_X11_seats_6 x1 r q) : Ev M_X11_seats 218 218 r 19 218 rho σ [(2, (181 : Int)), (0, x1), (0, x2), (0, x3)] [] := by
  unfold f_X11_seats_19 at h
  obtain ⟨e, hl, h⟩ := bind_of h
  refine loop_ev (K := K_X11_seats_19 x1 x2 r) (b_X11_seats_19 x1 x2) FU (x3, σ) e hl ?_
  show Ev M_X11_seats 218 218 r 51 218 rho e [(2, (181 : Int)), (0, x1), (0, x2), (9, 0)] []
  replace h : f_X11_seats_51 e x1 x2 = some q := h
  exact ev_sub (L2 := [(2, (181 : Int)), (0, x1), (0, x2), (9, 0)]) (e_X11_seats_51 e x1 x2 h K) ⟨.inr rfl, .inr rfl, .inr rfl, .inl rfl, trivial⟩
set_option maxHeartbeats 4000000 in
set_option maxRecDepth 20000 in
theorem e_X11_seats_136 (σ : Mem) (x1 x2 : Int)  {q : ((Int × Mem) ⊕ ((Mem)))} (h : f_X11_seats_136 σ x1 x2 = some q) {r : Option V × Mem × Mem} (K : K_X11_seats_59 x1 r q) : Ev M_X11_seats 218 218 r 136 218 rho σ [(2, (181 : Int)), (0, x1), (0, x2), (9, 0)] [] := by
  unfold f_X11_seats_136 at h
  refine ev_iincG dX11_seats_136 rfl h rfl (fun v16 h => ?_)
  show Ev _ _ _ _ 139 _ _ _ [(2, (181 : Int)), (0, x1), (0, v16), (9, 0)] _
  refine ev_goto (tgt := 59) dX11_seats_139 rfl ?_
  obtain rfl := Option.some.inj h
  exact ev_sub (L2 := [(2, (181 : Int)), (0, x1), (0, v16), (9, 0)]) K ⟨.inr rfl, .inr rfl, .inr rfl, .inl rfl, trivial⟩
set_option maxHeartbeats 4000000 in
set_option maxRecDepth 20000 in
theorem b_X11_seats_110 (x1 x2 : Int)  {r : Option V × Mem × Mem} : ∀ a x, f_X11_seats_110B x1 x2 a = some x → K_X11_seats_110 x1 x2 r x → K_X11_seats_110 x1 x2 r (.inl a) := by
  intro a x h K
  obtain ⟨x3, σ⟩ := a
  have h : f_X11_seats_110C x1 x2 x3 σ = some x := h
  unfold f_X11_seats_110C at h
  show Ev M_X11_seats 218 218 r 110 218 rho σ [(2, (181 : Int)), (0, x1), (0, x2), (0, x3)] []
  refine ev_iload_n dX11_seats_110 rfl ?_
  refine ev_aload_n dX11_seats_111 rfl (by decide) ?_
  refine ev_getf (j := 37) (t := 0) (x := (σ (181 : Int) 37)) dX11_seats_112 cf_X11 wf_X11_340 sp181 (by decide) (by decide) rfl (by decide) rfl ?_
  refine ev_icmp_ge (tgt := 136) dX11_seats_115 rfl h (fun cb h => ?_) (fun cb h => ?_)
  · obtain rfl := Option.some.inj h
    exact ev_sub (L2 := [(2, (181 : Int)), (0, x1), (0, x2), (9, 0)]) K ⟨.inr rfl, .inr rfl, .inr rfl, .inl rfl, trivial⟩
  refine ev_aload_n dX11_seats_118 rfl (by decide) ?_
  refine ev_getf (j := 40) (t := 2) (x := (213 : Int)) dX11_seats_119 cf_X11 wf_X11_105 sp181 (by decide) (by decide) rfl (by decide) (rp181_40 _) ?_
  refine ev_bipush dX11_seats_122 (by decide) (by decide) ?_
  refine ev_iload_n dX11_seats_124 rfl ?_
  refine ev_imul dX11_seats_125 ?_
  refine ev_iload_n dX11_seats_126 rfl ?_
  refine ev_iadd dX11_seats_127 ?_
  refine ev_iconst dX11_seats_128 (by decide) ?_
  refine ev_iastG dX11_seats_129 sp213 (by decide) (by decide) h (fun σ14 h => ?_)
  refine ev_iincG dX11_seats_130 rfl h rfl (fun v15 h => ?_)
  show Ev _ _ _ _ 133 _ _ _ [(2, (181 : Int)), (0, x1), (0, x2), (0, v15)] _
  refine ev_goto (tgt := 110) dX11_seats_133 rfl ?_
  obtain rfl := Option.some.inj h
  exact ev_sub (L2 := [(2, (181 : Int)), (0, x1), (0, x2), (0, v15)]) K ⟨.inr rfl, .inr rfl, .inr rfl, .inr rfl, trivial⟩
set_option maxHeartbeats 4000000 in
set_option maxRecDepth 20000 in
theorem e_X11_seats_110 (σ : Mem) (x1 x2 x3 : Int)  {q : ((Int × Mem) ⊕ ((Mem)))} (h : f_X11_seats_110 σ x1 x2 x3 = some q) {r : Option V × Mem × Mem} (K : K_X11_seats_59 x1 r q) : Ev M_X11_seats 218 218 r 110 218 rho σ [(2, (181 : Int)), (0, x1), (0, x2), (0, x3)] [] := by
  unfold f_X11_seats_110 at h
  obtain ⟨e, hl, h⟩ := bind_of h
  refine loop_ev (K := K_X11_seats_110 x1 x2 r) (b_X11_seats_110 x1 x2) FU (x3, σ) e hl ?_
  show Ev M_X11_seats 218 218 r 136 218 rho e [(2, (181 : Int)), (0, x1), (0, x2), (9, 0)] []
  replace h : f_X11_seats_136 e x1 x2 = some q := h
  exact ev_sub (L2 := [(2, (181 : Int)), (0, x1), (0, x2), (9, 0)]) (e_X11_seats_136 e x1 x2 h K) ⟨.inr rfl, .inr rfl, .inr rfl, .inl rfl, trivial⟩
set_option maxHeartbeats 4000000 in
set_option maxRecDepth 20000 in
theorem b_X11_seats_59 (x1 : Int)  {r : Option V × Mem × Mem} : ∀ a x, f_X11_seats_59B x1 a = some x → K_X11_seats_59 x1 r x → K_X11_seats_59 x1 r (.inl a) := by
  intro a x h K
  obtain ⟨x2, σ⟩ := a
  have h : f_X11_seats_59C x1 x2 σ = some x := h
  unfold f_X11_seats_59C at h
  show Ev M_X11_seats 218 218 r 59 218 rho σ [(2, (181 : Int)), (0, x1), (0, x2), (9, 0)] []
  refine ev_iload_n dX11_seats_59 rfl ?_
  refine ev_aload_n dX11_seats_60 rfl (by decide) ?_
  refine ev_getf (j := 0) (t := 2) (x := (182 : Int)) dX11_seats_61 cf_X11 wf_X11_7 sp181 (by decide) (by decide) rfl (by decide) (rp181_0 _) ?_
  refine ev_bipush dX11_seats_64 (by decide) (by decide) ?_
  refine ev_iald dX11_seats_66 sp182 (by decide) (by decide) h (fun h => ?_)
  refine ev_icmp_ge (tgt := 142) dX11_seats_67 rfl h (fun cb h => ?_) (fun cb h => ?_)
  · obtain rfl := Option.some.inj h
    exact ev_sub (L2 := [(9, 0), (9, 0), (9, 0), (9, 0)]) K ⟨.inl rfl, .inl rfl, .inl rfl, .inl rfl, trivial⟩
  refine ev_aload_n dX11_seats_70 rfl (by decide) ?_
  refine ev_iload_n dX11_seats_71 rfl ?_
  refine ev_iload_n dX11_seats_72 rfl ?_
  obtain ⟨σ6, hc7, h⟩ := bind_of h
  refine ev_invV_n (k := (181 : Int)) (av := [(0, x2), (0, x1)]) (st := []) (τ := σ6) dX11_seats_73 ml_X11_349 mv_X11_piecesOf (T := TX11) (ci := 10) rfl sp181 (by decide) (by decide) rfl ⟨Nat.le_of_ble_eq_true rfl, Nat.le_of_ble_eq_true rfl⟩ (Nat.le_of_ble_eq_true rfl) (c_X11_piecesOf hc7) ?_
  refine ev_aload_n dX11_seats_76 rfl (by decide) ?_
  refine ev_getf (j := 42) (t := 2) (x := (215 : Int)) dX11_seats_77 cf_X11 wf_X11_111 sp181 (by decide) (by decide) rfl (by decide) (rp181_42 _) ?_
  refine ev_iload_n dX11_seats_80 rfl ?_
  refine ev_aload_n dX11_seats_81 rfl (by decide) ?_
  refine ev_getf (j := 37) (t := 0) (x := (σ6 (181 : Int) 37)) dX11_seats_82 cf_X11 wf_X11_340 sp181 (by decide) (by decide) rfl (by decide) rfl ?_
  refine ev_iastG dX11_seats_85 sp215 (by decide) (by decide) h (fun σ8 h => ?_)
  refine ev_aload_n dX11_seats_86 rfl (by decide) ?_
  show Ev _ _ _ _ 87 _ _ _ _ _
  obtain ⟨v9, hc10, h⟩ := bind_of h
  refine ev_invV_v (k := (181 : Int)) (av := []) (st := []) (v := (0, v9.1)) (τ := v9.2) dX11_seats_87 ml_X11_352 mv_X11_isRoomed (T := TX11) (ci := 10) rfl sp181 (by decide) (by decide) rfl ⟨Nat.le_of_ble_eq_true rfl, Nat.le_of_ble_eq_true rfl⟩ (Nat.le_of_ble_eq_true rfl) (c_X11_isRoomed hc10) ?_
  refine ev_if_eq (tgt := 101) dX11_seats_90 rfl h (fun cb h => ?_) (fun cb h => ?_)
  · refine ev_aload_n dX11_seats_101 rfl (by decide) ?_
    refine ev_getf (j := 41) (t := 2) (x := (214 : Int)) dX11_seats_102 cf_X11 wf_X11_108 sp181 (by decide) (by decide) rfl (by decide) (rp181_41 _) ?_
    refine ev_iload_n dX11_seats_105 rfl ?_
    refine ev_iconst dX11_seats_106 (by decide) ?_
    refine ev_iastG dX11_seats_107 sp214 (by decide) (by decide) h (fun σ11 h => ?_)
    refine ev_iconst dX11_seats_108 (by decide) ?_
    refine ev_istore_n dX11_seats_109 rfl (by decide) ?_
    show Ev _ _ _ _ 110 _ _ _ [(2, (181 : Int)), (0, x1), (0, x2), (0, (0 : Int))] _
    exact ev_sub (L2 := [(2, (181 : Int)), (0, x1), (0, x2), (0, (0 : Int))]) (e_X11_seats_110 σ11 x1 x2 (0 : Int) h K) ⟨.inr rfl, .inr rfl, .inr rfl, .inr rfl, trivial⟩
  refine ev_aload_n dX11_seats_93 rfl (by decide) ?_
  refine ev_iload_n dX11_seats_94 rfl ?_
  obtain ⟨σ12, hc13, h⟩ := bind_of h
  refine ev_invV_n (k := (181 : Int)) (av := [(0, x2)]) (st := []) (τ := σ12) dX11_seats_95 ml_X11_356 mv_X11_roomed (T := TX11) (ci := 10) rfl sp181 (by decide) (by decide) rfl ⟨Nat.le_of_ble_eq_true rfl, Nat.le_of_ble_eq_true rfl⟩ (Nat.le_of_ble_eq_true rfl) (c_X11_roomed hc13) ?_
  refine ev_goto (tgt := 136) dX11_seats_98 rfl ?_
  exact ev_sub (L2 := [(2, (181 : Int)), (0, x1), (0, x2), (9, 0)]) (e_X11_seats_136 σ12 x1 x2 h K) ⟨.inr rfl, .inr rfl, .inr rfl, .inl rfl, trivial⟩
set_option maxHeartbeats 4000000 in
set_option maxRecDepth 20000 in
theorem e_X11_seats_59 (σ : Mem) (x1 x2 : Int)  {q : Mem} (h : f_X11_seats_59 σ x1 x2 = some q) : Ev M_X11_seats 218 218 (none, rho, q) 59 218 rho σ [(2, (181 : Int)), (0, x1), (0, x2), (9, 0)] [] := by
  unfold f_X11_seats_59 at h
  obtain ⟨e, hl, h⟩ := bind_of h
  refine loop_ev (K := K_X11_seats_59 x1 (none, rho, q)) (b_X11_seats_59 x1) FU (x2, σ) e hl ?_
  show Ev M_X11_seats 218 218 _ 142 218 rho e [(9, 0), (9, 0), (9, 0), (9, 0)] []
  replace h : some e = some q := h
  obtain rfl := Option.some.inj h
  exact ev_vret dX11_seats_142 rfl rfl
set_option maxHeartbeats 4000000 in
set_option maxRecDepth 20000 in
theorem e_X11_seats_57 (σ : Mem) (x1 : Int)  {q : Mem} (h : f_X11_seats_57 σ x1 = some q) : Ev M_X11_seats 218 218 (none, rho, q) 57 218 rho σ [(2, (181 : Int)), (0, x1), (9, 0), (9, 0)] [] := by
  unfold f_X11_seats_57 at h
  refine ev_iconst dX11_seats_57 (by decide) ?_
  refine ev_istore_n dX11_seats_58 rfl (by decide) ?_
  show Ev _ _ _ _ 59 _ _ _ [(2, (181 : Int)), (0, x1), (0, (0 : Int)), (9, 0)] _
  exact ev_sub (L2 := [(2, (181 : Int)), (0, x1), (0, (0 : Int)), (9, 0)]) (e_X11_seats_59 σ x1 (0 : Int) h) ⟨.inr rfl, .inr rfl, .inr rfl, .inl rfl, trivial⟩
set_option maxHeartbeats 4000000 in
set_option maxRecDepth 20000 in
theorem b_X11_seats_6 (x1 : Int)  {r : Option V × Mem × Mem} : ∀ a x, f_X11_seats_6B x1 a = some x → K_X11_seats_6 x1 r x → K_X11_seats_6 x1 r (.inl a) := by
  intro a x h K
  obtain ⟨x2, σ⟩ := a
  have h : f_X11_seats_6C x1 x2 σ = some x := h
  unfold f_X11_seats_6C at h
  show Ev M_X11_seats 218 218 r 6 218 rho σ [(2, (181 : Int)), (0, x1), (0, x2), (9, 0)] []
  refine ev_iload_n dX11_seats_6 rfl ?_
  refine ev_aload_n dX11_seats_7 rfl (by decide) ?_
  refine ev_getf (j := 0) (t := 2) (x := (182 : Int)) dX11_seats_8 cf_X11 wf_X11_7 sp181 (by decide) (by decide) rfl (by decide) (rp181_0 _) ?_
  refine ev_bipush dX11_seats_11 (by decide) (by decide) ?_
  refine ev_iald dX11_seats_13 sp182 (by decide) (by decide) h (fun h => ?_)
  refine ev_icmp_ge (tgt := 57) dX11_seats_14 rfl h (fun cb h => ?_) (fun cb h => ?_)
  · obtain rfl := Option.some.inj h
    exact ev_sub (L2 := [(2, (181 : Int)), (0, x1), (9, 0), (9, 0)]) K ⟨.inr rfl, .inr rfl, .inl rfl, .inl rfl, trivial⟩
  refine ev_iconst dX11_seats_17 (by decide) ?_
  refine ev_istore_n dX11_seats_18 rfl (by decide) ?_
  show Ev _ _ _ _ 19 _ _ _ [(2, (181 : Int)), (0, x1), (0, x2), (0, (0 : Int))] _
  exact ev_sub (L2 := [(2, (181 : Int)), (0, x1), (0, x2), (0, (0 : Int))]) (e_X11_seats_19 σ x1 x2 (0 : Int) h K) ⟨.inr rfl, .inr rfl, .inr rfl, .inr rfl, trivial⟩
set_option maxHeartbeats 4000000 in
set_option maxRecDepth 20000 in
theorem e_X11_seats_6 (σ : Mem) (x1 x2 : Int)  {q : Mem} (h : f_X11_seats_6 σ x1 x2 = some q) : Ev M_X11_seats 218 218 (none, rho, q) 6 218 rho σ [(2, (181 : Int)), (0, x1), (0, x2), (9, 0)] [] := by
  unfold f_X11_seats_6 at h
  obtain ⟨e, hl, h⟩ := bind_of h
  refine loop_ev (K := K_X11_seats_6 x1 (none, rho, q)) (b_X11_seats_6 x1) FU (x2, σ) e hl ?_
  show Ev M_X11_seats 218 218 _ 57 218 rho e [(2, (181 : Int)), (0, x1), (9, 0), (9, 0)] []
  replace h : f_X11_seats_57 e x1 = some q := h
  exact ev_sub (L2 := [(2, (181 : Int)), (0, x1), (9, 0), (9, 0)]) (e_X11_seats_57 e x1 h) ⟨.inr rfl, .inr rfl, .inl rfl, .inl rfl, trivial⟩
set_option maxHeartbeats 4000000 in
set_option maxRecDepth 20000 in
theorem c_X11_seats {σ : Mem} {x1 : Int}  {q : Mem} (h : f_X11_seats σ x1 = some q) : Ms yX11_seats M_X11_seats 218 218 [(2, (181 : Int)), (0, x1)] rho σ (none, rho, q) := by
  refine Ms.of 2 (by decide +kernel) rfl (fun z => absurd z (by decide)) (fun _ _ _ => trivial) rfl rfl ?_
  unfold f_X11_seats at h
  show Ev M_X11_seats 218 218 _ 0 218 rho σ [(2, (181 : Int)), (0, x1), (9, 0), (9, 0)] []
  refine ev_aload_n dX11_seats_0 rfl (by decide) ?_
  obtain ⟨σ1, hc2, h⟩ := bind_of h
  refine ev_invV_n (k := (181 : Int)) (av := []) (st := []) (τ := σ1) dX11_seats_1 ml_X11_316 mv_X11_all (T := TX11) (ci := 10) rfl sp181 (by decide) (by decide) rfl ⟨Nat.le_of_ble_eq_true rfl, Nat.le_of_ble_eq_true rfl⟩ (Nat.le_of_ble_eq_true rfl) (c_X11_all hc2) ?_
  refine ev_iconst dX11_seats_4 (by decide) ?_
  refine ev_istore_n dX11_seats_5 rfl (by decide) ?_
  show Ev _ _ _ _ 6 _ _ _ [(2, (181 : Int)), (0, x1), (0, (0 : Int)), (9, 0)] _
  exact ev_sub (L2 := [(2, (181 : Int)), (0, x1), (0, (0 : Int)), (9, 0)]) (e_X11_seats_6 σ1 x1 (0 : Int) h) ⟨.inr rfl, .inr rfl, .inr rfl, .inl rfl, trivial⟩
set_option maxHeartbeats 4000000 in
set_option maxRecDepth 20000 in
theorem e_X11_pieces_25 (σ : Mem)  {q : (Int × Mem)} (h : f_X11_pieces_25 σ  = some q) : Ev M_X11_pieces 218 218 (some (0, q.1), rho, q.2) 25 218 rho σ [(2, (181 : Int)), (9, 0), (9, 0), (9, 0)] [] := by
  unfold f_X11_pieces_25 at h
  refine ev_aload_n dX11_pieces_25 rfl (by decide) ?_
  refine ev_bipush dX11_pieces_26 (by decide) (by decide) ?_
  obtain ⟨v9, hc10, h⟩ := bind_of h
  refine ev_invV_v (k := (181 : Int)) (av := [(0, (-52 : Int))]) (st := []) (v := (0, v9.1)) (τ := v9.2) dX11_pieces_28 ml_X11_151 mv_X11_no (T := TX11) (ci := 10) rfl sp181 (by decide) (by decide) rfl ⟨Nat.le_of_ble_eq_true rfl, Nat.le_of_ble_eq_true rfl⟩ (Nat.le_of_ble_eq_true rfl) (c_X11_no hc10) ?_
  obtain rfl := Option.some.inj h
  dsimp only
  exact ev_iret dX11_pieces_31 rfl rfl
set_option maxHeartbeats 4000000 in
set_option maxRecDepth 20000 in
theorem c_X11_pieces {σ : Mem} {x1 x2 x3 : Int}  {q : (Int × Mem)} (h : f_X11_pieces σ x1 x2 x3 = some q) : Ms yX11_pieces M_X11_pieces 218 218 [(2, (181 : Int)), (0, x1), (0, x2), (0, x3)] rho σ (some (0, q.1), rho, q.2) := by
  refine Ms.of 0 (by decide +kernel) rfl (fun z => absurd z (by decide)) (fun _ _ _ => trivial) rfl rfl ?_
  unfold f_X11_pieces at h
  show Ev M_X11_pieces 218 218 _ 0 218 rho σ [(2, (181 : Int)), (0, x1), (0, x2), (0, x3)] []
  refine ev_aload_n dX11_pieces_0 rfl (by decide) ?_
  refine ev_iload_n dX11_pieces_1 rfl ?_
  obtain ⟨v1, hc2, h⟩ := bind_of h
  refine ev_invV_v (k := (181 : Int)) (av := [(0, x1)]) (st := []) (v := (0, v1)) (τ := σ) dX11_pieces_2 ml_X11_157 mv_X11_isCand (T := TX11) (ci := 10) rfl sp181 (by decide) (by decide) rfl ⟨Nat.le_of_ble_eq_true rfl, Nat.le_of_ble_eq_true rfl⟩ (Nat.le_of_ble_eq_true rfl) (c_X11_isCand hc2) ?_
  refine ev_if_eq (tgt := 25) dX11_pieces_5 rfl h (fun cb h => ?_) (fun cb h => ?_)
  · exact ev_sub (L2 := [(2, (181 : Int)), (9, 0), (9, 0), (9, 0)]) (e_X11_pieces_25 σ h) ⟨.inr rfl, .inl rfl, .inl rfl, .inl rfl, trivial⟩
  refine ev_iload_n dX11_pieces_8 rfl ?_
  obtain ⟨v3, hc4, h⟩ := bind_of h
  refine ev_invS_v (av := [(0, x2)]) (st := []) (v := (0, v3)) (τ := σ) dX11_pieces_9 ml_X11_168 mt_X11_isDay rfl ⟨Nat.le_of_ble_eq_true rfl, Nat.le_of_ble_eq_true rfl⟩ (Nat.le_of_ble_eq_true rfl) (c_X11_isDay hc4) ?_
  refine ev_if_eq (tgt := 25) dX11_pieces_12 rfl h (fun cb h => ?_) (fun cb h => ?_)
  · exact ev_sub (L2 := [(2, (181 : Int)), (9, 0), (9, 0), (9, 0)]) (e_X11_pieces_25 σ h) ⟨.inr rfl, .inl rfl, .inl rfl, .inl rfl, trivial⟩
  refine ev_iload_n dX11_pieces_15 rfl ?_
  refine ev_i2lk dX11_pieces_16 ?_
  refine ev_lconst (x := (0 : Int)) dX11_pieces_17 (by decide) (by decide) ?_
  refine ev_lconst (x := (1 : Int)) dX11_pieces_18 (by decide) (by decide) ?_
  obtain ⟨v5, hc6, h⟩ := bind_of h
  refine ev_invS_v (av := [(1, x3), (1, (0 : Int)), (1, (1 : Int))]) (st := []) (v := (0, v5)) (τ := σ) dX11_pieces_19 ml_X11_120 mt_X11_isIn rfl ⟨Nat.le_of_ble_eq_true rfl, Nat.le_of_ble_eq_true rfl⟩ (Nat.le_of_ble_eq_true rfl) (c_X11_isIn hc6) ?_
  refine ev_if_ne (tgt := 32) dX11_pieces_22 rfl h (fun cb h => ?_) (fun cb h => ?_)
  · refine ev_aload_n dX11_pieces_32 rfl (by decide) ?_
    refine ev_iload_n dX11_pieces_33 rfl ?_
    obtain ⟨σ7, hc8, h⟩ := bind_of h
    refine ev_invV_n (k := (181 : Int)) (av := [(0, x2)]) (st := []) (τ := σ7) dX11_pieces_34 ml_X11_359 mv_X11_seats (T := TX11) (ci := 10) rfl sp181 (by decide) (by decide) rfl ⟨Nat.le_of_ble_eq_true rfl, Nat.le_of_ble_eq_true rfl⟩ (Nat.le_of_ble_eq_true rfl) (c_X11_seats hc8) ?_
    refine ev_iload_n dX11_pieces_37 rfl ?_
    refine ev_if_ne (tgt := 50) dX11_pieces_38 rfl h (fun cb h => ?_) (fun cb h => ?_)
    · refine ev_aload_n dX11_pieces_50 rfl (by decide) ?_
      refine ev_getf (j := 41) (t := 2) (x := (214 : Int)) dX11_pieces_51 cf_X11 wf_X11_108 sp181 (by decide) (by decide) rfl (by decide) (rp181_41 _) ?_
      refine ev_iload_n dX11_pieces_54 rfl ?_
      refine ev_iald dX11_pieces_55 sp214 (by decide) (by decide) h (fun h => ?_)
      obtain rfl := Option.some.inj h
      dsimp only
      exact ev_iret dX11_pieces_56 rfl rfl
    refine ev_aload_n dX11_pieces_41 rfl (by decide) ?_
    refine ev_getf (j := 42) (t := 2) (x := (215 : Int)) dX11_pieces_42 cf_X11 wf_X11_111 sp181 (by decide) (by decide) rfl (by decide) (rp181_42 _) ?_
    refine ev_iload_n dX11_pieces_45 rfl ?_
    refine ev_iald dX11_pieces_46 sp215 (by decide) (by decide) h (fun h => ?_)
    refine ev_goto (tgt := 56) dX11_pieces_47 rfl ?_
    obtain rfl := Option.some.inj h
    dsimp only
    exact ev_iret dX11_pieces_56 rfl rfl
  exact ev_sub (L2 := [(2, (181 : Int)), (9, 0), (9, 0), (9, 0)]) (e_X11_pieces_25 σ h) ⟨.inr rfl, .inl rfl, .inl rfl, .inl rfl, trivial⟩
set_option maxHeartbeats 4000000 in
set_option maxRecDepth 20000 in
theorem e_X11_roomOf_15 (σ : Mem)  {q : (Int × Mem)} (h : f_X11_roomOf_15 σ  = some q) : Ev M_X11_roomOf 218 218 (some (0, q.1), rho, q.2) 15 218 rho σ [(2, (181 : Int)), (9, 0), (9, 0), (9, 0)] [] := by
  unfold f_X11_roomOf_15 at h
  refine ev_aload_n dX11_roomOf_15 rfl (by decide) ?_
  refine ev_bipush dX11_roomOf_16 (by decide) (by decide) ?_
  obtain ⟨v11, hc12, h⟩ := bind_of h
  refine ev_invV_v (k := (181 : Int)) (av := [(0, (-52 : Int))]) (st := []) (v := (0, v11.1)) (τ := v11.2) dX11_roomOf_18 ml_X11_151 mv_X11_no (T := TX11) (ci := 10) rfl sp181 (by decide) (by decide) rfl ⟨Nat.le_of_ble_eq_true rfl, Nat.le_of_ble_eq_true rfl⟩ (Nat.le_of_ble_eq_true rfl) (c_X11_no hc12) ?_
  obtain rfl := Option.some.inj h
  dsimp only
  exact ev_iret dX11_roomOf_21 rfl rfl
set_option maxHeartbeats 4000000 in
set_option maxRecDepth 20000 in
theorem c_X11_roomOf {σ : Mem} {x1 x2 x3 : Int}  {q : (Int × Mem)} (h : f_X11_roomOf σ x1 x2 x3 = some q) : Ms yX11_roomOf M_X11_roomOf 218 218 [(2, (181 : Int)), (0, x1), (0, x2), (0, x3)] rho σ (some (0, q.1), rho, q.2) := by
  refine Ms.of 0 (by decide +kernel) rfl (fun z => absurd z (by decide)) (fun _ _ _ => trivial) rfl rfl ?_
  unfold f_X11_roomOf at h
  show Ev M_X11_roomOf 218 218 _ 0 218 rho σ [(2, (181 : Int)), (0, x1), (0, x2), (0, x3)] []
  refine ev_aload_n dX11_roomOf_0 rfl (by decide) ?_
  refine ev_iload_n dX11_roomOf_1 rfl ?_
  obtain ⟨v1, hc2, h⟩ := bind_of h
  refine ev_invV_v (k := (181 : Int)) (av := [(0, x1)]) (st := []) (v := (0, v1)) (τ := σ) dX11_roomOf_2 ml_X11_157 mv_X11_isCand (T := TX11) (ci := 10) rfl sp181 (by decide) (by decide) rfl ⟨Nat.le_of_ble_eq_true rfl, Nat.le_of_ble_eq_true rfl⟩ (Nat.le_of_ble_eq_true rfl) (c_X11_isCand hc2) ?_
  refine ev_if_eq (tgt := 15) dX11_roomOf_5 rfl h (fun cb h => ?_) (fun cb h => ?_)
  · exact ev_sub (L2 := [(2, (181 : Int)), (9, 0), (9, 0), (9, 0)]) (e_X11_roomOf_15 σ h) ⟨.inr rfl, .inl rfl, .inl rfl, .inl rfl, trivial⟩
  refine ev_iload_n dX11_roomOf_8 rfl ?_
  obtain ⟨v3, hc4, h⟩ := bind_of h
  refine ev_invS_v (av := [(0, x2)]) (st := []) (v := (0, v3)) (τ := σ) dX11_roomOf_9 ml_X11_168 mt_X11_isDay rfl ⟨Nat.le_of_ble_eq_true rfl, Nat.le_of_ble_eq_true rfl⟩ (Nat.le_of_ble_eq_true rfl) (c_X11_isDay hc4) ?_
  refine ev_if_ne (tgt := 22) dX11_roomOf_12 rfl h (fun cb h => ?_) (fun cb h => ?_)
  · refine ev_aload_n dX11_roomOf_22 rfl (by decide) ?_
    refine ev_iload_n dX11_roomOf_23 rfl ?_
    obtain ⟨σ5, hc6, h⟩ := bind_of h
    refine ev_invV_n (k := (181 : Int)) (av := [(0, x2)]) (st := []) (τ := σ5) dX11_roomOf_24 ml_X11_359 mv_X11_seats (T := TX11) (ci := 10) rfl sp181 (by decide) (by decide) rfl ⟨Nat.le_of_ble_eq_true rfl, Nat.le_of_ble_eq_true rfl⟩ (Nat.le_of_ble_eq_true rfl) (c_X11_seats hc6) ?_
    refine ev_iload_n dX11_roomOf_27 rfl ?_
    refine ev_i2lk dX11_roomOf_28 ?_
    refine ev_lconst (x := (0 : Int)) dX11_roomOf_29 (by decide) (by decide) ?_
    refine ev_aload_n dX11_roomOf_30 rfl (by decide) ?_
    refine ev_getf (j := 42) (t := 2) (x := (215 : Int)) dX11_roomOf_31 cf_X11 wf_X11_111 sp181 (by decide) (by decide) rfl (by decide) (rp181_42 _) ?_
    refine ev_iload_n dX11_roomOf_34 rfl ?_
    refine ev_iald dX11_roomOf_35 sp215 (by decide) (by decide) h (fun h => ?_)
    refine ev_iconst dX11_roomOf_36 (by decide) ?_
    show Ev _ _ _ _ 37 _ _ _ _ _
    refine ev_isub dX11_roomOf_37 ?_
    refine ev_i2lk dX11_roomOf_38 ?_
    obtain ⟨v7, hc8, h⟩ := bind_of h
    refine ev_invS_v (av := [(1, x3), (1, (0 : Int)), (1, (jsub (σ5 (215 : Int) x1) (1 : Int)))]) (st := []) (v := (0, v7)) (τ := σ5) dX11_roomOf_39 ml_X11_120 mt_X11_isIn rfl ⟨Nat.le_of_ble_eq_true rfl, Nat.le_of_ble_eq_true rfl⟩ (Nat.le_of_ble_eq_true rfl) (c_X11_isIn hc8) ?_
    refine ev_if_eq (tgt := 59) dX11_roomOf_42 rfl h (fun cb h => ?_) (fun cb h => ?_)
    · refine ev_aload_n dX11_roomOf_59 rfl (by decide) ?_
      refine ev_bipush dX11_roomOf_60 (by decide) (by decide) ?_
      obtain ⟨v9, hc10, h⟩ := bind_of h
      refine ev_invV_v (k := (181 : Int)) (av := [(0, (-52 : Int))]) (st := []) (v := (0, v9.1)) (τ := v9.2) dX11_roomOf_62 ml_X11_151 mv_X11_no (T := TX11) (ci := 10) rfl sp181 (by decide) (by decide) rfl ⟨Nat.le_of_ble_eq_true rfl, Nat.le_of_ble_eq_true rfl⟩ (Nat.le_of_ble_eq_true rfl) (c_X11_no hc10) ?_
      obtain rfl := Option.some.inj h
      dsimp only
      exact ev_iret dX11_roomOf_65 rfl rfl
    refine ev_aload_n dX11_roomOf_45 rfl (by decide) ?_
    refine ev_getf (j := 40) (t := 2) (x := (213 : Int)) dX11_roomOf_46 cf_X11 wf_X11_105 sp181 (by decide) (by decide) rfl (by decide) (rp181_40 _) ?_
    refine ev_bipush dX11_roomOf_49 (by decide) (by decide) ?_
    refine ev_iload_n dX11_roomOf_51 rfl ?_
    refine ev_imul dX11_roomOf_52 ?_
    refine ev_iload_n dX11_roomOf_53 rfl ?_
    refine ev_iadd dX11_roomOf_54 ?_
    refine ev_iald dX11_roomOf_55 sp213 (by decide) (by decide) h (fun h => ?_)
    refine ev_goto (tgt := 65) dX11_roomOf_56 rfl ?_
    obtain rfl := Option.some.inj h
    dsimp only
    exact ev_iret dX11_roomOf_65 rfl rfl
  exact ev_sub (L2 := [(2, (181 : Int)), (9, 0), (9, 0), (9, 0)]) (e_X11_roomOf_15 σ h) ⟨.inr rfl, .inl rfl, .inl rfl, .inl rfl, trivial⟩
set_option maxHeartbeats 4000000 in
set_option maxRecDepth 20000 in
theorem e_X11_left_33 (σ : Mem)  {q : (Int × Mem)} (h : f_X11_left_33 σ  = some q) : Ev M_X11_left 218 218 (some (0, q.1), rho, q.2) 33 218 rho σ [(2, (181 : Int)), (9, 0), (9, 0), (9, 0)] [] := by
  unfold f_X11_left_33 at h
  refine ev_aload_n dX11_left_33 rfl (by decide) ?_
  refine ev_bipush dX11_left_34 (by decide) (by decide) ?_
  obtain ⟨v9, hc10, h⟩ := bind_of h
  refine ev_invV_v (k := (181 : Int)) (av := [(0, (-52 : Int))]) (st := []) (v := (0, v9.1)) (τ := v9.2) dX11_left_36 ml_X11_151 mv_X11_no (T := TX11) (ci := 10) rfl sp181 (by decide) (by decide) rfl ⟨Nat.le_of_ble_eq_true rfl, Nat.le_of_ble_eq_true rfl⟩ (Nat.le_of_ble_eq_true rfl) (c_X11_no hc10) ?_
  obtain rfl := Option.some.inj h
  dsimp only
  exact ev_iret dX11_left_39 rfl rfl
set_option maxHeartbeats 4000000 in
set_option maxRecDepth 20000 in
theorem c_X11_left {σ : Mem} {x1 x2 x3 : Int}  {q : (Int × Mem)} (h : f_X11_left σ x1 x2 x3 = some q) : Ms yX11_left M_X11_left 218 218 [(2, (181 : Int)), (0, x1), (0, x2), (0, x3)] rho σ (some (0, q.1), rho, q.2) := by
  refine Ms.of 0 (by decide +kernel) rfl (fun z => absurd z (by decide)) (fun _ _ _ => trivial) rfl rfl ?_
  unfold f_X11_left at h
  show Ev M_X11_left 218 218 _ 0 218 rho σ [(2, (181 : Int)), (0, x1), (0, x2), (0, x3)] []
  refine ev_iload_n dX11_left_0 rfl ?_
  refine ev_i2lk dX11_left_1 ?_
  refine ev_lconst (x := (0 : Int)) dX11_left_2 (by decide) (by decide) ?_
  refine ev_aload_n dX11_left_3 rfl (by decide) ?_
  refine ev_getf (j := 0) (t := 2) (x := (182 : Int)) dX11_left_4 cf_X11 wf_X11_7 sp181 (by decide) (by decide) rfl (by decide) (rp181_0 _) ?_
  refine ev_bipush dX11_left_7 (by decide) (by decide) ?_
  refine ev_iald dX11_left_9 sp182 (by decide) (by decide) h (fun h => ?_)
  refine ev_iconst dX11_left_10 (by decide) ?_
  refine ev_isub dX11_left_11 ?_
  refine ev_i2lk dX11_left_12 ?_
  obtain ⟨v1, hc2, h⟩ := bind_of h
  refine ev_invS_v (av := [(1, x1), (1, (0 : Int)), (1, (jsub (σ (182 : Int) (84 : Int)) (1 : Int)))]) (st := []) (v := (0, v1)) (τ := σ) dX11_left_13 ml_X11_120 mt_X11_isIn rfl ⟨Nat.le_of_ble_eq_true rfl, Nat.le_of_ble_eq_true rfl⟩ (Nat.le_of_ble_eq_true rfl) (c_X11_isIn hc2) ?_
  show Ev _ _ _ _ 16 _ _ _ _ _
  refine ev_if_eq (tgt := 33) dX11_left_16 rfl h (fun cb h => ?_) (fun cb h => ?_)
  · exact ev_sub (L2 := [(2, (181 : Int)), (9, 0), (9, 0), (9, 0)]) (e_X11_left_33 σ h) ⟨.inr rfl, .inl rfl, .inl rfl, .inl rfl, trivial⟩
  refine ev_iload_n dX11_left_19 rfl ?_
  obtain ⟨v3, hc4, h⟩ := bind_of h
  refine ev_invS_v (av := [(0, x2)]) (st := []) (v := (0, v3)) (τ := σ) dX11_left_20 ml_X11_168 mt_X11_isDay rfl ⟨Nat.le_of_ble_eq_true rfl, Nat.le_of_ble_eq_true rfl⟩ (Nat.le_of_ble_eq_true rfl) (c_X11_isDay hc4) ?_
  refine ev_if_eq (tgt := 33) dX11_left_23 rfl h (fun cb h => ?_) (fun cb h => ?_)
  · exact ev_sub (L2 := [(2, (181 : Int)), (9, 0), (9, 0), (9, 0)]) (e_X11_left_33 σ h) ⟨.inr rfl, .inl rfl, .inl rfl, .inl rfl, trivial⟩
  refine ev_iload_n dX11_left_26 rfl ?_
  obtain ⟨v5, hc6, h⟩ := bind_of h
  refine ev_invS_v (av := [(0, x3)]) (st := []) (v := (0, v5)) (τ := σ) dX11_left_27 ml_X11_171 mt_X11_isSlot rfl ⟨Nat.le_of_ble_eq_true rfl, Nat.le_of_ble_eq_true rfl⟩ (Nat.le_of_ble_eq_true rfl) (c_X11_isSlot hc6) ?_
  refine ev_if_ne (tgt := 40) dX11_left_30 rfl h (fun cb h => ?_) (fun cb h => ?_)
  · refine ev_aload_n dX11_left_40 rfl (by decide) ?_
    refine ev_iload_n dX11_left_41 rfl ?_
    obtain ⟨σ7, hc8, h⟩ := bind_of h
    refine ev_invV_n (k := (181 : Int)) (av := [(0, x2)]) (st := []) (τ := σ7) dX11_left_42 ml_X11_359 mv_X11_seats (T := TX11) (ci := 10) rfl sp181 (by decide) (by decide) rfl ⟨Nat.le_of_ble_eq_true rfl, Nat.le_of_ble_eq_true rfl⟩ (Nat.le_of_ble_eq_true rfl) (c_X11_seats hc8) ?_
    refine ev_aload_n dX11_left_45 rfl (by decide) ?_
    refine ev_getf (j := 43) (t := 2) (x := (216 : Int)) dX11_left_46 cf_X11 wf_X11_114 sp181 (by decide) (by decide) rfl (by decide) (rp181_43 _) ?_
    refine ev_bipush dX11_left_49 (by decide) (by decide) ?_
    refine ev_iload_n dX11_left_51 rfl ?_
    refine ev_imul dX11_left_52 ?_
    refine ev_iload_n dX11_left_53 rfl ?_
    refine ev_iadd dX11_left_54 ?_
    refine ev_iald dX11_left_55 sp216 (by decide) (by decide) h (fun h => ?_)
    show Ev _ _ _ _ 56 _ _ _ _ _
    obtain rfl := Option.some.inj h
    dsimp only
    exact ev_iret dX11_left_56 rfl rfl
  exact ev_sub (L2 := [(2, (181 : Int)), (9, 0), (9, 0), (9, 0)]) (e_X11_left_33 σ h) ⟨.inr rfl, .inl rfl, .inl rfl, .inl rfl, trivial⟩
set_option maxHeartbeats 4000000 in
set_option maxRecDepth 20000 in
theorem e_X11_whatIf_16 (σ : Mem)  {q : (Int × Mem)} (h : f_X11_whatIf_16 σ  = some q) : Ev M_X11_whatIf 218 218 (some (0, q.1), rho, q.2) 16 218 rho σ [(2, (181 : Int)), (9, 0), (9, 0), (9, 0)] [] := by
  unfold f_X11_whatIf_16 at h
  refine ev_aload_n dX11_whatIf_16 rfl (by decide) ?_
  refine ev_bipush dX11_whatIf_17 (by decide) (by decide) ?_
  obtain ⟨v16, hc17, h⟩ := bind_of h
  refine ev_invV_v (k := (181 : Int)) (av := [(0, (-52 : Int))]) (st := []) (v := (0, v16.1)) (τ := v16.2) dX11_whatIf_19 ml_X11_151 mv_X11_no (T := TX11) (ci := 10) rfl sp181 (by decide) (by decide) rfl ⟨Nat.le_of_ble_eq_true rfl, Nat.le_of_ble_eq_true rfl⟩ (Nat.le_of_ble_eq_true rfl) (c_X11_no hc17) ?_
  obtain rfl := Option.some.inj h
  dsimp only
  exact ev_iret dX11_whatIf_22 rfl rfl
set_option maxHeartbeats 4000000 in
set_option maxRecDepth 20000 in
theorem c_X11_whatIf {σ : Mem} {x1 x2 : Int}  {q : (Int × Mem)} (h : f_X11_whatIf σ x1 x2 = some q) : Ms yX11_whatIf M_X11_whatIf 218 218 [(2, (181 : Int)), (0, x1), (0, x2)] rho σ (some (0, q.1), rho, q.2) := by
  refine Ms.of 1 (by decide +kernel) rfl (fun z => absurd z (by decide)) (fun _ _ _ => trivial) rfl rfl ?_
  unfold f_X11_whatIf at h
  show Ev M_X11_whatIf 218 218 _ 0 218 rho σ [(2, (181 : Int)), (0, x1), (0, x2), (9, 0)] []
  refine ev_aload_n dX11_whatIf_0 rfl (by decide) ?_
  refine ev_iload_n dX11_whatIf_1 rfl ?_
  obtain ⟨v1, hc2, h⟩ := bind_of h
  refine ev_invV_v (k := (181 : Int)) (av := [(0, x1)]) (st := []) (v := (0, v1)) (τ := σ) dX11_whatIf_2 ml_X11_157 mv_X11_isCand (T := TX11) (ci := 10) rfl sp181 (by decide) (by decide) rfl ⟨Nat.le_of_ble_eq_true rfl, Nat.le_of_ble_eq_true rfl⟩ (Nat.le_of_ble_eq_true rfl) (c_X11_isCand hc2) ?_
  refine ev_if_eq (tgt := 16) dX11_whatIf_5 rfl h (fun cb h => ?_) (fun cb h => ?_)
  · exact ev_sub (L2 := [(2, (181 : Int)), (9, 0), (9, 0), (9, 0)]) (e_X11_whatIf_16 σ h) ⟨.inr rfl, .inl rfl, .inl rfl, .inl rfl, trivial⟩
  refine ev_aload_n dX11_whatIf_8 rfl (by decide) ?_
  refine ev_iload_n dX11_whatIf_9 rfl ?_
  obtain ⟨v3, hc4, h⟩ := bind_of h
  refine ev_invV_v (k := (181 : Int)) (av := [(0, x2)]) (st := []) (v := (0, v3)) (τ := σ) dX11_whatIf_10 ml_X11_174 mv_X11_isPaper (T := TX11) (ci := 10) rfl sp181 (by decide) (by decide) rfl ⟨Nat.le_of_ble_eq_true rfl, Nat.le_of_ble_eq_true rfl⟩ (Nat.le_of_ble_eq_true rfl) (c_X11_isPaper hc4) ?_
  refine ev_if_ne (tgt := 23) dX11_whatIf_13 rfl h (fun cb h => ?_) (fun cb h => ?_)
  · refine ev_aload_n dX11_whatIf_23 rfl (by decide) ?_
    refine ev_iload_n dX11_whatIf_24 rfl ?_
    refine ev_iload_n dX11_whatIf_25 rfl ?_
    obtain ⟨v5, hc6, h⟩ := bind_of h
    refine ev_invV_v (k := (181 : Int)) (av := [(0, x1), (0, x2)]) (st := []) (v := (0, v5)) (τ := σ) dX11_whatIf_26 ml_X11_194 mv_X11_isFifth (T := TX11) (ci := 10) rfl sp181 (by decide) (by decide) rfl ⟨Nat.le_of_ble_eq_true rfl, Nat.le_of_ble_eq_true rfl⟩ (Nat.le_of_ble_eq_true rfl) (c_X11_isFifth hc6) ?_
    refine ev_if_eq (tgt := 39) dX11_whatIf_29 rfl h (fun cb h => ?_) (fun cb h => ?_)
    · refine ev_aload_n dX11_whatIf_39 rfl (by decide) ?_
      refine ev_iload_n dX11_whatIf_40 rfl ?_
      refine ev_iload_n dX11_whatIf_41 rfl ?_
      obtain ⟨σ7, hc8, h⟩ := bind_of h
      refine ev_invV_n (k := (181 : Int)) (av := [(0, x1), (0, x2)]) (st := []) (τ := σ7) dX11_whatIf_42 ml_X11_197 mv_X11_toggles (T := TX11) (ci := 10) rfl sp181 (by decide) (by decide) rfl ⟨Nat.le_of_ble_eq_true rfl, Nat.le_of_ble_eq_true rfl⟩ (Nat.le_of_ble_eq_true rfl) (c_X11_toggles hc8) ?_
      refine ev_aload_n dX11_whatIf_45 rfl (by decide) ?_
      refine ev_iload_n dX11_whatIf_46 rfl ?_
      obtain ⟨v9, hc10, h⟩ := bind_of h
      refine ev_invV_v (k := (181 : Int)) (av := [(0, x1)]) (st := []) (v := (0, v9.1)) (τ := v9.2) dX11_whatIf_47 ml_X11_297 mv_X11_cants (T := TX11) (ci := 10) rfl sp181 (by decide) (by decide) rfl ⟨Nat.le_of_ble_eq_true rfl, Nat.le_of_ble_eq_true rfl⟩ (Nat.le_of_ble_eq_true rfl) (c_X11_cants hc10) ?_
      refine ev_istore_nG dX11_whatIf_50 h rfl (by decide) (fun v11 h => ?_)
      show Ev _ _ _ _ 51 _ _ _ [(2, (181 : Int)), (0, x1), (0, x2), (0, v11)] _
      refine ev_aload_n dX11_whatIf_51 rfl (by decide) ?_
      refine ev_iload_n dX11_whatIf_52 rfl ?_
      refine ev_iload_n dX11_whatIf_53 rfl ?_
      show Ev _ _ _ _ 54 _ _ _ _ _
      obtain ⟨σ12, hc13, h⟩ := bind_of h
      refine ev_invV_n (k := (181 : Int)) (av := [(0, x1), (0, x2)]) (st := []) (τ := σ12) dX11_whatIf_54 ml_X11_197 mv_X11_toggles (T := TX11) (ci := 10) rfl sp181 (by decide) (by decide) rfl ⟨Nat.le_of_ble_eq_true rfl, Nat.le_of_ble_eq_true rfl⟩ (Nat.le_of_ble_eq_true rfl) (c_X11_toggles hc13) ?_
      refine ev_iload_n dX11_whatIf_57 rfl ?_
      obtain rfl := Option.some.inj h
      dsimp only
      exact ev_iret dX11_whatIf_58 rfl rfl
    refine ev_aload_n dX11_whatIf_32 rfl (by decide) ?_
    refine ev_bipush dX11_whatIf_33 (by decide) (by decide) ?_
    obtain ⟨v14, hc15, h⟩ := bind_of h
    refine ev_invV_v (k := (181 : Int)) (av := [(0, (-55 : Int))]) (st := []) (v := (0, v14.1)) (τ := v14.2) dX11_whatIf_35 ml_X11_151 mv_X11_no (T := TX11) (ci := 10) rfl sp181 (by decide) (by decide) rfl ⟨Nat.le_of_ble_eq_true rfl, Nat.le_of_ble_eq_true rfl⟩ (Nat.le_of_ble_eq_true rfl) (c_X11_no hc15) ?_
    obtain rfl := Option.some.inj h
    dsimp only
    exact ev_iret dX11_whatIf_38 rfl rfl
  exact ev_sub (L2 := [(2, (181 : Int)), (9, 0), (9, 0), (9, 0)]) (e_X11_whatIf_16 σ h) ⟨.inr rfl, .inl rfl, .inl rfl, .inl rfl, trivial⟩
set_option maxHeartbeats 4000000 in
set_option maxRecDepth 20000 in
theorem e_X11_both_24 (σ : Mem)  {q : (Int × Mem)} (h : f_X11_both_24 σ  = some q) : Ev M_X11_both 218 218 (some (0, q.1), rho, q.2) 24 218 rho σ [(2, (181 : Int)), (9, 0), (9, 0), (9, 0), (9, 0)] [] := by
  unfold f_X11_both_24 at h
  refine ev_aload_n dX11_both_24 rfl (by decide) ?_
  refine ev_bipush dX11_both_25 (by decide) (by decide) ?_
  obtain ⟨v22, hc23, h⟩ := bind_of h
  refine ev_invV_v (k := (181 : Int)) (av := [(0, (-52 : Int))]) (st := []) (v := (0, v22.1)) (τ := v22.2) dX11_both_27 ml_X11_151 mv_X11_no (T := TX11) (ci := 10) rfl sp181 (by decide) (by decide) rfl ⟨Nat.le_of_ble_eq_true rfl, Nat.le_of_ble_eq_true rfl⟩ (Nat.le_of_ble_eq_true rfl) (c_X11_no hc23) ?_
  obtain rfl := Option.some.inj h
  dsimp only
  exact ev_iret dX11_both_30 rfl rfl
set_option maxHeartbeats 4000000 in
set_option maxRecDepth 20000 in
theorem e_X11_both_85 (σ : Mem) (x1 x2 x4 : Int)  {q : (Int × Mem)} (h : f_X11_both_85 σ x1 x2 x4 = some q) : Ev M_X11_both 218 218 (some (0, q.1), rho, q.2) 85 218 rho σ [(2, (181 : Int)), (0, x1), (0, x2), (9, 0), (0, x4)] [] := by
  unfold f_X11_both_85 at h
  refine ev_aload_n dX11_both_85 rfl (by decide) ?_
  refine ev_iload_n dX11_both_86 rfl ?_
  refine ev_iload_n dX11_both_87 rfl ?_
  obtain ⟨σ24, hc25, h⟩ := bind_of h
  refine ev_invV_n (k := (181 : Int)) (av := [(0, x1), (0, x2)]) (st := []) (τ := σ24) dX11_both_88 ml_X11_197 mv_X11_toggles (T := TX11) (ci := 10) rfl sp181 (by decide) (by decide) rfl ⟨Nat.le_of_ble_eq_true rfl, Nat.le_of_ble_eq_true rfl⟩ (Nat.le_of_ble_eq_true rfl) (c_X11_toggles hc25) ?_
  refine ev_iload dX11_both_91 rfl ?_
  refine ev_bipush dX11_both_93 (by decide) (by decide) ?_
  refine ev_icmp_ne (tgt := 107) dX11_both_95 rfl h (fun cb h => ?_) (fun cb h => ?_)
  · refine ev_iload dX11_both_107 rfl ?_
    obtain rfl := Option.some.inj h
    dsimp only
    exact ev_iret dX11_both_109 rfl rfl
  refine ev_aload_n dX11_both_98 rfl (by decide) ?_
  refine ev_bipush dX11_both_99 (by decide) (by decide) ?_
  obtain ⟨v26, hc27, h⟩ := bind_of h
  refine ev_invV_v (k := (181 : Int)) (av := [(0, (-55 : Int))]) (st := []) (v := (0, v26.1)) (τ := v26.2) dX11_both_101 ml_X11_151 mv_X11_no (T := TX11) (ci := 10) rfl sp181 (by decide) (by decide) rfl ⟨Nat.le_of_ble_eq_true rfl, Nat.le_of_ble_eq_true rfl⟩ (Nat.le_of_ble_eq_true rfl) (c_X11_no hc27) ?_
  refine ev_goto (tgt := 109) dX11_both_104 rfl ?_
  obtain rfl := Option.some.inj h
  dsimp only
  exact ev_iret dX11_both_109 rfl rfl
set_option maxHeartbeats 4000000 in
set_option maxRecDepth 20000 in
theorem c_X11_both {σ : Mem} {x1 x2 x3 : Int}  {q : (Int × Mem)} (h : f_X11_both σ x1 x2 x3 = some q) : Ms yX11_both M_X11_both 218 218 [(2, (181 : Int)), (0, x1), (0, x2), (0, x3)] rho σ (some (0, q.1), rho, q.2) := by
  refine Ms.of 1 (by decide +kernel) rfl (fun z => absurd z (by decide)) (fun _ _ _ => trivial) rfl rfl ?_
  unfold f_X11_both at h
  show Ev M_X11_both 218 218 _ 0 218 rho σ [(2, (181 : Int)), (0, x1), (0, x2), (0, x3), (9, 0)] []
  refine ev_aload_n dX11_both_0 rfl (by decide) ?_
  refine ev_iload_n dX11_both_1 rfl ?_
  obtain ⟨v1, hc2, h⟩ := bind_of h
  refine ev_invV_v (k := (181 : Int)) (av := [(0, x1)]) (st := []) (v := (0, v1)) (τ := σ) dX11_both_2 ml_X11_157 mv_X11_isCand (T := TX11) (ci := 10) rfl sp181 (by decide) (by decide) rfl ⟨Nat.le_of_ble_eq_true rfl, Nat.le_of_ble_eq_true rfl⟩ (Nat.le_of_ble_eq_true rfl) (c_X11_isCand hc2) ?_
  refine ev_if_eq (tgt := 24) dX11_both_5 rfl h (fun cb h => ?_) (fun cb h => ?_)
  · exact ev_sub (L2 := [(2, (181 : Int)), (9, 0), (9, 0), (9, 0), (9, 0)]) (e_X11_both_24 σ h) ⟨.inr rfl, .inl rfl, .inl rfl, .inl rfl, .inl rfl, trivial⟩
  refine ev_aload_n dX11_both_8 rfl (by decide) ?_
  refine ev_iload_n dX11_both_9 rfl ?_
  obtain ⟨v3, hc4, h⟩ := bind_of h
  refine ev_invV_v (k := (181 : Int)) (av := [(0, x2)]) (st := []) (v := (0, v3)) (τ := σ) dX11_both_10 ml_X11_174 mv_X11_isPaper (T := TX11) (ci := 10) rfl sp181 (by decide) (by decide) rfl ⟨Nat.le_of_ble_eq_true rfl, Nat.le_of_ble_eq_true rfl⟩ (Nat.le_of_ble_eq_true rfl) (c_X11_isPaper hc4) ?_
  refine ev_if_eq (tgt := 24) dX11_both_13 rfl h (fun cb h => ?_) (fun cb h => ?_)
  · exact ev_sub (L2 := [(2, (181 : Int)), (9, 0), (9, 0), (9, 0), (9, 0)]) (e_X11_both_24 σ h) ⟨.inr rfl, .inl rfl, .inl rfl, .inl rfl, .inl rfl, trivial⟩
  refine ev_aload_n dX11_both_16 rfl (by decide) ?_
  refine ev_iload_n dX11_both_17 rfl ?_
  obtain ⟨v5, hc6, h⟩ := bind_of h
  refine ev_invV_v (k := (181 : Int)) (av := [(0, x3)]) (st := []) (v := (0, v5)) (τ := σ) dX11_both_18 ml_X11_174 mv_X11_isPaper (T := TX11) (ci := 10) rfl sp181 (by decide) (by decide) rfl ⟨Nat.le_of_ble_eq_true rfl, Nat.le_of_ble_eq_true rfl⟩ (Nat.le_of_ble_eq_true rfl) (c_X11_isPaper hc6) ?_
  refine ev_if_ne (tgt := 31) dX11_both_21 rfl h (fun cb h => ?_) (fun cb h => ?_)
  · refine ev_aload_n dX11_both_31 rfl (by decide) ?_
    refine ev_iload_n dX11_both_32 rfl ?_
    refine ev_iload_n dX11_both_33 rfl ?_
    obtain ⟨v7, hc8, h⟩ := bind_of h
    refine ev_invV_v (k := (181 : Int)) (av := [(0, x1), (0, x2)]) (st := []) (v := (0, v7)) (τ := σ) dX11_both_34 ml_X11_194 mv_X11_isFifth (T := TX11) (ci := 10) rfl sp181 (by decide) (by decide) rfl ⟨Nat.le_of_ble_eq_true rfl, Nat.le_of_ble_eq_true rfl⟩ (Nat.le_of_ble_eq_true rfl) (c_X11_isFifth hc8) ?_
    refine ev_if_eq (tgt := 47) dX11_both_37 rfl h (fun cb h => ?_) (fun cb h => ?_)
    · refine ev_aload_n dX11_both_47 rfl (by decide) ?_
      refine ev_iload_n dX11_both_48 rfl ?_
      refine ev_iload_n dX11_both_49 rfl ?_
      obtain ⟨σ9, hc10, h⟩ := bind_of h
      refine ev_invV_n (k := (181 : Int)) (av := [(0, x1), (0, x2)]) (st := []) (τ := σ9) dX11_both_50 ml_X11_197 mv_X11_toggles (T := TX11) (ci := 10) rfl sp181 (by decide) (by decide) rfl ⟨Nat.le_of_ble_eq_true rfl, Nat.le_of_ble_eq_true rfl⟩ (Nat.le_of_ble_eq_true rfl) (c_X11_toggles hc10) ?_
      refine ev_bipush dX11_both_53 (by decide) (by decide) ?_
      refine ev_istore dX11_both_55 rfl (by decide) ?_
      show Ev _ _ _ _ 57 _ _ _ [(2, (181 : Int)), (0, x1), (0, x2), (0, x3), (0, (-55 : Int))] _
      refine ev_aload_n dX11_both_57 rfl (by decide) ?_
      refine ev_iload_n dX11_both_58 rfl ?_
      refine ev_iload_n dX11_both_59 rfl ?_
      obtain ⟨v11, hc12, h⟩ := bind_of h
      refine ev_invV_v (k := (181 : Int)) (av := [(0, x1), (0, x3)]) (st := []) (v := (0, v11)) (τ := σ9) dX11_both_60 ml_X11_194 mv_X11_isFifth (T := TX11) (ci := 10) rfl sp181 (by decide) (by decide) rfl ⟨Nat.le_of_ble_eq_true rfl, Nat.le_of_ble_eq_true rfl⟩ (Nat.le_of_ble_eq_true rfl) (c_X11_isFifth hc12) ?_
      refine ev_if_ne (tgt := 85) dX11_both_63 rfl h (fun cb h => ?_) (fun cb h => ?_)
      · exact ev_sub (L2 := [(2, (181 : Int)), (0, x1), (0, x2), (9, 0), (0, (-55 : Int))]) (e_X11_both_85 σ9 x1 x2 (-55 : Int) h) ⟨.inr rfl, .inr rfl, .inr rfl, .inl rfl, .inr rfl, trivial⟩
      refine ev_aload_n dX11_both_66 rfl (by decide) ?_
      refine ev_iload_n dX11_both_67 rfl ?_
      refine ev_iload_n dX11_both_68 rfl ?_
      obtain ⟨σ13, hc14, h⟩ := bind_of h
      refine ev_invV_n (k := (181 : Int)) (av := [(0, x1), (0, x3)]) (st := []) (τ := σ13) dX11_both_69 ml_X11_197 mv_X11_toggles (T := TX11) (ci := 10) rfl sp181 (by decide) (by decide) rfl ⟨Nat.le_of_ble_eq_true rfl, Nat.le_of_ble_eq_true rfl⟩ (Nat.le_of_ble_eq_true rfl) (c_X11_toggles hc14) ?_
      refine ev_aload_n dX11_both_72 rfl (by decide) ?_
      refine ev_iload_n dX11_both_73 rfl ?_
      obtain ⟨v15, hc16, h⟩ := bind_of h
      refine ev_invV_v (k := (181 : Int)) (av := [(0, x1)]) (st := []) (v := (0, v15.1)) (τ := v15.2) dX11_both_74 ml_X11_362 mv_X11_keptInAll (T := TX11) (ci := 10) rfl sp181 (by decide) (by decide) rfl ⟨Nat.le_of_ble_eq_true rfl, Nat.le_of_ble_eq_true rfl⟩ (Nat.le_of_ble_eq_true rfl) (c_X11_keptInAll hc16) ?_
      refine ev_istoreG dX11_both_77 h rfl (by decide) (fun v17 h => ?_)
      show Ev _ _ _ _ 79 _ _ _ [(2, (181 : Int)), (0, x1), (0, x2), (0, x3), (0, v17)] _
      refine ev_aload_n dX11_both_79 rfl (by decide) ?_
      refine ev_iload_n dX11_both_80 rfl ?_
      refine ev_iload_n dX11_both_81 rfl ?_
      show Ev _ _ _ _ 82 _ _ _ _ _
      obtain ⟨σ18, hc19, h⟩ := bind_of h
      refine ev_invV_n (k := (181 : Int)) (av := [(0, x1), (0, x3)]) (st := []) (τ := σ18) dX11_both_82 ml_X11_197 mv_X11_toggles (T := TX11) (ci := 10) rfl sp181 (by decide) (by decide) rfl ⟨Nat.le_of_ble_eq_true rfl, Nat.le_of_ble_eq_true rfl⟩ (Nat.le_of_ble_eq_true rfl) (c_X11_toggles hc19) ?_
      exact ev_sub (L2 := [(2, (181 : Int)), (0, x1), (0, x2), (9, 0), (0, v17)]) (e_X11_both_85 σ18 x1 x2 v17 h) ⟨.inr rfl, .inr rfl, .inr rfl, .inl rfl, .inr rfl, trivial⟩
    refine ev_aload_n dX11_both_40 rfl (by decide) ?_
    refine ev_bipush dX11_both_41 (by decide) (by decide) ?_
    obtain ⟨v20, hc21, h⟩ := bind_of h
    refine ev_invV_v (k := (181 : Int)) (av := [(0, (-55 : Int))]) (st := []) (v := (0, v20.1)) (τ := v20.2) dX11_both_43 ml_X11_151 mv_X11_no (T := TX11) (ci := 10) rfl sp181 (by decide) (by decide) rfl ⟨Nat.le_of_ble_eq_true rfl, Nat.le_of_ble_eq_true rfl⟩ (Nat.le_of_ble_eq_true rfl) (c_X11_no hc21) ?_
    obtain rfl := Option.some.inj h
    dsimp only
    exact ev_iret dX11_both_46 rfl rfl
  exact ev_sub (L2 := [(2, (181 : Int)), (9, 0), (9, 0), (9, 0), (9, 0)]) (e_X11_both_24 σ h) ⟨.inr rfl, .inl rfl, .inl rfl, .inl rfl, .inl rfl, trivial⟩
def K_X11_relief_24 (x1 : Int) (r : Option V × Mem × Mem) : (Int × Int × Int × Mem) ⊕ ((Int × Mem)) → Prop := Sum.elim (fun a => Ev M_X11_relief 218 218 r 24 218 rho a.2.2.2 [(2, (181 : Int)), (0, x1), (0, a.1), (0, a.2.1), (0, a.2.2.1), (9, 0)] []) (fun e => Ev M_X11_relief 218 218 r 93 218 rho e.2 [(9, 0), (9, 0), (0, e.1), (9, 0), (9, 0), (9, 0)] [])
set_option maxHeartbeats 4000000 in
set_option maxRecDepth 20000 in
theorem e_X11_relief_87 (σ : Mem) (x1 x2 x3 x4 : Int)  {q : ((Int × Int × Int × Mem) ⊕ ((Int × Mem)))} (h : f_X11_relief_87 σ x1 x2 x3 x4 = some q) {r : Option V × Mem × Mem} (K : K_X11_relief_24 x1 r q) : Ev M_X11_relief 218 218 r 87 218 rho σ [(2, (181 : Int)), (0, x1), (0, x2), (0, x3), (0, x4), (9, 0)] [] := by
  unfold f_X11_relief_87 at h
  refine ev_iincG dX11_relief_87 rfl h rfl (fun v14 h => ?_)
  show Ev _ _ _ _ 90 _ _ _ [(2, (181 : Int)), (0, x1), (0, x2), (0, x3), (0, v14), (9, 0)] _
  refine ev_goto (tgt := 24) dX11_relief_90 rfl ?_
  obtain rfl := Option.some.inj h
  exact ev_sub (L2 := [(2, (181 : Int)), (0, x1), (0, x2), (0, x3), (0, v14), (9, 0)]) K ⟨.inr rfl, .inr rfl, .inr rfl, .inr rfl, .inr rfl, .inl rfl, trivial⟩
set_option maxHeartbeats 4000000 in
set_option maxRecDepth 20000 in
theorem e_X11_relief_79 (σ : Mem) (x1 x3 x4 x5 s0 : Int)  {q : ((Int × Int × Int × Mem) ⊕ ((Int × Mem)))} (h : f_X11_relief_79 σ x1 x3 x4 x5 s0 = some q) {r : Option V × Mem × Mem} (K : K_X11_relief_24 x1 r q) : Ev M_X11_relief 218 218 r 79 218 rho σ [(2, (181 : Int)), (0, x1), (9, 0), (0, x3), (0, x4), (0, x5)] [(0, s0)] := by
  unfold f_X11_relief_79 at h
  refine ev_istore_n dX11_relief_79 rfl (by decide) ?_
  show Ev _ _ _ _ 80 _ _ _ [(2, (181 : Int)), (0, x1), (0, s0), (0, x3), (0, x4), (0, x5)] _
  refine ev_iload_n dX11_relief_80 rfl ?_
  refine ev_iload dX11_relief_81 rfl ?_
  refine ev_mn dX11_relief_83 wa_X11_343 wm_min (by decide) (Nat.le_of_ble_eq_true rfl) ?_
  refine ev_istore_nG dX11_relief_86 h rfl (by decide) (fun v15 h => ?_)
  show Ev _ _ _ _ 87 _ _ _ [(2, (181 : Int)), (0, x1), (0, s0), (0, v15), (0, x4), (0, x5)] _
  exact ev_sub (L2 := [(2, (181 : Int)), (0, x1), (0, s0), (0, v15), (0, x4), (9, 0)]) (e_X11_relief_87 σ x1 s0 v15 x4 h K) ⟨.inr rfl, .inr rfl, .inr rfl, .inr rfl, .inr rfl, .inl rfl, trivial⟩
set_option maxHeartbeats 4000000 in
set_option maxRecDepth 20000 in
theorem b_X11_relief_24 (x1 : Int)  {r : Option V × Mem × Mem} : ∀ a x, f_X11_relief_24B x1 a = some x → K_X11_relief_24 x1 r x → K_X11_relief_24 x1 r (.inl a) := by
  intro a x h K
  obtain ⟨x2, x3, x4, σ⟩ := a
  have h : f_X11_relief_24C x1 x2 x3 x4 σ = some x := h
  unfold f_X11_relief_24C at h
  show Ev M_X11_relief 218 218 r 24 218 rho σ [(2, (181 : Int)), (0, x1), (0, x2), (0, x3), (0, x4), (9, 0)] []
  refine ev_iload dX11_relief_24 rfl ?_
  refine ev_aload_n dX11_relief_26 rfl (by decide) ?_
  refine ev_getf (j := 0) (t := 2) (x := (182 : Int)) dX11_relief_27 cf_X11 wf_X11_7 sp181 (by decide) (by decide) rfl (by decide) (rp181_0 _) ?_
  refine ev_bipush dX11_relief_30 (by decide) (by decide) ?_
  refine ev_iald dX11_relief_32 sp182 (by decide) (by decide) h (fun h => ?_)
  refine ev_icmp_ge (tgt := 93) dX11_relief_33 rfl h (fun cb h => ?_) (fun cb h => ?_)
  · obtain rfl := Option.some.inj h
    exact ev_sub (L2 := [(9, 0), (9, 0), (0, x2), (9, 0), (9, 0), (9, 0)]) K ⟨.inl rfl, .inl rfl, .inr rfl, .inl rfl, .inl rfl, .inl rfl, trivial⟩
  refine ev_aload_n dX11_relief_36 rfl (by decide) ?_
  refine ev_iload_n dX11_relief_37 rfl ?_
  refine ev_iload dX11_relief_38 rfl ?_
  obtain ⟨v5, hc6, h⟩ := bind_of h
  refine ev_invV_v (k := (181 : Int)) (av := [(0, x1), (0, x4)]) (st := []) (v := (0, v5)) (τ := σ) dX11_relief_40 ml_X11_194 mv_X11_isFifth (T := TX11) (ci := 10) rfl sp181 (by decide) (by decide) rfl ⟨Nat.le_of_ble_eq_true rfl, Nat.le_of_ble_eq_true rfl⟩ (Nat.le_of_ble_eq_true rfl) (c_X11_isFifth hc6) ?_
  refine ev_if_ne (tgt := 87) dX11_relief_43 rfl h (fun cb h => ?_) (fun cb h => ?_)
  · exact ev_sub (L2 := [(2, (181 : Int)), (0, x1), (0, x2), (0, x3), (0, x4), (9, 0)]) (e_X11_relief_87 σ x1 x2 x3 x4 h K) ⟨.inr rfl, .inr rfl, .inr rfl, .inr rfl, .inr rfl, .inl rfl, trivial⟩
  refine ev_aload_n dX11_relief_46 rfl (by decide) ?_
  refine ev_iload_n dX11_relief_47 rfl ?_
  refine ev_iload dX11_relief_48 rfl ?_
  obtain ⟨σ7, hc8, h⟩ := bind_of h
  refine ev_invV_n (k := (181 : Int)) (av := [(0, x1), (0, x4)]) (st := []) (τ := σ7) dX11_relief_50 ml_X11_197 mv_X11_toggles (T := TX11) (ci := 10) rfl sp181 (by decide) (by decide) rfl ⟨Nat.le_of_ble_eq_true rfl, Nat.le_of_ble_eq_true rfl⟩ (Nat.le_of_ble_eq_true rfl) (c_X11_toggles hc8) ?_
  refine ev_aload_n dX11_relief_53 rfl (by decide) ?_
  refine ev_iload_n dX11_relief_54 rfl ?_
  obtain ⟨v9, hc10, h⟩ := bind_of h
  refine ev_invV_v (k := (181 : Int)) (av := [(0, x1)]) (st := []) (v := (0, v9.1)) (τ := v9.2) dX11_relief_55 ml_X11_297 mv_X11_cants (T := TX11) (ci := 10) rfl sp181 (by decide) (by decide) rfl ⟨Nat.le_of_ble_eq_true rfl, Nat.le_of_ble_eq_true rfl⟩ (Nat.le_of_ble_eq_true rfl) (c_X11_cants hc10) ?_
  refine ev_istoreG dX11_relief_58 h rfl (by decide) (fun v11 h => ?_)
  show Ev _ _ _ _ 60 _ _ _ [(2, (181 : Int)), (0, x1), (0, x2), (0, x3), (0, x4), (0, v11)] _
  refine ev_aload_n dX11_relief_60 rfl (by decide) ?_
  refine ev_iload_n dX11_relief_61 rfl ?_
  refine ev_iload dX11_relief_62 rfl ?_
  show Ev _ _ _ _ 64 _ _ _ _ _
  obtain ⟨σ12, hc13, h⟩ := bind_of h
  refine ev_invV_n (k := (181 : Int)) (av := [(0, x1), (0, x4)]) (st := []) (τ := σ12) dX11_relief_64 ml_X11_197 mv_X11_toggles (T := TX11) (ci := 10) rfl sp181 (by decide) (by decide) rfl ⟨Nat.le_of_ble_eq_true rfl, Nat.le_of_ble_eq_true rfl⟩ (Nat.le_of_ble_eq_true rfl) (c_X11_toggles hc13) ?_
  refine ev_iload dX11_relief_67 rfl ?_
  refine ev_iload_n dX11_relief_69 rfl ?_
  refine ev_icmp_ge (tgt := 78) dX11_relief_70 rfl h (fun cb h => ?_) (fun cb h => ?_)
  · refine ev_iload_n dX11_relief_78 rfl ?_
    exact ev_sub (L2 := [(2, (181 : Int)), (0, x1), (9, 0), (0, x3), (0, x4), (0, v11)]) (e_X11_relief_79 σ12 x1 x3 x4 v11 x2 h K) ⟨.inr rfl, .inr rfl, .inl rfl, .inr rfl, .inr rfl, .inr rfl, trivial⟩
  refine ev_iload dX11_relief_73 rfl ?_
  refine ev_goto (tgt := 79) dX11_relief_75 rfl ?_
  exact ev_sub (L2 := [(2, (181 : Int)), (0, x1), (9, 0), (0, x3), (0, x4), (0, v11)]) (e_X11_relief_79 σ12 x1 x3 x4 v11 x4 h K) ⟨.inr rfl, .inr rfl, .inl rfl, .inr rfl, .inr rfl, .inr rfl, trivial⟩
set_option maxHeartbeats 4000000 in
set_option maxRecDepth 20000 in
theorem e_X11_relief_24 (σ : Mem) (x1 x2 x3 x4 : Int)  {q : (Int × Mem)} (h : f_X11_relief_24 σ x1 x2 x3 x4 = some q) : Ev M_X11_relief 218 218 (some (0, q.1), rho, q.2) 24 218 rho σ [(2, (181 : Int)), (0, x1), (0, x2), (0, x3), (0, x4), (9, 0)] [] := by
  unfold f_X11_relief_24 at h
  obtain ⟨e, hl, h⟩ := bind_of h
  refine loop_ev (K := K_X11_relief_24 x1 (some (0, q.1), rho, q.2)) (b_X11_relief_24 x1) FU (x2, x3, x4, σ) e hl ?_
  show Ev M_X11_relief 218 218 _ 93 218 rho e.2 [(9, 0), (9, 0), (0, e.1), (9, 0), (9, 0), (9, 0)] []
  replace h : some (e.1, e.2) = some q := h
  refine ev_iload_n dX11_relief_93 rfl ?_
  obtain rfl := Option.some.inj h
  dsimp only
  exact ev_iret dX11_relief_94 rfl rfl
set_option maxHeartbeats 4000000 in
set_option maxRecDepth 20000 in
theorem c_X11_relief {σ : Mem} {x1 : Int}  {q : (Int × Mem)} (h : f_X11_relief σ x1 = some q) : Ms yX11_relief M_X11_relief 218 218 [(2, (181 : Int)), (0, x1)] rho σ (some (0, q.1), rho, q.2) := by
  refine Ms.of 4 (by decide +kernel) rfl (fun z => absurd z (by decide)) (fun _ _ _ => trivial) rfl rfl ?_
  unfold f_X11_relief at h
  show Ev M_X11_relief 218 218 _ 0 218 rho σ [(2, (181 : Int)), (0, x1), (9, 0), (9, 0), (9, 0), (9, 0)] []
  refine ev_aload_n dX11_relief_0 rfl (by decide) ?_
  refine ev_iload_n dX11_relief_1 rfl ?_
  obtain ⟨v1, hc2, h⟩ := bind_of h
  refine ev_invV_v (k := (181 : Int)) (av := [(0, x1)]) (st := []) (v := (0, v1)) (τ := σ) dX11_relief_2 ml_X11_157 mv_X11_isCand (T := TX11) (ci := 10) rfl sp181 (by decide) (by decide) rfl ⟨Nat.le_of_ble_eq_true rfl, Nat.le_of_ble_eq_true rfl⟩ (Nat.le_of_ble_eq_true rfl) (c_X11_isCand hc2) ?_
  refine ev_if_ne (tgt := 15) dX11_relief_5 rfl h (fun cb h => ?_) (fun cb h => ?_)
  · refine ev_iconst dX11_relief_15 (by decide) ?_
    refine ev_istore_n dX11_relief_16 rfl (by decide) ?_
    show Ev _ _ _ _ 17 _ _ _ [(2, (181 : Int)), (0, x1), (0, (-1 : Int)), (9, 0), (9, 0), (9, 0)] _
    refine ev_sipush dX11_relief_17 (by decide) (by decide) ?_
    refine ev_istore_n dX11_relief_20 rfl (by decide) ?_
    show Ev _ _ _ _ 21 _ _ _ [(2, (181 : Int)), (0, x1), (0, (-1 : Int)), (0, (999 : Int)), (9, 0), (9, 0)] _
    refine ev_iconst dX11_relief_21 (by decide) ?_
    refine ev_istore dX11_relief_22 rfl (by decide) ?_
    show Ev _ _ _ _ 24 _ _ _ [(2, (181 : Int)), (0, x1), (0, (-1 : Int)), (0, (999 : Int)), (0, (0 : Int)), (9, 0)] _
    exact ev_sub (L2 := [(2, (181 : Int)), (0, x1), (0, (-1 : Int)), (0, (999 : Int)), (0, (0 : Int)), (9, 0)]) (e_X11_relief_24 σ x1 (-1 : Int) (999 : Int) (0 : Int) h) ⟨.inr rfl, .inr rfl, .inr rfl, .inr rfl, .inr rfl, .inl rfl, trivial⟩
  refine ev_aload_n dX11_relief_8 rfl (by decide) ?_
  refine ev_bipush dX11_relief_9 (by decide) (by decide) ?_
  obtain ⟨v3, hc4, h⟩ := bind_of h
  refine ev_invV_v (k := (181 : Int)) (av := [(0, (-52 : Int))]) (st := []) (v := (0, v3.1)) (τ := v3.2) dX11_relief_11 ml_X11_151 mv_X11_no (T := TX11) (ci := 10) rfl sp181 (by decide) (by decide) rfl ⟨Nat.le_of_ble_eq_true rfl, Nat.le_of_ble_eq_true rfl⟩ (Nat.le_of_ble_eq_true rfl) (c_X11_no hc4) ?_
  obtain rfl := Option.some.inj h
  dsimp only
  exact ev_iret dX11_relief_14 rfl rfl
def K_X11_retime_56 (x1 x2 x3 x4 x5 : Int) (r : Option V × Mem × Mem) : (Int × Int × Mem) ⊕ ((Int × Mem)) → Prop := Sum.elim (fun a => Ev M_X11_retime 218 218 r 56 218 rho a.2.2 [(2, (181 : Int)), (0, x1), (0, x2), (0, x3), (0, x4), (0, x5), (0, a.1), (0, a.2.1)] []) (fun e => Ev M_X11_retime 218 218 r 96 218 rho e.2 [(2, (181 : Int)), (0, x1), (0, x2), (0, x3), (0, x4), (0, x5), (0, e.1), (9, 0)] [])
def K_X11_retime_29 (x1 x2 : Int) (r : Option V × Mem × Mem) : (Int × Int × Int × Mem) ⊕ ((Int × Mem)) → Prop := Sum.elim (fun a => Ev M_X11_retime 218 218 r 29 218 rho a.2.2.2 [(2, (181 : Int)), (0, x1), (0, x2), (0, a.1), (0, a.2.1), (0, a.2.2.1), (9, 0), (9, 0)] []) (fun e => Ev M_X11_retime 218 218 r 135 218 rho e.2 [(2, (181 : Int)), (0, x1), (0, x2), (0, e.1), (9, 0), (9, 0), (9, 0), (9, 0)] [])
set_option maxHeartbeats 4000000 in
set_option maxRecDepth 20000 in
theorem e_X11_retime_127 (σ : Mem) (x1 x2 x3 x5 s0 : Int)  {q : ((Int × Int × Int × Mem) ⊕ ((Int × Mem)))} (h : f_X11_retime_127 σ x1 x2 x3 x5 s0 = some q) {r : Option V × Mem × Mem} (K : K_X11_retime_29 x1 x2 r q) : Ev M_X11_retime 218 218 r 127 218 rho σ [(2, (181 : Int)), (0, x1), (0, x2), (0, x3), (9, 0), (0, x5), (9, 0), (9, 0)] [(0, s0)] := by
  unfold f_X11_retime_127 at h
  refine ev_istore dX11_retime_127 rfl (by decide) ?_
  show Ev _ _ _ _ 129 _ _ _ [(2, (181 : Int)), (0, x1), (0, x2), (0, x3), (0, s0), (0, x5), (9, 0), (9, 0)] _
  refine ev_iincG dX11_retime_129 rfl h rfl (fun v15 h => ?_)
  show Ev _ _ _ _ 132 _ _ _ [(2, (181 : Int)), (0, x1), (0, x2), (0, x3), (0, s0), (0, v15), (9, 0), (9, 0)] _
  refine ev_goto (tgt := 29) dX11_retime_132 rfl ?_
  obtain rfl := Option.some.inj h
  exact ev_sub (L2 := [(2, (181 : Int)), (0, x1), (0, x2), (0, x3), (0, s0), (0, v15), (9, 0), (9, 0)]) K ⟨.inr rfl, .inr rfl, .inr rfl, .inr rfl, .inr rfl, .inr rfl, .inl rfl, .inl rfl, trivial⟩
set_option maxHeartbeats 4000000 in
set_option maxRecDepth 20000 in
theorem e_X11_retime_113 (σ : Mem) (x1 x2 x4 x5 x6 s0 : Int)  {q : ((Int × Int × Int × Mem) ⊕ ((Int × Mem)))} (h : f_X11_retime_113 σ x1 x2 x4 x5 x6 s0 = some q) {r : Option V × Mem × Mem} (K : K_X11_retime_29 x1 x2 r q) : Ev M_X11_retime 218 218 r 113 218 rho σ [(2, (181 : Int)), (0, x1), (0, x2), (9, 0), (0, x4), (0, x5), (0, x6), (9, 0)] [(0, s0)] := by
  unfold f_X11_retime_113 at h
  refine ev_istore_n dX11_retime_113 rfl (by decide) ?_
  show Ev _ _ _ _ 114 _ _ _ [(2, (181 : Int)), (0, x1), (0, x2), (0, s0), (0, x4), (0, x5), (0, x6), (9, 0)] _
  refine ev_iload_n dX11_retime_114 rfl ?_
  refine ev_iload dX11_retime_115 rfl ?_
  refine ev_icmp_ne (tgt := 125) dX11_retime_117 rfl h (fun cb h => ?_) (fun cb h => ?_)
  · refine ev_iload dX11_retime_125 rfl ?_
    exact ev_sub (L2 := [(2, (181 : Int)), (0, x1), (0, x2), (0, s0), (9, 0), (0, x5), (9, 0), (9, 0)]) (e_X11_retime_127 σ x1 x2 s0 x5 x4 h K) ⟨.inr rfl, .inr rfl, .inr rfl, .inr rfl, .inl rfl, .inr rfl, .inl rfl, .inl rfl, trivial⟩
  refine ev_iload dX11_retime_120 rfl ?_
  refine ev_goto (tgt := 127) dX11_retime_122 rfl ?_
  exact ev_sub (L2 := [(2, (181 : Int)), (0, x1), (0, x2), (0, s0), (9, 0), (0, x5), (9, 0), (9, 0)]) (e_X11_retime_127 σ x1 x2 s0 x5 x6 h K) ⟨.inr rfl, .inr rfl, .inr rfl, .inr rfl, .inl rfl, .inr rfl, .inl rfl, .inl rfl, trivial⟩
set_option maxHeartbeats 4000000 in
set_option maxRecDepth 20000 in
theorem e_X11_retime_107 (σ : Mem) (x1 x2 x4 x5 x6 : Int)  {q : ((Int × Int × Int × Mem) ⊕ ((Int × Mem)))} (h : f_X11_retime_107 σ x1 x2 x4 x5 x6 = some q) {r : Option V × Mem × Mem} (K : K_X11_retime_29 x1 x2 r q) : Ev M_X11_retime 218 218 r 107 218 rho σ [(2, (181 : Int)), (0, x1), (0, x2), (9, 0), (0, x4), (0, x5), (0, x6), (9, 0)] [] := by
  unfold f_X11_retime_107 at h
  refine ev_iload dX11_retime_107 rfl ?_
  refine ev_goto (tgt := 113) dX11_retime_109 rfl ?_
  exact ev_sub (L2 := [(2, (181 : Int)), (0, x1), (0, x2), (9, 0), (0, x4), (0, x5), (0, x6), (9, 0)]) (e_X11_retime_113 σ x1 x2 x4 x5 x6 x5 h K) ⟨.inr rfl, .inr rfl, .inr rfl, .inl rfl, .inr rfl, .inr rfl, .inr rfl, .inl rfl, trivial⟩
set_option maxHeartbeats 4000000 in
set_option maxRecDepth 20000 in
theorem e_X11_retime_96 (σ : Mem) (x1 x2 x3 x4 x5 x6 : Int)  {q : ((Int × Int × Int × Mem) ⊕ ((Int × Mem)))} (h : f_X11_retime_96 σ x1 x2 x3 x4 x5 x6 = some q) {r : Option V × Mem × Mem} (K : K_X11_retime_29 x1 x2 r q) : Ev M_X11_retime 218 218 r 96 218 rho σ [(2, (181 : Int)), (0, x1), (0, x2), (0, x3), (0, x4), (0, x5), (0, x6), (9, 0)] [] := by
  unfold f_X11_retime_96 at h
  refine ev_iload_n dX11_retime_96 rfl ?_
  refine ev_if_lt (tgt := 107) dX11_retime_97 rfl h (fun cb h => ?_) (fun cb h => ?_)
  · exact ev_sub (L2 := [(2, (181 : Int)), (0, x1), (0, x2), (9, 0), (0, x4), (0, x5), (0, x6), (9, 0)]) (e_X11_retime_107 σ x1 x2 x4 x5 x6 h K) ⟨.inr rfl, .inr rfl, .inr rfl, .inl rfl, .inr rfl, .inr rfl, .inr rfl, .inl rfl, trivial⟩
  refine ev_iload dX11_retime_100 rfl ?_
  refine ev_iload dX11_retime_102 rfl ?_
  refine ev_icmp_ge (tgt := 112) dX11_retime_104 rfl h (fun cb h => ?_) (fun cb h => ?_)
  · refine ev_iload_n dX11_retime_112 rfl ?_
    exact ev_sub (L2 := [(2, (181 : Int)), (0, x1), (0, x2), (9, 0), (0, x4), (0, x5), (0, x6), (9, 0)]) (e_X11_retime_113 σ x1 x2 x4 x5 x6 x3 h K) ⟨.inr rfl, .inr rfl, .inr rfl, .inl rfl, .inr rfl, .inr rfl, .inr rfl, .inl rfl, trivial⟩
  exact ev_sub (L2 := [(2, (181 : Int)), (0, x1), (0, x2), (9, 0), (0, x4), (0, x5), (0, x6), (9, 0)]) (e_X11_retime_107 σ x1 x2 x4 x5 x6 h K) ⟨.inr rfl, .inr rfl, .inr rfl, .inl rfl, .inr rfl, .inr rfl, .inr rfl, .inl rfl, trivial⟩
set_option maxHeartbeats 4000000 in
set_option maxRecDepth 20000 in
theorem b_X11_retime_56 (x1 x2 x3 x4 x5 : Int)  {r : Option V × Mem × Mem} : ∀ a x, f_X11_retime_56B x1 x2 x3 x4 x5 a = some x → K_X11_retime_56 x1 x2 x3 x4 x5 r x → K_X11_retime_56 x1 x2 x3 x4 x5 r (.inl a) := by
  intro a x h K
  obtain ⟨x6, x7, σ⟩ := a
  have h : f_X11_retime_56C x1 x2 x3 x4 x5 x6 x7 σ = some x := h
  unfold f_X11_retime_56C at h
  show Ev M_X11_retime 218 218 r 56 218 rho σ [(2, (181 : Int)), (0, x1), (0, x2), (0, x3), (0, x4), (0, x5), (0, x6), (0, x7)] []
  refine ev_iload dX11_retime_56 rfl ?_
  refine ev_aload_n dX11_retime_58 rfl (by decide) ?_
  refine ev_getf (j := 0) (t := 2) (x := (182 : Int)) dX11_retime_59 cf_X11 wf_X11_7 sp181 (by decide) (by decide) rfl (by decide) (rp181_0 _) ?_
  refine ev_bipush dX11_retime_62 (by decide) (by decide) ?_
  refine ev_iald dX11_retime_64 sp182 (by decide) (by decide) h (fun h => ?_)
  refine ev_icmp_ge (tgt := 96) dX11_retime_65 rfl h (fun cb h => ?_) (fun cb h => ?_)
  · obtain rfl := Option.some.inj h
    exact ev_sub (L2 := [(2, (181 : Int)), (0, x1), (0, x2), (0, x3), (0, x4), (0, x5), (0, x6), (9, 0)]) K ⟨.inr rfl, .inr rfl, .inr rfl, .inr rfl, .inr rfl, .inr rfl, .inr rfl, .inl rfl, trivial⟩
  refine ev_iload dX11_retime_68 rfl ?_
  refine ev_sipush dX11_retime_70 (by decide) (by decide) ?_
  refine ev_aload_n dX11_retime_73 rfl (by decide) ?_
  refine ev_iload dX11_retime_74 rfl ?_
  obtain ⟨v8, hc9, h⟩ := bind_of h
  refine ev_invV_v (k := (181 : Int)) (av := [(0, x7)]) (st := [(0, (10000 : Int)), (0, x6)]) (v := (0, v8.1)) (τ := v8.2) dX11_retime_76 ml_X11_297 mv_X11_cants (T := TX11) (ci := 10) rfl sp181 (by decide) (by decide) rfl ⟨Nat.le_of_ble_eq_true rfl, Nat.le_of_ble_eq_true rfl⟩ (Nat.le_of_ble_eq_true rfl) (c_X11_cants hc9) ?_
  refine ev_imul dX11_retime_79 ?_
  refine ev_aload_n dX11_retime_80 rfl (by decide) ?_
  refine ev_iload dX11_retime_81 rfl ?_
  obtain ⟨v10, hc11, h⟩ := bind_of h
  refine ev_invV_v (k := (181 : Int)) (av := [(0, x7)]) (st := [(0, (jmul (10000 : Int) v8.1)), (0, x6)]) (v := (0, v10.1)) (τ := v10.2) dX11_retime_83 ml_X11_362 mv_X11_keptInAll (T := TX11) (ci := 10) rfl sp181 (by decide) (by decide) rfl ⟨Nat.le_of_ble_eq_true rfl, Nat.le_of_ble_eq_true rfl⟩ (Nat.le_of_ble_eq_true rfl) (c_X11_keptInAll hc11) ?_
  refine ev_iadd dX11_retime_86 ?_
  refine ev_iadd dX11_retime_87 ?_
  show Ev _ _ _ _ 88 _ _ _ _ _
  refine ev_istoreG dX11_retime_88 h rfl (by decide) (fun v12 h => ?_)
  show Ev _ _ _ _ 90 _ _ _ [(2, (181 : Int)), (0, x1), (0, x2), (0, x3), (0, x4), (0, x5), (0, v12), (0, x7)] _
  refine ev_iincG dX11_retime_90 rfl h rfl (fun v13 h => ?_)
  show Ev _ _ _ _ 93 _ _ _ [(2, (181 : Int)), (0, x1), (0, x2), (0, x3), (0, x4), (0, x5), (0, v12), (0, v13)] _
  refine ev_goto (tgt := 56) dX11_retime_93 rfl ?_
  obtain rfl := Option.some.inj h
  exact ev_sub (L2 := [(2, (181 : Int)), (0, x1), (0, x2), (0, x3), (0, x4), (0, x5), (0, v12), (0, v13)]) K ⟨.inr rfl, .inr rfl, .inr rfl, .inr rfl, .inr rfl, .inr rfl, .inr rfl, .inr rfl, trivial⟩
set_option maxHeartbeats 4000000 in
set_option maxRecDepth 20000 in
theorem e_X11_retime_56 (σ : Mem) (x1 x2 x3 x4 x5 x6 x7 : Int)  {q : ((Int × Int × Int × Mem) ⊕ ((Int × Mem)))} (h : f_X11_retime_56 σ x1 x2 x3 x4 x5 x6 x7 = some q) {r : Option V × Mem × Mem} (K : K_X11_retime_29 x1 x2 r q) : Ev M_X11_retime 218 218 r 56 218 rho σ [(2, (181 : Int)), (0, x1), (0, x2), (0, x3), (0, x4), (0, x5), (0, x6), (0, x7)] [] := by
  unfold f_X11_retime_56 at h
  obtain ⟨e, hl, h⟩ := bind_of h
  refine loop_ev (K := K_X11_retime_56 x1 x2 x3 x4 x5 r) (b_X11_retime_56 x1 x2 x3 x4 x5) FU (x6, x7, σ) e hl ?_
  show Ev M_X11_retime 218 218 r 96 218 rho e.2 [(2, (181 : Int)), (0, x1), (0, x2), (0, x3), (0, x4), (0, x5), (0, e.1), (9, 0)] []
  replace h : f_X11_retime_96 e.2 x1 x2 x3 x4 x5 e.1 = some q := h
  exact ev_sub (L2 := [(2, (181 : Int)), (0, x1), (0, x2), (0, x3), (0, x4), (0, x5), (0, e.1), (9, 0)]) (e_X11_retime_96 e.2 x1 x2 x3 x4 x5 e.1 h K) ⟨.inr rfl, .inr rfl, .inr rfl, .inr rfl, .inr rfl, .inr rfl, .inr rfl, .inl rfl, trivial⟩
set_option maxHeartbeats 4000000 in
set_option maxRecDepth 20000 in
theorem e_X11_retime_135 (σ : Mem) (x1 x2 x3 : Int)  {q : (Int × Mem)} (h : f_X11_retime_135 σ x1 x2 x3 = some q) : Ev M_X11_retime 218 218 (some (0, q.1), rho, q.2) 135 218 rho σ [(2, (181 : Int)), (0, x1), (0, x2), (0, x3), (9, 0), (9, 0), (9, 0), (9, 0)] [] := by
  unfold f_X11_retime_135 at h
  refine ev_aload_n dX11_retime_135 rfl (by decide) ?_
  refine ev_getf (j := 0) (t := 2) (x := (182 : Int)) dX11_retime_136 cf_X11 wf_X11_7 sp181 (by decide) (by decide) rfl (by decide) (rp181_0 _) ?_
  refine ev_iconst dX11_retime_139 (by decide) ?_
  refine ev_iconst dX11_retime_140 (by decide) ?_
  refine ev_iload_n dX11_retime_141 rfl ?_
  refine ev_imul dX11_retime_142 ?_
  refine ev_iadd dX11_retime_143 ?_
  refine ev_iconst dX11_retime_144 (by decide) ?_
  refine ev_iadd dX11_retime_145 ?_
  refine ev_iload_n dX11_retime_146 rfl ?_
  refine ev_iastG dX11_retime_147 sp182 (by decide) (by decide) h (fun σ14 h => ?_)
  show Ev _ _ _ _ 148 _ _ _ _ _
  refine ev_iload_n dX11_retime_148 rfl ?_
  obtain rfl := Option.some.inj h
  dsimp only
  exact ev_iret dX11_retime_149 rfl rfl
set_option maxHeartbeats 4000000 in
set_option maxRecDepth 20000 in
theorem b_X11_retime_29 (x1 x2 : Int)  {r : Option V × Mem × Mem} : ∀ a x, f_X11_retime_29B x1 x2 a = some x → K_X11_retime_29 x1 x2 r x → K_X11_retime_29 x1 x2 r (.inl a) := by
  intro a x h K
  obtain ⟨x3, x4, x5, σ⟩ := a
  have h : f_X11_retime_29C x1 x2 x3 x4 x5 σ = some x := h
  unfold f_X11_retime_29C at h
  show Ev M_X11_retime 218 218 r 29 218 rho σ [(2, (181 : Int)), (0, x1), (0, x2), (0, x3), (0, x4), (0, x5), (9, 0), (9, 0)] []
  refine ev_iload dX11_retime_29 rfl ?_
  refine ev_bipush dX11_retime_31 (by decide) (by decide) ?_
  refine ev_icmp_ge (tgt := 135) dX11_retime_33 rfl h (fun cb h => ?_) (fun cb h => ?_)
  · obtain rfl := Option.some.inj h
    exact ev_sub (L2 := [(2, (181 : Int)), (0, x1), (0, x2), (0, x3), (9, 0), (9, 0), (9, 0), (9, 0)]) K ⟨.inr rfl, .inr rfl, .inr rfl, .inr rfl, .inl rfl, .inl rfl, .inl rfl, .inl rfl, trivial⟩
  refine ev_aload_n dX11_retime_36 rfl (by decide) ?_
  refine ev_getf (j := 0) (t := 2) (x := (182 : Int)) dX11_retime_37 cf_X11 wf_X11_7 sp181 (by decide) (by decide) rfl (by decide) (rp181_0 _) ?_
  refine ev_iconst dX11_retime_40 (by decide) ?_
  refine ev_iconst dX11_retime_41 (by decide) ?_
  refine ev_iload_n dX11_retime_42 rfl ?_
  refine ev_imul dX11_retime_43 ?_
  refine ev_iadd dX11_retime_44 ?_
  refine ev_iconst dX11_retime_45 (by decide) ?_
  refine ev_iadd dX11_retime_46 ?_
  refine ev_iload dX11_retime_47 rfl ?_
  refine ev_iastG dX11_retime_49 sp182 (by decide) (by decide) h (fun σ7 h => ?_)
  show Ev _ _ _ _ 50 _ _ _ _ _
  refine ev_iconst dX11_retime_50 (by decide) ?_
  refine ev_istore dX11_retime_51 rfl (by decide) ?_
  show Ev _ _ _ _ 53 _ _ _ [(2, (181 : Int)), (0, x1), (0, x2), (0, x3), (0, x4), (0, x5), (0, (0 : Int)), (9, 0)] _
  refine ev_iconst dX11_retime_53 (by decide) ?_
  refine ev_istore dX11_retime_54 rfl (by decide) ?_
  show Ev _ _ _ _ 56 _ _ _ [(2, (181 : Int)), (0, x1), (0, x2), (0, x3), (0, x4), (0, x5), (0, (0 : Int)), (0, (0 : Int))] _
  exact ev_sub (L2 := [(2, (181 : Int)), (0, x1), (0, x2), (0, x3), (0, x4), (0, x5), (0, (0 : Int)), (0, (0 : Int))]) (e_X11_retime_56 σ7 x1 x2 x3 x4 x5 (0 : Int) (0 : Int) h K) ⟨.inr rfl, .inr rfl, .inr rfl, .inr rfl, .inr rfl, .inr rfl, .inr rfl, .inr rfl, trivial⟩
set_option maxHeartbeats 4000000 in
set_option maxRecDepth 20000 in
theorem e_X11_retime_29 (σ : Mem) (x1 x2 x3 x4 x5 : Int)  {q : (Int × Mem)} (h : f_X11_retime_29 σ x1 x2 x3 x4 x5 = some q) : Ev M_X11_retime 218 218 (some (0, q.1), rho, q.2) 29 218 rho σ [(2, (181 : Int)), (0, x1), (0, x2), (0, x3), (0, x4), (0, x5), (9, 0), (9, 0)] [] := by
  unfold f_X11_retime_29 at h
  obtain ⟨e, hl, h⟩ := bind_of h
  refine loop_ev (K := K_X11_retime_29 x1 x2 (some (0, q.1), rho, q.2)) (b_X11_retime_29 x1 x2) FU (x3, x4, x5, σ) e hl ?_
  show Ev M_X11_retime 218 218 _ 135 218 rho e.2 [(2, (181 : Int)), (0, x1), (0, x2), (0, e.1), (9, 0), (9, 0), (9, 0), (9, 0)] []
  replace h : f_X11_retime_135 e.2 x1 x2 e.1 = some q := h
  exact ev_sub (L2 := [(2, (181 : Int)), (0, x1), (0, x2), (0, e.1), (9, 0), (9, 0), (9, 0), (9, 0)]) (e_X11_retime_135 e.2 x1 x2 e.1 h) ⟨.inr rfl, .inr rfl, .inr rfl, .inr rfl, .inl rfl, .inl rfl, .inl rfl, .inl rfl, trivial⟩
set_option maxHeartbeats 4000000 in
set_option maxRecDepth 20000 in
theorem c_X11_retime {σ : Mem} {x1 : Int}  {q : (Int × Mem)} (h : f_X11_retime σ x1 = some q) : Ms yX11_retime M_X11_retime 218 218 [(2, (181 : Int)), (0, x1)] rho σ (some (0, q.1), rho, q.2) := by
  refine Ms.of 6 (by decide +kernel) rfl (fun z => absurd z (by decide)) (fun _ _ _ => trivial) rfl rfl ?_
  unfold f_X11_retime at h
  show Ev M_X11_retime 218 218 _ 0 218 rho σ [(2, (181 : Int)), (0, x1), (9, 0), (9, 0), (9, 0), (9, 0), (9, 0), (9, 0)] []
  refine ev_aload_n dX11_retime_0 rfl (by decide) ?_
  refine ev_iload_n dX11_retime_1 rfl ?_
  obtain ⟨v1, hc2, h⟩ := bind_of h
  refine ev_invV_v (k := (181 : Int)) (av := [(0, x1)]) (st := []) (v := (0, v1)) (τ := σ) dX11_retime_2 ml_X11_174 mv_X11_isPaper (T := TX11) (ci := 10) rfl sp181 (by decide) (by decide) rfl ⟨Nat.le_of_ble_eq_true rfl, Nat.le_of_ble_eq_true rfl⟩ (Nat.le_of_ble_eq_true rfl) (c_X11_isPaper hc2) ?_
  refine ev_if_ne (tgt := 15) dX11_retime_5 rfl h (fun cb h => ?_) (fun cb h => ?_)
  · refine ev_aload_n dX11_retime_15 rfl (by decide) ?_
    refine ev_iload_n dX11_retime_16 rfl ?_
    obtain ⟨v3, hc4, h⟩ := bind_of h
    refine ev_invV_v (k := (181 : Int)) (av := [(0, x1)]) (st := []) (v := (0, v3)) (τ := σ) dX11_retime_17 ml_X11_255 mv_X11_start (T := TX11) (ci := 10) rfl sp181 (by decide) (by decide) rfl ⟨Nat.le_of_ble_eq_true rfl, Nat.le_of_ble_eq_true rfl⟩ (Nat.le_of_ble_eq_true rfl) (c_X11_start hc4) ?_
    refine ev_istore_n dX11_retime_20 rfl (by decide) ?_
    show Ev _ _ _ _ 21 _ _ _ [(2, (181 : Int)), (0, x1), (0, v3), (9, 0), (9, 0), (9, 0), (9, 0), (9, 0)] _
    refine ev_iconst dX11_retime_21 (by decide) ?_
    refine ev_istore_n dX11_retime_22 rfl (by decide) ?_
    show Ev _ _ _ _ 23 _ _ _ [(2, (181 : Int)), (0, x1), (0, v3), (0, (-1 : Int)), (9, 0), (9, 0), (9, 0), (9, 0)] _
    refine ev_iconst dX11_retime_23 (by decide) ?_
    refine ev_istore dX11_retime_24 rfl (by decide) ?_
    show Ev _ _ _ _ 26 _ _ _ [(2, (181 : Int)), (0, x1), (0, v3), (0, (-1 : Int)), (0, (0 : Int)), (9, 0), (9, 0), (9, 0)] _
    refine ev_iconst dX11_retime_26 (by decide) ?_
    refine ev_istore dX11_retime_27 rfl (by decide) ?_
    show Ev _ _ _ _ 29 _ _ _ [(2, (181 : Int)), (0, x1), (0, v3), (0, (-1 : Int)), (0, (0 : Int)), (0, (0 : Int)), (9, 0), (9, 0)] _
    exact ev_sub (L2 := [(2, (181 : Int)), (0, x1), (0, v3), (0, (-1 : Int)), (0, (0 : Int)), (0, (0 : Int)), (9, 0), (9, 0)]) (e_X11_retime_29 σ x1 v3 (-1 : Int) (0 : Int) (0 : Int) h) ⟨.inr rfl, .inr rfl, .inr rfl, .inr rfl, .inr rfl, .inr rfl, .inl rfl, .inl rfl, trivial⟩
  refine ev_aload_n dX11_retime_8 rfl (by decide) ?_
  refine ev_bipush dX11_retime_9 (by decide) (by decide) ?_
  obtain ⟨v5, hc6, h⟩ := bind_of h
  refine ev_invV_v (k := (181 : Int)) (av := [(0, (-52 : Int))]) (st := []) (v := (0, v5.1)) (τ := v5.2) dX11_retime_11 ml_X11_151 mv_X11_no (T := TX11) (ci := 10) rfl sp181 (by decide) (by decide) rfl ⟨Nat.le_of_ble_eq_true rfl, Nat.le_of_ble_eq_true rfl⟩ (Nat.le_of_ble_eq_true rfl) (c_X11_no hc6) ?_
  obtain rfl := Option.some.inj h
  dsimp only
  exact ev_iret dX11_retime_14 rfl rfl
def K_X11_hoursFor_29 (x1 x2 : Int) (r : Option V × Mem × Mem) : (Int × Int × Mem) ⊕ ((Int × Mem)) → Prop := Sum.elim (fun a => Ev M_X11_hoursFor 218 218 r 29 218 rho a.2.2 [(2, (181 : Int)), (0, x1), (0, x2), (0, a.1), (0, a.2.1)] []) (fun e => Ev M_X11_hoursFor 218 218 r 70 218 rho e.2 [(2, (181 : Int)), (9, 0), (0, x2), (0, e.1), (9, 0)] [])
set_option maxHeartbeats 4000000 in
set_option maxRecDepth 20000 in
theorem e_X11_hoursFor_63 (σ : Mem) (x1 x2 x4 s0 : Int)  {q : ((Int × Int × Mem) ⊕ ((Int × Mem)))} (h : f_X11_hoursFor_63 σ x1 x2 x4 s0 = some q) {r : Option V × Mem × Mem} (K : K_X11_hoursFor_29 x1 x2 r q) : Ev M_X11_hoursFor 218 218 r 63 218 rho σ [(2, (181 : Int)), (0, x1), (0, x2), (9, 0), (0, x4)] [(0, s0)] := by
  unfold f_X11_hoursFor_63 at h
  refine ev_istore_n dX11_hoursFor_63 rfl (by decide) ?_
  show Ev _ _ _ _ 64 _ _ _ [(2, (181 : Int)), (0, x1), (0, x2), (0, s0), (0, x4)] _
  refine ev_iincG dX11_hoursFor_64 rfl h rfl (fun v9 h => ?_)
  show Ev _ _ _ _ 67 _ _ _ [(2, (181 : Int)), (0, x1), (0, x2), (0, s0), (0, v9)] _
  refine ev_goto (tgt := 29) dX11_hoursFor_67 rfl ?_
  obtain rfl := Option.some.inj h
  exact ev_sub (L2 := [(2, (181 : Int)), (0, x1), (0, x2), (0, s0), (0, v9)]) K ⟨.inr rfl, .inr rfl, .inr rfl, .inr rfl, .inr rfl, trivial⟩
set_option maxHeartbeats 4000000 in
set_option maxRecDepth 20000 in
theorem e_X11_hoursFor_70 (σ : Mem) (x2 x3 : Int)  {q : (Int × Mem)} (h : f_X11_hoursFor_70 σ x2 x3 = some q) : Ev M_X11_hoursFor 218 218 (some (0, q.1), rho, q.2) 70 218 rho σ [(2, (181 : Int)), (9, 0), (0, x2), (0, x3), (9, 0)] [] := by
  unfold f_X11_hoursFor_70 at h
  refine ev_aload_n dX11_hoursFor_70 rfl (by decide) ?_
  refine ev_getf (j := 0) (t := 2) (x := (182 : Int)) dX11_hoursFor_71 cf_X11 wf_X11_7 sp181 (by decide) (by decide) rfl (by decide) (rp181_0 _) ?_
  refine ev_bipush dX11_hoursFor_74 (by decide) (by decide) ?_
  refine ev_iload_n dX11_hoursFor_76 rfl ?_
  refine ev_iastG dX11_hoursFor_77 sp182 (by decide) (by decide) h (fun σ10 h => ?_)
  refine ev_iload_n dX11_hoursFor_78 rfl ?_
  obtain rfl := Option.some.inj h
  dsimp only
  exact ev_iret dX11_hoursFor_79 rfl rfl
set_option maxHeartbeats 4000000 in
set_option maxRecDepth 20000 in
theorem b_X11_hoursFor_29 (x1 x2 : Int)  {r : Option V × Mem × Mem} : ∀ a x, f_X11_hoursFor_29B x1 x2 a = some x → K_X11_hoursFor_29 x1 x2 r x → K_X11_hoursFor_29 x1 x2 r (.inl a) := by
  intro a x h K
  obtain ⟨x3, x4, σ⟩ := a
  have h : f_X11_hoursFor_29C x1 x2 x3 x4 σ = some x := h
  unfold f_X11_hoursFor_29C at h
  show Ev M_X11_hoursFor 218 218 r 29 218 rho σ [(2, (181 : Int)), (0, x1), (0, x2), (0, x3), (0, x4)] []
  refine ev_iload dX11_hoursFor_29 rfl ?_
  refine ev_bipush dX11_hoursFor_31 (by decide) (by decide) ?_
  refine ev_icmp_gt (tgt := 70) dX11_hoursFor_33 rfl h (fun cb h => ?_) (fun cb h => ?_)
  · obtain rfl := Option.some.inj h
    exact ev_sub (L2 := [(2, (181 : Int)), (9, 0), (0, x2), (0, x3), (9, 0)]) K ⟨.inr rfl, .inl rfl, .inr rfl, .inr rfl, .inl rfl, trivial⟩
  refine ev_iload_n dX11_hoursFor_36 rfl ?_
  refine ev_if_ge (tgt := 70) dX11_hoursFor_37 rfl h (fun cb h => ?_) (fun cb h => ?_)
  · obtain rfl := Option.some.inj h
    exact ev_sub (L2 := [(2, (181 : Int)), (9, 0), (0, x2), (0, x3), (9, 0)]) K ⟨.inr rfl, .inl rfl, .inr rfl, .inr rfl, .inl rfl, trivial⟩
  refine ev_aload_n dX11_hoursFor_40 rfl (by decide) ?_
  refine ev_getf (j := 0) (t := 2) (x := (182 : Int)) dX11_hoursFor_41 cf_X11 wf_X11_7 sp181 (by decide) (by decide) rfl (by decide) (rp181_0 _) ?_
  refine ev_bipush dX11_hoursFor_44 (by decide) (by decide) ?_
  refine ev_iload dX11_hoursFor_46 rfl ?_
  refine ev_iastG dX11_hoursFor_48 sp182 (by decide) (by decide) h (fun σ6 h => ?_)
  refine ev_aload_n dX11_hoursFor_49 rfl (by decide) ?_
  refine ev_iload_n dX11_hoursFor_50 rfl ?_
  obtain ⟨v7, hc8, h⟩ := bind_of h
  refine ev_invV_v (k := (181 : Int)) (av := [(0, x1)]) (st := []) (v := (0, v7.1)) (τ := v7.2) dX11_hoursFor_51 ml_X11_297 mv_X11_cants (T := TX11) (ci := 10) rfl sp181 (by decide) (by decide) rfl ⟨Nat.le_of_ble_eq_true rfl, Nat.le_of_ble_eq_true rfl⟩ (Nat.le_of_ble_eq_true rfl) (c_X11_cants hc8) ?_
  refine ev_if_ne (tgt := 62) dX11_hoursFor_54 rfl h (fun cb h => ?_) (fun cb h => ?_)
  · refine ev_iconst dX11_hoursFor_62 (by decide) ?_
    exact ev_sub (L2 := [(2, (181 : Int)), (0, x1), (0, x2), (9, 0), (0, x4)]) (e_X11_hoursFor_63 v7.2 x1 x2 x4 (-1 : Int) h K) ⟨.inr rfl, .inr rfl, .inr rfl, .inl rfl, .inr rfl, trivial⟩
  refine ev_iload dX11_hoursFor_57 rfl ?_
  refine ev_goto (tgt := 63) dX11_hoursFor_59 rfl ?_
  exact ev_sub (L2 := [(2, (181 : Int)), (0, x1), (0, x2), (9, 0), (0, x4)]) (e_X11_hoursFor_63 v7.2 x1 x2 x4 x4 h K) ⟨.inr rfl, .inr rfl, .inr rfl, .inl rfl, .inr rfl, trivial⟩
set_option maxHeartbeats 4000000 in
set_option maxRecDepth 20000 in
theorem e_X11_hoursFor_29 (σ : Mem) (x1 x2 x3 x4 : Int)  {q : (Int × Mem)} (h : f_X11_hoursFor_29 σ x1 x2 x3 x4 = some q) : Ev M_X11_hoursFor 218 218 (some (0, q.1), rho, q.2) 29 218 rho σ [(2, (181 : Int)), (0, x1), (0, x2), (0, x3), (0, x4)] [] := by
  unfold f_X11_hoursFor_29 at h
  obtain ⟨e, hl, h⟩ := bind_of h
  refine loop_ev (K := K_X11_hoursFor_29 x1 x2 (some (0, q.1), rho, q.2)) (b_X11_hoursFor_29 x1 x2) FU (x3, x4, σ) e hl ?_
  show Ev M_X11_hoursFor 218 218 _ 70 218 rho e.2 [(2, (181 : Int)), (9, 0), (0, x2), (0, e.1), (9, 0)] []
  replace h : f_X11_hoursFor_70 e.2 x2 e.1 = some q := h
  exact ev_sub (L2 := [(2, (181 : Int)), (9, 0), (0, x2), (0, e.1), (9, 0)]) (e_X11_hoursFor_70 e.2 x2 e.1 h) ⟨.inr rfl, .inl rfl, .inr rfl, .inr rfl, .inl rfl, trivial⟩
set_option maxHeartbeats 4000000 in
set_option maxRecDepth 20000 in
theorem c_X11_hoursFor {σ : Mem} {x1 : Int}  {q : (Int × Mem)} (h : f_X11_hoursFor σ x1 = some q) : Ms yX11_hoursFor M_X11_hoursFor 218 218 [(2, (181 : Int)), (0, x1)] rho σ (some (0, q.1), rho, q.2) := by
  refine Ms.of 3 (by decide +kernel) rfl (fun z => absurd z (by decide)) (fun _ _ _ => trivial) rfl rfl ?_
  unfold f_X11_hoursFor at h
  show Ev M_X11_hoursFor 218 218 _ 0 218 rho σ [(2, (181 : Int)), (0, x1), (9, 0), (9, 0), (9, 0)] []
  refine ev_aload_n dX11_hoursFor_0 rfl (by decide) ?_
  refine ev_iload_n dX11_hoursFor_1 rfl ?_
  obtain ⟨v1, hc2, h⟩ := bind_of h
  refine ev_invV_v (k := (181 : Int)) (av := [(0, x1)]) (st := []) (v := (0, v1)) (τ := σ) dX11_hoursFor_2 ml_X11_157 mv_X11_isCand (T := TX11) (ci := 10) rfl sp181 (by decide) (by decide) rfl ⟨Nat.le_of_ble_eq_true rfl, Nat.le_of_ble_eq_true rfl⟩ (Nat.le_of_ble_eq_true rfl) (c_X11_isCand hc2) ?_
  refine ev_if_ne (tgt := 15) dX11_hoursFor_5 rfl h (fun cb h => ?_) (fun cb h => ?_)
  · refine ev_aload_n dX11_hoursFor_15 rfl (by decide) ?_
    refine ev_getf (j := 0) (t := 2) (x := (182 : Int)) dX11_hoursFor_16 cf_X11 wf_X11_7 sp181 (by decide) (by decide) rfl (by decide) (rp181_0 _) ?_
    refine ev_bipush dX11_hoursFor_19 (by decide) (by decide) ?_
    refine ev_iald dX11_hoursFor_21 sp182 (by decide) (by decide) h (fun h => ?_)
    refine ev_istore_nG dX11_hoursFor_22 h rfl (by decide) (fun v3 h => ?_)
    show Ev _ _ _ _ 23 _ _ _ [(2, (181 : Int)), (0, x1), (0, v3), (9, 0), (9, 0)] _
    refine ev_iconst dX11_hoursFor_23 (by decide) ?_
    refine ev_istore_n dX11_hoursFor_24 rfl (by decide) ?_
    show Ev _ _ _ _ 25 _ _ _ [(2, (181 : Int)), (0, x1), (0, v3), (0, (-1 : Int)), (9, 0)] _
    refine ev_bipush dX11_hoursFor_25 (by decide) (by decide) ?_
    refine ev_istore dX11_hoursFor_27 rfl (by decide) ?_
    show Ev _ _ _ _ 29 _ _ _ [(2, (181 : Int)), (0, x1), (0, v3), (0, (-1 : Int)), (0, (8 : Int))] _
    exact ev_sub (L2 := [(2, (181 : Int)), (0, x1), (0, v3), (0, (-1 : Int)), (0, (8 : Int))]) (e_X11_hoursFor_29 σ x1 v3 (-1 : Int) (8 : Int) h) ⟨.inr rfl, .inr rfl, .inr rfl, .inr rfl, .inr rfl, trivial⟩
  refine ev_aload_n dX11_hoursFor_8 rfl (by decide) ?_
  refine ev_bipush dX11_hoursFor_9 (by decide) (by decide) ?_
  obtain ⟨v4, hc5, h⟩ := bind_of h
  refine ev_invV_v (k := (181 : Int)) (av := [(0, (-52 : Int))]) (st := []) (v := (0, v4.1)) (τ := v4.2) dX11_hoursFor_11 ml_X11_151 mv_X11_no (T := TX11) (ci := 10) rfl sp181 (by decide) (by decide) rfl ⟨Nat.le_of_ble_eq_true rfl, Nat.le_of_ble_eq_true rfl⟩ (Nat.le_of_ble_eq_true rfl) (c_X11_no hc5) ?_
  obtain rfl := Option.some.inj h
  dsimp only
  exact ev_iret dX11_hoursFor_14 rfl rfl
set_option maxHeartbeats 4000000 in
set_option maxRecDepth 20000 in
theorem c_X11_wrongShelf {σ : Mem} {x1 x2 : Int}  {q : Int} (h : f_X11_wrongShelf σ x1 x2 = some q) : Ms yX11_wrongShelf M_X11_wrongShelf 218 218 [(2, (181 : Int)), (0, x1), (0, x2)] rho σ (some (0, q), rho, σ) := by
  refine Ms.of 0 (by decide +kernel) rfl (fun z => absurd z (by decide)) (fun _ _ _ => trivial) rfl rfl ?_
  unfold f_X11_wrongShelf at h
  show Ev M_X11_wrongShelf 218 218 _ 0 218 rho σ [(2, (181 : Int)), (0, x1), (0, x2)] []
  refine ev_aload_n dX11_wrongShelf_0 rfl (by decide) ?_
  refine ev_getf (j := 4) (t := 2) (x := (185 : Int)) dX11_wrongShelf_1 cf_X11 wf_X11_19 sp181 (by decide) (by decide) rfl (by decide) (rp181_4 _) ?_
  refine ev_iload_n dX11_wrongShelf_4 rfl ?_
  refine ev_iald dX11_wrongShelf_5 sp185 (by decide) (by decide) h (fun h => ?_)
  refine ev_bipush dX11_wrongShelf_6 (by decide) (by decide) ?_
  refine ev_icmp_lt (tgt := 16) dX11_wrongShelf_8 rfl h (fun cb h => ?_) (fun cb h => ?_)
  · refine ev_aload_n dX11_wrongShelf_16 rfl (by decide) ?_
    refine ev_getf (j := 4) (t := 2) (x := (185 : Int)) dX11_wrongShelf_17 cf_X11 wf_X11_19 sp181 (by decide) (by decide) rfl (by decide) (rp181_4 _) ?_
    refine ev_iload_n dX11_wrongShelf_20 rfl ?_
    refine ev_iald dX11_wrongShelf_21 sp185 (by decide) (by decide) h (fun h => ?_)
    refine ev_if_ge (tgt := 30) dX11_wrongShelf_22 rfl h (fun cb h => ?_) (fun cb h => ?_)
    · refine ev_aload_n dX11_wrongShelf_30 rfl (by decide) ?_
      refine ev_getf (j := 5) (t := 2) (x := (186 : Int)) dX11_wrongShelf_31 cf_X11 wf_X11_22 sp181 (by decide) (by decide) rfl (by decide) (rp181_5 _) ?_
      refine ev_iload_n dX11_wrongShelf_34 rfl ?_
      refine ev_iald dX11_wrongShelf_35 sp186 (by decide) (by decide) h (fun h => ?_)
      refine ev_iload_n dX11_wrongShelf_36 rfl ?_
      refine ev_icmp_ge (tgt := 45) dX11_wrongShelf_37 rfl h (fun cb h => ?_) (fun cb h => ?_)
      · refine ev_iconst dX11_wrongShelf_45 (by decide) ?_
        obtain rfl := Option.some.inj h
        exact ev_iret dX11_wrongShelf_46 rfl rfl
      refine ev_bipush dX11_wrongShelf_40 (by decide) (by decide) ?_
      refine ev_goto (tgt := 46) dX11_wrongShelf_42 rfl ?_
      obtain rfl := Option.some.inj h
      exact ev_iret dX11_wrongShelf_46 rfl rfl
    refine ev_bipush dX11_wrongShelf_25 (by decide) (by decide) ?_
    refine ev_goto (tgt := 46) dX11_wrongShelf_27 rfl ?_
    obtain rfl := Option.some.inj h
    exact ev_iret dX11_wrongShelf_46 rfl rfl
  refine ev_bipush dX11_wrongShelf_11 (by decide) (by decide) ?_
  refine ev_goto (tgt := 46) dX11_wrongShelf_13 rfl ?_
  obtain rfl := Option.some.inj h
  exact ev_iret dX11_wrongShelf_46 rfl rfl
def K_X11_kinds_122 (σ : Mem) (x1 x2 x3 x6 x7 x8 : Int) (r : Option V × Mem × Mem) : (Int × Int) ⊕ ((Int)) → Prop := Sum.elim (fun a => Ev M_X11_kinds 218 218 r 122 218 rho σ [(2, (181 : Int)), (0, x1), (0, x2), (0, x3), (9, 0), (0, a.1), (0, x6), (0, x7), (1, x8), (9, 0), (0, a.2), (9, 0)] []) (fun e => Ev M_X11_kinds 218 218 r 207 218 rho σ [(2, (181 : Int)), (0, x1), (0, x2), (0, x3), (9, 0), (0, e), (0, x6), (0, x7), (9, 0), (9, 0), (9, 0), (9, 0)] [])
def K_X11_kinds_66 (σ : Mem) (x1 x2 x3 : Int) (r : Option V × Mem × Mem) : (Int × Int × Int) ⊕ ((Int × Int)) → Prop := Sum.elim (fun a => Ev M_X11_kinds 218 218 r 66 218 rho σ [(2, (181 : Int)), (0, x1), (0, x2), (0, x3), (9, 0), (0, a.1), (0, a.2.1), (0, a.2.2), (9, 0), (9, 0), (9, 0), (9, 0)] []) (fun e => Ev M_X11_kinds 218 218 r 213 218 rho σ [(2, (181 : Int)), (9, 0), (9, 0), (9, 0), (9, 0), (0, e.1), (0, e.2), (9, 0), (9, 0), (9, 0), (9, 0), (9, 0)] [])
set_option maxHeartbeats 4000000 in
set_option maxRecDepth 20000 in
theorem e_X11_kinds_27 (σ : Mem)  {q : (Int × Mem)} (h : f_X11_kinds_27 σ  = some q) : Ev M_X11_kinds 218 218 (some (0, q.1), rho, q.2) 27 218 rho σ [(2, (181 : Int)), (9, 0), (9, 0), (9, 0), (9, 0), (9, 0), (9, 0), (9, 0), (9, 0), (9, 0), (9, 0), (9, 0)] [] := by
  unfold f_X11_kinds_27 at h
  refine ev_aload_n dX11_kinds_27 rfl (by decide) ?_
  refine ev_bipush dX11_kinds_28 (by decide) (by decide) ?_
  obtain ⟨v11, hc12, h⟩ := bind_of h
  refine ev_invV_v (k := (181 : Int)) (av := [(0, (-52 : Int))]) (st := []) (v := (0, v11.1)) (τ := v11.2) dX11_kinds_30 ml_X11_151 mv_X11_no (T := TX11) (ci := 10) rfl sp181 (by decide) (by decide) rfl ⟨Nat.le_of_ble_eq_true rfl, Nat.le_of_ble_eq_true rfl⟩ (Nat.le_of_ble_eq_true rfl) (c_X11_no hc12) ?_
  obtain rfl := Option.some.inj h
  dsimp only
  exact ev_iret dX11_kinds_33 rfl rfl
set_option maxHeartbeats 4000000 in
set_option maxRecDepth 20000 in
theorem e_X11_kinds_199 (σ : Mem) (x1 x2 x3 x6 x7 x8 x10 s0 : Int)  {q : ((Int × Int) ⊕ ((Int)))} (h : f_X11_kinds_199 σ x1 x2 x3 x6 x7 x8 x10 s0 = some q) {r : Option V × Mem × Mem} (K : K_X11_kinds_122 σ x1 x2 x3 x6 x7 x8 r q) : Ev M_X11_kinds 218 218 r 199 218 rho σ [(2, (181 : Int)), (0, x1), (0, x2), (0, x3), (9, 0), (9, 0), (0, x6), (0, x7), (1, x8), (9, 0), (0, x10), (9, 0)] [(0, s0)] := by
  unfold f_X11_kinds_199 at h
  refine ev_istore dX11_kinds_199 rfl (by decide) ?_
  show Ev _ _ _ _ 201 _ _ _ [(2, (181 : Int)), (0, x1), (0, x2), (0, x3), (9, 0), (0, s0), (0, x6), (0, x7), (1, x8), (9, 0), (0, x10), (9, 0)] _
  refine ev_iincG dX11_kinds_201 rfl h rfl (fun v25 h => ?_)
  show Ev _ _ _ _ 204 _ _ _ [(2, (181 : Int)), (0, x1), (0, x2), (0, x3), (9, 0), (0, s0), (0, x6), (0, x7), (1, x8), (9, 0), (0, v25), (9, 0)] _
  refine ev_goto (tgt := 122) dX11_kinds_204 rfl ?_
  obtain rfl := Option.some.inj h
  exact ev_sub (L2 := [(2, (181 : Int)), (0, x1), (0, x2), (0, x3), (9, 0), (0, s0), (0, x6), (0, x7), (1, x8), (9, 0), (0, v25), (9, 0)]) K ⟨.inr rfl, .inr rfl, .inr rfl, .inr rfl, .inl rfl, .inr rfl, .inr rfl, .inr rfl, .inr rfl, .inl rfl, .inr rfl, .inl rfl, trivial⟩
set_option maxHeartbeats 4000000 in
set_option maxRecDepth 20000 in
theorem e_X11_kinds_178 (σ : Mem) (x1 x2 x3 x5 x6 x7 x8 x10 s0 : Int)  {q : ((Int × Int) ⊕ ((Int)))} (h : f_X11_kinds_178 σ x1 x2 x3 x5 x6 x7 x8 x10 s0 = some q) {r : Option V × Mem × Mem} (K : K_X11_kinds_122 σ x1 x2 x3 x6 x7 x8 r q) : Ev M_X11_kinds 218 218 r 178 218 rho σ [(2, (181 : Int)), (0, x1), (0, x2), (0, x3), (9, 0), (0, x5), (0, x6), (0, x7), (1, x8), (9, 0), (0, x10), (9, 0)] [(0, s0)] := by
  unfold f_X11_kinds_178 at h
  refine ev_istore dX11_kinds_178 rfl (by decide) ?_
  show Ev _ _ _ _ 180 _ _ _ [(2, (181 : Int)), (0, x1), (0, x2), (0, x3), (9, 0), (0, x5), (0, x6), (0, x7), (1, x8), (9, 0), (0, x10), (0, s0)] _
  refine ev_iload dX11_kinds_180 rfl ?_
  refine ev_if_eq (tgt := 190) dX11_kinds_182 rfl h (fun cb h => ?_) (fun cb h => ?_)
  · refine ev_iload dX11_kinds_190 rfl ?_
    refine ev_iconst dX11_kinds_192 (by decide) ?_
    refine ev_iload dX11_kinds_193 rfl ?_
    refine ev_ishl dX11_kinds_195 ?_
    refine ev_iconst dX11_kinds_196 (by decide) ?_
    refine ev_ixor dX11_kinds_197 ?_
    refine ev_iand dX11_kinds_198 ?_
    exact ev_sub (L2 := [(2, (181 : Int)), (0, x1), (0, x2), (0, x3), (9, 0), (9, 0), (0, x6), (0, x7), (1, x8), (9, 0), (0, x10), (9, 0)]) (e_X11_kinds_199 σ x1 x2 x3 x6 x7 x8 x10 (jand x5 (jxor (jshl (1 : Int) x10) (-1 : Int))) h K) ⟨.inr rfl, .inr rfl, .inr rfl, .inr rfl, .inl rfl, .inl rfl, .inr rfl, .inr rfl, .inr rfl, .inl rfl, .inr rfl, .inl rfl, trivial⟩
  refine ev_iload dX11_kinds_185 rfl ?_
  refine ev_goto (tgt := 199) dX11_kinds_187 rfl ?_
  exact ev_sub (L2 := [(2, (181 : Int)), (0, x1), (0, x2), (0, x3), (9, 0), (9, 0), (0, x6), (0, x7), (1, x8), (9, 0), (0, x10), (9, 0)]) (e_X11_kinds_199 σ x1 x2 x3 x6 x7 x8 x10 x5 h K) ⟨.inr rfl, .inr rfl, .inr rfl, .inr rfl, .inl rfl, .inl rfl, .inr rfl, .inr rfl, .inr rfl, .inl rfl, .inr rfl, .inl rfl, trivial⟩
set_option maxHeartbeats 4000000 in
set_option maxRecDepth 20000 in
theorem e_X11_kinds_207 (σ : Mem) (x1 x2 x3 x5 x6 x7 : Int)  {q : ((Int × Int × Int) ⊕ ((Int × Int)))} (h : f_X11_kinds_207 σ x1 x2 x3 x5 x6 x7 = some q) {r : Option V × Mem × Mem} (K : K_X11_kinds_66 σ x1 x2 x3 r q) : Ev M_X11_kinds 218 218 r 207 218 rho σ [(2, (181 : Int)), (0, x1), (0, x2), (0, x3), (9, 0), (0, x5), (0, x6), (0, x7), (9, 0), (9, 0), (9, 0), (9, 0)] [] := by
  unfold f_X11_kinds_207 at h
  refine ev_iincG dX11_kinds_207 rfl h rfl (fun v24 h => ?_)
  show Ev _ _ _ _ 210 _ _ _ [(2, (181 : Int)), (0, x1), (0, x2), (0, x3), (9, 0), (0, x5), (0, x6), (0, v24), (9, 0), (9, 0), (9, 0), (9, 0)] _
  refine ev_goto (tgt := 66) dX11_kinds_210 rfl ?_
  obtain rfl := Option.some.inj h
  exact ev_sub (L2 := [(2, (181 : Int)), (0, x1), (0, x2), (0, x3), (9, 0), (0, x5), (0, x6), (0, v24), (9, 0), (9, 0), (9, 0), (9, 0)]) K ⟨.inr rfl, .inr rfl, .inr rfl, .inr rfl, .inl rfl, .inr rfl, .inr rfl, .inr rfl, .inl rfl, .inl rfl, .inl rfl, .inl rfl, trivial⟩
set_option maxHeartbeats 4000000 in
set_option maxRecDepth 20000 in
theorem b_X11_kinds_122 (σ : Mem) (x1 x2 x3 x6 x7 x8 : Int)  {r : Option V × Mem × Mem} : ∀ a x, f_X11_kinds_122B σ x1 x2 x3 x6 x7 x8 a = some x → K_X11_kinds_122 σ x1 x2 x3 x6 x7 x8 r x → K_X11_kinds_122 σ x1 x2 x3 x6 x7 x8 r (.inl a) := by
  intro a x h K
  obtain ⟨x5, x10⟩ := a
  have h : f_X11_kinds_122C σ x1 x2 x3 x6 x7 x8 x5 x10 = some x := h
  unfold f_X11_kinds_122C at h
  show Ev M_X11_kinds 218 218 r 122 218 rho σ [(2, (181 : Int)), (0, x1), (0, x2), (0, x3), (9, 0), (0, x5), (0, x6), (0, x7), (1, x8), (9, 0), (0, x10), (9, 0)] []
  refine ev_iload dX11_kinds_122 rfl ?_
  refine ev_bipush dX11_kinds_124 (by decide) (by decide) ?_
  refine ev_icmp_ge (tgt := 207) dX11_kinds_126 rfl h (fun cb h => ?_) (fun cb h => ?_)
  · obtain rfl := Option.some.inj h
    exact ev_sub (L2 := [(2, (181 : Int)), (0, x1), (0, x2), (0, x3), (9, 0), (0, x5), (0, x6), (0, x7), (9, 0), (9, 0), (9, 0), (9, 0)]) K ⟨.inr rfl, .inr rfl, .inr rfl, .inr rfl, .inl rfl, .inr rfl, .inr rfl, .inr rfl, .inl rfl, .inl rfl, .inl rfl, .inl rfl, trivial⟩
  refine ev_iload dX11_kinds_129 rfl ?_
  refine ev_if_eq (tgt := 207) dX11_kinds_131 rfl h (fun cb h => ?_) (fun cb h => ?_)
  · obtain rfl := Option.some.inj h
    exact ev_sub (L2 := [(2, (181 : Int)), (0, x1), (0, x2), (0, x3), (9, 0), (0, x5), (0, x6), (0, x7), (9, 0), (9, 0), (9, 0), (9, 0)]) K ⟨.inr rfl, .inr rfl, .inr rfl, .inr rfl, .inl rfl, .inr rfl, .inr rfl, .inr rfl, .inl rfl, .inl rfl, .inl rfl, .inl rfl, trivial⟩
  refine ev_iload dX11_kinds_134 rfl ?_
  refine ev_aload_n dX11_kinds_136 rfl (by decide) ?_
  refine ev_iload_n dX11_kinds_137 rfl ?_
  refine ev_iconst dX11_kinds_138 (by decide) ?_
  obtain ⟨v18, hc19, h⟩ := bind_of h
  refine ev_invV_v (k := (181 : Int)) (av := [(0, x1), (0, (1 : Int))]) (st := [(0, x10)]) (v := (0, v18)) (τ := σ) dX11_kinds_139 ml_X11_128 mv_X11_who (T := TX11) (ci := 10) rfl sp181 (by decide) (by decide) rfl ⟨Nat.le_of_ble_eq_true rfl, Nat.le_of_ble_eq_true rfl⟩ (Nat.le_of_ble_eq_true rfl) (c_X11_who hc19) ?_
  refine ev_aload_n dX11_kinds_142 rfl (by decide) ?_
  refine ev_lload dX11_kinds_143 rfl ?_
  refine ev_l2i dX11_kinds_145 ?_
  obtain ⟨v20, hc21, h⟩ := bind_of h
  refine ev_invV_v (k := (181 : Int)) (av := [(0, (lj x8))]) (st := [(0, v18), (0, x10)]) (v := (0, v20)) (τ := σ) dX11_kinds_146 ml_X11_132 mv_X11_length (T := TX11) (ci := 10) rfl sp181 (by decide) (by decide) rfl ⟨Nat.le_of_ble_eq_true rfl, Nat.le_of_ble_eq_true rfl⟩ (Nat.le_of_ble_eq_true rfl) (c_X11_length hc21) ?_
  obtain ⟨v22, hc23, h⟩ := bind_of h
  refine ev_invS_v (av := [(0, x10), (0, v18), (0, v20)]) (st := []) (v := (0, v22)) (τ := σ) dX11_kinds_149 ml_X11_136 mt_X11_timeOf rfl ⟨Nat.le_of_ble_eq_true rfl, Nat.le_of_ble_eq_true rfl⟩ (Nat.le_of_ble_eq_true rfl) (c_X11_timeOf hc23) ?_
  refine ev_i2lk dX11_kinds_152 ?_
  show Ev _ _ _ _ 153 _ _ _ _ _
  refine ev_aload_n dX11_kinds_153 rfl (by decide) ?_
  refine ev_getf (j := 6) (t := 2) (x := (187 : Int)) dX11_kinds_154 cf_X11 wf_X11_25 sp181 (by decide) (by decide) rfl (by decide) (rp181_6 _) ?_
  refine ev_bipush dX11_kinds_157 (by decide) (by decide) ?_
  refine ev_iload_n dX11_kinds_159 rfl ?_
  refine ev_imul dX11_kinds_160 ?_
  refine ev_iconst dX11_kinds_161 (by decide) ?_
  refine ev_iload dX11_kinds_162 rfl ?_
  refine ev_imul dX11_kinds_164 ?_
  refine ev_iadd dX11_kinds_165 ?_
  refine ev_iconst dX11_kinds_166 (by decide) ?_
  refine ev_iadd dX11_kinds_167 ?_
  refine ev_lald dX11_kinds_168 sp187 (by decide) (by decide) h (fun h => ?_)
  show Ev _ _ _ _ 169 _ _ _ _ _
  refine ev_lc_ne (tgt := 177) dX11_kinds_169 dX11_kinds_170 rfl h (fun cb h => ?_) (fun cb h => ?_)
  · refine ev_iconst dX11_kinds_177 (by decide) ?_
    exact ev_sub (L2 := [(2, (181 : Int)), (0, x1), (0, x2), (0, x3), (9, 0), (0, x5), (0, x6), (0, x7), (1, x8), (9, 0), (0, x10), (9, 0)]) (e_X11_kinds_178 σ x1 x2 x3 x5 x6 x7 x8 x10 (0 : Int) h K) ⟨.inr rfl, .inr rfl, .inr rfl, .inr rfl, .inl rfl, .inr rfl, .inr rfl, .inr rfl, .inr rfl, .inl rfl, .inr rfl, .inl rfl, trivial⟩
  refine ev_iconst dX11_kinds_173 (by decide) ?_
  refine ev_goto (tgt := 178) dX11_kinds_174 rfl ?_
  exact ev_sub (L2 := [(2, (181 : Int)), (0, x1), (0, x2), (0, x3), (9, 0), (0, x5), (0, x6), (0, x7), (1, x8), (9, 0), (0, x10), (9, 0)]) (e_X11_kinds_178 σ x1 x2 x3 x5 x6 x7 x8 x10 (1 : Int) h K) ⟨.inr rfl, .inr rfl, .inr rfl, .inr rfl, .inl rfl, .inr rfl, .inr rfl, .inr rfl, .inr rfl, .inl rfl, .inr rfl, .inl rfl, trivial⟩
set_option maxHeartbeats 4000000 in
set_option maxRecDepth 20000 in
theorem e_X11_kinds_122 (σ : Mem) (x1 x2 x3 x5 x6 x7 x8 x10 : Int)  {q : ((Int × Int × Int) ⊕ ((Int × Int)))} (h : f_X11_kinds_122 σ x1 x2 x3 x5 x6 x7 x8 x10 = some q) {r : Option V × Mem × Mem} (K : K_X11_kinds_66 σ x1 x2 x3 r q) : Ev M_X11_kinds 218 218 r 122 218 rho σ [(2, (181 : Int)), (0, x1), (0, x2), (0, x3), (9, 0), (0, x5), (0, x6), (0, x7), (1, x8), (9, 0), (0, x10), (9, 0)] [] := by
  unfold f_X11_kinds_122 at h
  obtain ⟨e, hl, h⟩ := bind_of h
  refine loop_ev (K := K_X11_kinds_122 σ x1 x2 x3 x6 x7 x8 r) (b_X11_kinds_122 σ x1 x2 x3 x6 x7 x8) FU (x5, x10) e hl ?_
  show Ev M_X11_kinds 218 218 r 207 218 rho σ [(2, (181 : Int)), (0, x1), (0, x2), (0, x3), (9, 0), (0, e), (0, x6), (0, x7), (9, 0), (9, 0), (9, 0), (9, 0)] []
  replace h : f_X11_kinds_207 σ x1 x2 x3 e x6 x7 = some q := h
  exact ev_sub (L2 := [(2, (181 : Int)), (0, x1), (0, x2), (0, x3), (9, 0), (0, e), (0, x6), (0, x7), (9, 0), (9, 0), (9, 0), (9, 0)]) (e_X11_kinds_207 σ x1 x2 x3 e x6 x7 h K) ⟨.inr rfl, .inr rfl, .inr rfl, .inr rfl, .inl rfl, .inr rfl, .inr rfl, .inr rfl, .inl rfl, .inl rfl, .inl rfl, .inl rfl, trivial⟩
set_option maxHeartbeats 4000000 in
set_option maxRecDepth 20000 in
theorem e_X11_kinds_117 (σ : Mem) (x1 x2 x3 x5 x7 x8 s0 : Int)  {q : ((Int × Int × Int) ⊕ ((Int × Int)))} (h : f_X11_kinds_117 σ x1 x2 x3 x5 x7 x8 s0 = some q) {r : Option V × Mem × Mem} (K : K_X11_kinds_66 σ x1 x2 x3 r q) : Ev M_X11_kinds 218 218 r 117 218 rho σ [(2, (181 : Int)), (0, x1), (0, x2), (0, x3), (9, 0), (0, x5), (9, 0), (0, x7), (1, x8), (9, 0), (9, 0), (9, 0)] [(0, s0)] := by
  unfold f_X11_kinds_117 at h
  refine ev_istore dX11_kinds_117 rfl (by decide) ?_
  show Ev _ _ _ _ 119 _ _ _ [(2, (181 : Int)), (0, x1), (0, x2), (0, x3), (9, 0), (0, x5), (0, s0), (0, x7), (1, x8), (9, 0), (9, 0), (9, 0)] _
  refine ev_iconst dX11_kinds_119 (by decide) ?_
  refine ev_istore dX11_kinds_120 rfl (by decide) ?_
  show Ev _ _ _ _ 122 _ _ _ [(2, (181 : Int)), (0, x1), (0, x2), (0, x3), (9, 0), (0, x5), (0, s0), (0, x7), (1, x8), (9, 0), (0, (0 : Int)), (9, 0)] _
  exact ev_sub (L2 := [(2, (181 : Int)), (0, x1), (0, x2), (0, x3), (9, 0), (0, x5), (0, s0), (0, x7), (1, x8), (9, 0), (0, (0 : Int)), (9, 0)]) (e_X11_kinds_122 σ x1 x2 x3 x5 s0 x7 x8 (0 : Int) h K) ⟨.inr rfl, .inr rfl, .inr rfl, .inr rfl, .inl rfl, .inr rfl, .inr rfl, .inr rfl, .inr rfl, .inl rfl, .inr rfl, .inl rfl, trivial⟩
set_option maxHeartbeats 4000000 in
set_option maxRecDepth 20000 in
theorem e_X11_kinds_116 (σ : Mem) (x1 x2 x3 x5 x7 x8 : Int)  {q : ((Int × Int × Int) ⊕ ((Int × Int)))} (h : f_X11_kinds_116 σ x1 x2 x3 x5 x7 x8 = some q) {r : Option V × Mem × Mem} (K : K_X11_kinds_66 σ x1 x2 x3 r q) : Ev M_X11_kinds 218 218 r 116 218 rho σ [(2, (181 : Int)), (0, x1), (0, x2), (0, x3), (9, 0), (0, x5), (9, 0), (0, x7), (1, x8), (9, 0), (9, 0), (9, 0)] [] := by
  unfold f_X11_kinds_116 at h
  refine ev_iconst dX11_kinds_116 (by decide) ?_
  exact ev_sub (L2 := [(2, (181 : Int)), (0, x1), (0, x2), (0, x3), (9, 0), (0, x5), (9, 0), (0, x7), (1, x8), (9, 0), (9, 0), (9, 0)]) (e_X11_kinds_117 σ x1 x2 x3 x5 x7 x8 (0 : Int) h K) ⟨.inr rfl, .inr rfl, .inr rfl, .inr rfl, .inl rfl, .inr rfl, .inl rfl, .inr rfl, .inr rfl, .inl rfl, .inl rfl, .inl rfl, trivial⟩
set_option maxHeartbeats 4000000 in
set_option maxRecDepth 20000 in
theorem e_X11_kinds_213 (σ : Mem) (x5 x6 : Int)  {q : (Int × Mem)} (h : f_X11_kinds_213 σ x5 x6 = some q) : Ev M_X11_kinds 218 218 (some (0, q.1), rho, q.2) 213 218 rho σ [(2, (181 : Int)), (9, 0), (9, 0), (9, 0), (9, 0), (0, x5), (0, x6), (9, 0), (9, 0), (9, 0), (9, 0), (9, 0)] [] := by
  unfold f_X11_kinds_213 at h
  refine ev_iload dX11_kinds_213 rfl ?_
  refine ev_if_eq (tgt := 223) dX11_kinds_215 rfl h (fun cb h => ?_) (fun cb h => ?_)
  · refine ev_aload_n dX11_kinds_223 rfl (by decide) ?_
    refine ev_bipush dX11_kinds_224 (by decide) (by decide) ?_
    obtain ⟨v16, hc17, h⟩ := bind_of h
    refine ev_invV_v (k := (181 : Int)) (av := [(0, (-55 : Int))]) (st := []) (v := (0, v16.1)) (τ := v16.2) dX11_kinds_226 ml_X11_151 mv_X11_no (T := TX11) (ci := 10) rfl sp181 (by decide) (by decide) rfl ⟨Nat.le_of_ble_eq_true rfl, Nat.le_of_ble_eq_true rfl⟩ (Nat.le_of_ble_eq_true rfl) (c_X11_no hc17) ?_
    obtain rfl := Option.some.inj h
    dsimp only
    exact ev_iret dX11_kinds_229 rfl rfl
  refine ev_iload dX11_kinds_218 rfl ?_
  refine ev_goto (tgt := 229) dX11_kinds_220 rfl ?_
  obtain rfl := Option.some.inj h
  dsimp only
  exact ev_iret dX11_kinds_229 rfl rfl
set_option maxHeartbeats 4000000 in
set_option maxRecDepth 20000 in
theorem b_X11_kinds_66 (σ : Mem) (x1 x2 x3 : Int)  {r : Option V × Mem × Mem} : ∀ a x, f_X11_kinds_66B σ x1 x2 x3 a = some x → K_X11_kinds_66 σ x1 x2 x3 r x → K_X11_kinds_66 σ x1 x2 x3 r (.inl a) := by
  intro a x h K
  obtain ⟨x5, x6, x7⟩ := a
  have h : f_X11_kinds_66C σ x1 x2 x3 x5 x6 x7 = some x := h
  unfold f_X11_kinds_66C at h
  show Ev M_X11_kinds 218 218 r 66 218 rho σ [(2, (181 : Int)), (0, x1), (0, x2), (0, x3), (9, 0), (0, x5), (0, x6), (0, x7), (9, 0), (9, 0), (9, 0), (9, 0)] []
  refine ev_iload dX11_kinds_66 rfl ?_
  refine ev_iload_n dX11_kinds_68 rfl ?_
  refine ev_icmp_ge (tgt := 213) dX11_kinds_69 rfl h (fun cb h => ?_) (fun cb h => ?_)
  · obtain rfl := Option.some.inj h
    exact ev_sub (L2 := [(2, (181 : Int)), (9, 0), (9, 0), (9, 0), (9, 0), (0, x5), (0, x6), (9, 0), (9, 0), (9, 0), (9, 0), (9, 0)]) K ⟨.inr rfl, .inl rfl, .inl rfl, .inl rfl, .inl rfl, .inr rfl, .inr rfl, .inl rfl, .inl rfl, .inl rfl, .inl rfl, .inl rfl, trivial⟩
  refine ev_aload_n dX11_kinds_72 rfl (by decide) ?_
  refine ev_getf (j := 6) (t := 2) (x := (187 : Int)) dX11_kinds_73 cf_X11 wf_X11_25 sp181 (by decide) (by decide) rfl (by decide) (rp181_6 _) ?_
  refine ev_bipush dX11_kinds_76 (by decide) (by decide) ?_
  refine ev_iload_n dX11_kinds_78 rfl ?_
  refine ev_imul dX11_kinds_79 ?_
  refine ev_iconst dX11_kinds_80 (by decide) ?_
  refine ev_iload dX11_kinds_81 rfl ?_
  refine ev_imul dX11_kinds_83 ?_
  refine ev_iadd dX11_kinds_84 ?_
  refine ev_lald dX11_kinds_85 sp187 (by decide) (by decide) h (fun h => ?_)
  refine ev_lstoreG dX11_kinds_86 h rfl (by decide) (fun v13 h => ?_)
  show Ev _ _ _ _ 88 _ _ _ [(2, (181 : Int)), (0, x1), (0, x2), (0, x3), (9, 0), (0, x5), (0, x6), (0, x7), (1, v13), (9, 0), (9, 0), (9, 0)] _
  show Ev _ _ _ _ 88 _ _ _ _ _
  refine ev_iload dX11_kinds_88 rfl ?_
  refine ev_if_eq (tgt := 116) dX11_kinds_90 rfl h (fun cb h => ?_) (fun cb h => ?_)
  · exact ev_sub (L2 := [(2, (181 : Int)), (0, x1), (0, x2), (0, x3), (9, 0), (0, x5), (9, 0), (0, x7), (1, v13), (9, 0), (9, 0), (9, 0)]) (e_X11_kinds_116 σ x1 x2 x3 x5 x7 v13 h K) ⟨.inr rfl, .inr rfl, .inr rfl, .inr rfl, .inl rfl, .inr rfl, .inl rfl, .inr rfl, .inr rfl, .inl rfl, .inl rfl, .inl rfl, trivial⟩
  refine ev_lload dX11_kinds_93 rfl ?_
  refine ev_lconst (x := (0 : Int)) dX11_kinds_95 (by decide) (by decide) ?_
  refine ev_aload_n dX11_kinds_96 rfl (by decide) ?_
  refine ev_getf (j := 0) (t := 2) (x := (182 : Int)) dX11_kinds_97 cf_X11 wf_X11_7 sp181 (by decide) (by decide) rfl (by decide) (rp181_0 _) ?_
  refine ev_bipush dX11_kinds_100 (by decide) (by decide) ?_
  refine ev_iald dX11_kinds_102 sp182 (by decide) (by decide) h (fun h => ?_)
  refine ev_iconst dX11_kinds_103 (by decide) ?_
  refine ev_isub dX11_kinds_104 ?_
  refine ev_i2lk dX11_kinds_105 ?_
  obtain ⟨v14, hc15, h⟩ := bind_of h
  refine ev_invS_v (av := [(1, v13), (1, (0 : Int)), (1, (jsub (σ (182 : Int) (82 : Int)) (1 : Int)))]) (st := []) (v := (0, v14)) (τ := σ) dX11_kinds_106 ml_X11_120 mt_X11_isIn rfl ⟨Nat.le_of_ble_eq_true rfl, Nat.le_of_ble_eq_true rfl⟩ (Nat.le_of_ble_eq_true rfl) (c_X11_isIn hc15) ?_
  refine ev_if_eq (tgt := 116) dX11_kinds_109 rfl h (fun cb h => ?_) (fun cb h => ?_)
  · exact ev_sub (L2 := [(2, (181 : Int)), (0, x1), (0, x2), (0, x3), (9, 0), (0, x5), (9, 0), (0, x7), (1, v13), (9, 0), (9, 0), (9, 0)]) (e_X11_kinds_116 σ x1 x2 x3 x5 x7 v13 h K) ⟨.inr rfl, .inr rfl, .inr rfl, .inr rfl, .inl rfl, .inr rfl, .inl rfl, .inr rfl, .inr rfl, .inl rfl, .inl rfl, .inl rfl, trivial⟩
  refine ev_iconst dX11_kinds_112 (by decide) ?_
  refine ev_goto (tgt := 117) dX11_kinds_113 rfl ?_
  exact ev_sub (L2 := [(2, (181 : Int)), (0, x1), (0, x2), (0, x3), (9, 0), (0, x5), (9, 0), (0, x7), (1, v13), (9, 0), (9, 0), (9, 0)]) (e_X11_kinds_117 σ x1 x2 x3 x5 x7 v13 (1 : Int) h K) ⟨.inr rfl, .inr rfl, .inr rfl, .inr rfl, .inl rfl, .inr rfl, .inl rfl, .inr rfl, .inr rfl, .inl rfl, .inl rfl, .inl rfl, trivial⟩
set_option maxHeartbeats 4000000 in
set_option maxRecDepth 20000 in
theorem e_X11_kinds_66 (σ : Mem) (x1 x2 x3 x5 x6 x7 : Int)  {q : (Int × Mem)} (h : f_X11_kinds_66 σ x1 x2 x3 x5 x6 x7 = some q) : Ev M_X11_kinds 218 218 (some (0, q.1), rho, q.2) 66 218 rho σ [(2, (181 : Int)), (0, x1), (0, x2), (0, x3), (9, 0), (0, x5), (0, x6), (0, x7), (9, 0), (9, 0), (9, 0), (9, 0)] [] := by
  unfold f_X11_kinds_66 at h
  obtain ⟨e, hl, h⟩ := bind_of h
  refine loop_ev (K := K_X11_kinds_66 σ x1 x2 x3 (some (0, q.1), rho, q.2)) (b_X11_kinds_66 σ x1 x2 x3) FU (x5, x6, x7) e hl ?_
  show Ev M_X11_kinds 218 218 _ 213 218 rho σ [(2, (181 : Int)), (9, 0), (9, 0), (9, 0), (9, 0), (0, e.1), (0, e.2), (9, 0), (9, 0), (9, 0), (9, 0), (9, 0)] []
  replace h : f_X11_kinds_213 σ e.1 e.2 = some q := h
  exact ev_sub (L2 := [(2, (181 : Int)), (9, 0), (9, 0), (9, 0), (9, 0), (0, e.1), (0, e.2), (9, 0), (9, 0), (9, 0), (9, 0), (9, 0)]) (e_X11_kinds_213 σ e.1 e.2 h) ⟨.inr rfl, .inl rfl, .inl rfl, .inl rfl, .inl rfl, .inr rfl, .inr rfl, .inl rfl, .inl rfl, .inl rfl, .inl rfl, .inl rfl, trivial⟩
set_option maxHeartbeats 4000000 in
set_option maxRecDepth 20000 in
theorem c_X11_kinds {σ : Mem} {x1 x2 x3 : Int}  {q : (Int × Mem)} (h : f_X11_kinds σ x1 x2 x3 = some q) : Ms yX11_kinds M_X11_kinds 218 218 [(2, (181 : Int)), (0, x1), (0, x2), (0, x3)] rho σ (some (0, q.1), rho, q.2) := by
  refine Ms.of 8 (by decide +kernel) rfl (fun z => absurd z (by decide)) (fun _ _ _ => trivial) rfl rfl ?_
  unfold f_X11_kinds at h
  show Ev M_X11_kinds 218 218 _ 0 218 rho σ [(2, (181 : Int)), (0, x1), (0, x2), (0, x3), (9, 0), (9, 0), (9, 0), (9, 0), (9, 0), (9, 0), (9, 0), (9, 0)] []
  refine ev_aload_n dX11_kinds_0 rfl (by decide) ?_
  refine ev_iload_n dX11_kinds_1 rfl ?_
  obtain ⟨v1, hc2, h⟩ := bind_of h
  refine ev_invV_v (k := (181 : Int)) (av := [(0, x1)]) (st := []) (v := (0, v1)) (τ := σ) dX11_kinds_2 ml_X11_157 mv_X11_isCand (T := TX11) (ci := 10) rfl sp181 (by decide) (by decide) rfl ⟨Nat.le_of_ble_eq_true rfl, Nat.le_of_ble_eq_true rfl⟩ (Nat.le_of_ble_eq_true rfl) (c_X11_isCand hc2) ?_
  refine ev_if_eq (tgt := 27) dX11_kinds_5 rfl h (fun cb h => ?_) (fun cb h => ?_)
  · exact ev_sub (L2 := [(2, (181 : Int)), (9, 0), (9, 0), (9, 0), (9, 0), (9, 0), (9, 0), (9, 0), (9, 0), (9, 0), (9, 0), (9, 0)]) (e_X11_kinds_27 σ h) ⟨.inr rfl, .inl rfl, .inl rfl, .inl rfl, .inl rfl, .inl rfl, .inl rfl, .inl rfl, .inl rfl, .inl rfl, .inl rfl, .inl rfl, trivial⟩
  refine ev_iload_n dX11_kinds_8 rfl ?_
  obtain ⟨v3, hc4, h⟩ := bind_of h
  refine ev_invS_v (av := [(0, x2)]) (st := []) (v := (0, v3)) (τ := σ) dX11_kinds_9 ml_X11_145 mt_X11_isShelf rfl ⟨Nat.le_of_ble_eq_true rfl, Nat.le_of_ble_eq_true rfl⟩ (Nat.le_of_ble_eq_true rfl) (c_X11_isShelf hc4) ?_
  refine ev_if_eq (tgt := 27) dX11_kinds_12 rfl h (fun cb h => ?_) (fun cb h => ?_)
  · exact ev_sub (L2 := [(2, (181 : Int)), (9, 0), (9, 0), (9, 0), (9, 0), (9, 0), (9, 0), (9, 0), (9, 0), (9, 0), (9, 0), (9, 0)]) (e_X11_kinds_27 σ h) ⟨.inr rfl, .inl rfl, .inl rfl, .inl rfl, .inl rfl, .inl rfl, .inl rfl, .inl rfl, .inl rfl, .inl rfl, .inl rfl, .inl rfl, trivial⟩
  refine ev_iload_n dX11_kinds_15 rfl ?_
  refine ev_i2lk dX11_kinds_16 ?_
  refine ev_lconst (x := (0 : Int)) dX11_kinds_17 (by decide) (by decide) ?_
  refine ev_ldc2 (x := (12 : Int)) dX11_kinds_18 wc_X11_162 (by decide) (by decide) ?_
  obtain ⟨v5, hc6, h⟩ := bind_of h
  refine ev_invS_v (av := [(1, x3), (1, (0 : Int)), (1, (12 : Int))]) (st := []) (v := (0, v5)) (τ := σ) dX11_kinds_21 ml_X11_120 mt_X11_isIn rfl ⟨Nat.le_of_ble_eq_true rfl, Nat.le_of_ble_eq_true rfl⟩ (Nat.le_of_ble_eq_true rfl) (c_X11_isIn hc6) ?_
  refine ev_if_ne (tgt := 34) dX11_kinds_24 rfl h (fun cb h => ?_) (fun cb h => ?_)
  · refine ev_aload_n dX11_kinds_34 rfl (by decide) ?_
    refine ev_iload_n dX11_kinds_35 rfl ?_
    refine ev_iconst dX11_kinds_36 (by decide) ?_
    refine ev_iload_n dX11_kinds_37 rfl ?_
    refine ev_imul dX11_kinds_38 ?_
    obtain ⟨v7, hc8, h⟩ := bind_of h
    refine ev_invV_v (k := (181 : Int)) (av := [(0, x2), (0, (jmul (2 : Int) x3))]) (st := []) (v := (0, v7)) (τ := σ) dX11_kinds_39 ml_X11_365 mv_X11_wrongShelf (T := TX11) (ci := 10) rfl sp181 (by decide) (by decide) rfl ⟨Nat.le_of_ble_eq_true rfl, Nat.le_of_ble_eq_true rfl⟩ (Nat.le_of_ble_eq_true rfl) (c_X11_wrongShelf hc8) ?_
    refine ev_istore dX11_kinds_42 rfl (by decide) ?_
    show Ev _ _ _ _ 44 _ _ _ [(2, (181 : Int)), (0, x1), (0, x2), (0, x3), (0, v7), (9, 0), (9, 0), (9, 0), (9, 0), (9, 0), (9, 0), (9, 0)] _
    refine ev_iload dX11_kinds_44 rfl ?_
    refine ev_if_eq (tgt := 56) dX11_kinds_46 rfl h (fun cb h => ?_) (fun cb h => ?_)
    · refine ev_bipush dX11_kinds_56 (by decide) (by decide) ?_
      refine ev_istore dX11_kinds_58 rfl (by decide) ?_
      show Ev _ _ _ _ 60 _ _ _ [(2, (181 : Int)), (0, x1), (0, x2), (0, x3), (0, v7), (0, (63 : Int)), (9, 0), (9, 0), (9, 0), (9, 0), (9, 0), (9, 0)] _
      refine ev_iconst dX11_kinds_60 (by decide) ?_
      refine ev_istore dX11_kinds_61 rfl (by decide) ?_
      show Ev _ _ _ _ 63 _ _ _ [(2, (181 : Int)), (0, x1), (0, x2), (0, x3), (0, v7), (0, (63 : Int)), (0, (1 : Int)), (9, 0), (9, 0), (9, 0), (9, 0), (9, 0)] _
      refine ev_iconst dX11_kinds_63 (by decide) ?_
      refine ev_istore dX11_kinds_64 rfl (by decide) ?_
      show Ev _ _ _ _ 66 _ _ _ [(2, (181 : Int)), (0, x1), (0, x2), (0, x3), (0, v7), (0, (63 : Int)), (0, (1 : Int)), (0, (0 : Int)), (9, 0), (9, 0), (9, 0), (9, 0)] _
      exact ev_sub (L2 := [(2, (181 : Int)), (0, x1), (0, x2), (0, x3), (9, 0), (0, (63 : Int)), (0, (1 : Int)), (0, (0 : Int)), (9, 0), (9, 0), (9, 0), (9, 0)]) (e_X11_kinds_66 σ x1 x2 x3 (63 : Int) (1 : Int) (0 : Int) h) ⟨.inr rfl, .inr rfl, .inr rfl, .inr rfl, .inl rfl, .inr rfl, .inr rfl, .inr rfl, .inl rfl, .inl rfl, .inl rfl, .inl rfl, trivial⟩
    refine ev_aload_n dX11_kinds_49 rfl (by decide) ?_
    refine ev_iload dX11_kinds_50 rfl ?_
    obtain ⟨v9, hc10, h⟩ := bind_of h
    refine ev_invV_v (k := (181 : Int)) (av := [(0, v7)]) (st := []) (v := (0, v9.1)) (τ := v9.2) dX11_kinds_52 ml_X11_151 mv_X11_no (T := TX11) (ci := 10) rfl sp181 (by decide) (by decide) rfl ⟨Nat.le_of_ble_eq_true rfl, Nat.le_of_ble_eq_true rfl⟩ (Nat.le_of_ble_eq_true rfl) (c_X11_no hc10) ?_
    obtain rfl := Option.some.inj h
    dsimp only
    exact ev_iret dX11_kinds_55 rfl rfl
  exact ev_sub (L2 := [(2, (181 : Int)), (9, 0), (9, 0), (9, 0), (9, 0), (9, 0), (9, 0), (9, 0), (9, 0), (9, 0), (9, 0), (9, 0)]) (e_X11_kinds_27 σ h) ⟨.inr rfl, .inl rfl, .inl rfl, .inl rfl, .inl rfl, .inl rfl, .inl rfl, .inl rfl, .inl rfl, .inl rfl, .inl rfl, .inl rfl, trivial⟩
def K_X11_judge_95 (σ : Mem) (x1 x3 x4 : Int) (r : Option V × Mem × Mem) : (Int × Int × Int × Int) ⊕ ((Int) ⊕ (Int) ⊕ (Unit)) → Prop := Sum.elim (fun a => Ev M_X11_judge 218 218 r 95 218 rho σ [(2, (181 : Int)), (0, x1), (9, 0), (0, x3), (0, x4), (9, 0), (0, a.1), (0, a.2.1), (0, a.2.2.1), (0, a.2.2.2), (9, 0), (9, 0), (9, 0)] []) (Sum.elim (fun e => Ev M_X11_judge 218 218 r 139 218 rho σ [(9, 0), (9, 0), (9, 0), (9, 0), (9, 0), (9, 0), (9, 0), (9, 0), (9, 0), (0, e), (9, 0), (9, 0), (9, 0)] []) (Sum.elim (fun e => Ev M_X11_judge 218 218 r 209 218 rho σ [(9, 0), (9, 0), (9, 0), (9, 0), (9, 0), (9, 0), (9, 0), (9, 0), (9, 0), (0, e), (9, 0), (9, 0), (9, 0)] []) (fun e => Ev M_X11_judge 218 218 r 228 218 rho σ [(9, 0), (9, 0), (9, 0), (9, 0), (9, 0), (9, 0), (9, 0), (9, 0), (9, 0), (9, 0), (9, 0), (9, 0), (9, 0)] [])))
set_option maxHeartbeats 4000000 in
set_option maxRecDepth 20000 in
theorem e_X11_judge_35 (σ : Mem)  {q : (Int × Mem)} (h : f_X11_judge_35 σ  = some q) : Ev M_X11_judge 218 218 (some (0, q.1), rho, q.2) 35 218 rho σ [(2, (181 : Int)), (9, 0), (9, 0), (9, 0), (9, 0), (9, 0), (9, 0), (9, 0), (9, 0), (9, 0), (9, 0), (9, 0), (9, 0)] [] := by
  unfold f_X11_judge_35 at h
  refine ev_aload_n dX11_judge_35 rfl (by decide) ?_
  refine ev_bipush dX11_judge_36 (by decide) (by decide) ?_
  obtain ⟨v19, hc20, h⟩ := bind_of h
  refine ev_invV_v (k := (181 : Int)) (av := [(0, (-52 : Int))]) (st := []) (v := (0, v19.1)) (τ := v19.2) dX11_judge_38 ml_X11_151 mv_X11_no (T := TX11) (ci := 10) rfl sp181 (by decide) (by decide) rfl ⟨Nat.le_of_ble_eq_true rfl, Nat.le_of_ble_eq_true rfl⟩ (Nat.le_of_ble_eq_true rfl) (c_X11_no hc20) ?_
  obtain rfl := Option.some.inj h
  dsimp only
  exact ev_iret dX11_judge_41 rfl rfl
set_option maxHeartbeats 4000000 in
set_option maxRecDepth 20000 in
theorem b_X11_judge_95 (σ : Mem) (x1 x3 x4 : Int)  {r : Option V × Mem × Mem} : ∀ a x, f_X11_judge_95B σ x1 x3 x4 a = some x → K_X11_judge_95 σ x1 x3 x4 r x → K_X11_judge_95 σ x1 x3 x4 r (.inl a) := by
  intro a x h K
  obtain ⟨x6, x7, x8, x9⟩ := a
  have h : f_X11_judge_95C σ x1 x3 x4 x6 x7 x8 x9 = some x := h
  unfold f_X11_judge_95C at h
  show Ev M_X11_judge 218 218 r 95 218 rho σ [(2, (181 : Int)), (0, x1), (9, 0), (0, x3), (0, x4), (9, 0), (0, x6), (0, x7), (0, x8), (0, x9), (9, 0), (9, 0), (9, 0)] []
  refine ev_iload dX11_judge_95 rfl ?_
  refine ev_iload dX11_judge_97 rfl ?_
  refine ev_icmp_ge (tgt := 228) dX11_judge_99 rfl h (fun cb h => ?_) (fun cb h => ?_)
  · obtain rfl := Option.some.inj h
    exact ev_sub (L2 := [(9, 0), (9, 0), (9, 0), (9, 0), (9, 0), (9, 0), (9, 0), (9, 0), (9, 0), (9, 0), (9, 0), (9, 0), (9, 0)]) K ⟨.inl rfl, .inl rfl, .inl rfl, .inl rfl, .inl rfl, .inl rfl, .inl rfl, .inl rfl, .inl rfl, .inl rfl, .inl rfl, .inl rfl, .inl rfl, trivial⟩
  refine ev_aload_n dX11_judge_102 rfl (by decide) ?_
  refine ev_getf (j := 6) (t := 2) (x := (187 : Int)) dX11_judge_103 cf_X11 wf_X11_25 sp181 (by decide) (by decide) rfl (by decide) (rp181_6 _) ?_
  refine ev_bipush dX11_judge_106 (by decide) (by decide) ?_
  refine ev_iload_n dX11_judge_108 rfl ?_
  refine ev_imul dX11_judge_109 ?_
  refine ev_iload dX11_judge_110 rfl ?_
  refine ev_iadd dX11_judge_112 ?_
  refine ev_lald dX11_judge_113 sp187 (by decide) (by decide) h (fun h => ?_)
  refine ev_lstoreG dX11_judge_114 h rfl (by decide) (fun v21 h => ?_)
  show Ev _ _ _ _ 116 _ _ _ [(2, (181 : Int)), (0, x1), (9, 0), (0, x3), (0, x4), (9, 0), (0, x6), (0, x7), (0, x8), (0, x9), (1, v21), (9, 0), (9, 0)] _
  refine ev_lload dX11_judge_116 rfl ?_
  refine ev_lconst (x := (0 : Int)) dX11_judge_118 (by decide) (by decide) ?_
  show Ev _ _ _ _ 119 _ _ _ _ _
  refine ev_ldc2 (x := (11 : Int)) dX11_judge_119 wc_X11_368 (by decide) (by decide) ?_
  obtain ⟨v22, hc23, h⟩ := bind_of h
  refine ev_invS_v (av := [(1, v21), (1, (0 : Int)), (1, (11 : Int))]) (st := []) (v := (0, v22)) (τ := σ) dX11_judge_122 ml_X11_120 mt_X11_isIn rfl ⟨Nat.le_of_ble_eq_true rfl, Nat.le_of_ble_eq_true rfl⟩ (Nat.le_of_ble_eq_true rfl) (c_X11_isIn hc23) ?_
  refine ev_if_eq (tgt := 139) dX11_judge_125 rfl h (fun cb h => ?_) (fun cb h => ?_)
  · obtain rfl := Option.some.inj h
    exact ev_sub (L2 := [(9, 0), (9, 0), (9, 0), (9, 0), (9, 0), (9, 0), (9, 0), (9, 0), (9, 0), (0, x9), (9, 0), (9, 0), (9, 0)]) K ⟨.inl rfl, .inl rfl, .inl rfl, .inl rfl, .inl rfl, .inl rfl, .inl rfl, .inl rfl, .inl rfl, .inr rfl, .inl rfl, .inl rfl, .inl rfl, trivial⟩
  refine ev_iload dX11_judge_128 rfl ?_
  refine ev_lload dX11_judge_130 rfl ?_
  refine ev_l2i dX11_judge_132 ?_
  refine ev_ishr dX11_judge_133 ?_
  refine ev_iconst dX11_judge_134 (by decide) ?_
  refine ev_iand dX11_judge_135 ?_
  refine ev_if_ne (tgt := 142) dX11_judge_136 rfl h (fun cb h => ?_) (fun cb h => ?_)
  · refine ev_iload dX11_judge_142 rfl ?_
    refine ev_iconst dX11_judge_144 (by decide) ?_
    refine ev_lload dX11_judge_145 rfl ?_
    refine ev_l2i dX11_judge_147 ?_
    refine ev_ishl dX11_judge_148 ?_
    refine ev_iconst dX11_judge_149 (by decide) ?_
    refine ev_ixor dX11_judge_150 ?_
    refine ev_iand dX11_judge_151 ?_
    refine ev_istoreG dX11_judge_152 h rfl (by decide) (fun v24 h => ?_)
    show Ev _ _ _ _ 154 _ _ _ [(2, (181 : Int)), (0, x1), (9, 0), (0, x3), (0, x4), (9, 0), (0, v24), (0, x7), (0, x8), (0, x9), (1, v21), (9, 0), (9, 0)] _
    refine ev_iload dX11_judge_154 rfl ?_
    refine ev_aload_n dX11_judge_156 rfl (by decide) ?_
    show Ev _ _ _ _ 157 _ _ _ _ _
    refine ev_lload dX11_judge_157 rfl ?_
    refine ev_l2i dX11_judge_159 ?_
    obtain ⟨v25, hc26, h⟩ := bind_of h
    refine ev_invV_v (k := (181 : Int)) (av := [(0, (lj v21))]) (st := [(0, x7)]) (v := (0, v25)) (τ := σ) dX11_judge_160 ml_X11_255 mv_X11_start (T := TX11) (ci := 10) rfl sp181 (by decide) (by decide) rfl ⟨Nat.le_of_ble_eq_true rfl, Nat.le_of_ble_eq_true rfl⟩ (Nat.le_of_ble_eq_true rfl) (c_X11_start hc26) ?_
    refine ev_mx dX11_judge_163 wa_X11_258 wm_max (by decide) (Nat.le_of_ble_eq_true rfl) ?_
    refine ev_aload_n dX11_judge_166 rfl (by decide) ?_
    refine ev_iload_n dX11_judge_167 rfl ?_
    refine ev_lload dX11_judge_168 rfl ?_
    refine ev_l2i dX11_judge_170 ?_
    obtain ⟨v27, hc28, h⟩ := bind_of h
    refine ev_invV_v (k := (181 : Int)) (av := [(0, x1), (0, (lj v21))]) (st := [(0, (mx x7 v25))]) (v := (0, v27)) (τ := σ) dX11_judge_171 ml_X11_263 mv_X11_timed (T := TX11) (ci := 10) rfl sp181 (by decide) (by decide) rfl ⟨Nat.le_of_ble_eq_true rfl, Nat.le_of_ble_eq_true rfl⟩ (Nat.le_of_ble_eq_true rfl) (c_X11_timed hc28) ?_
    refine ev_iadd dX11_judge_174 ?_
    refine ev_istoreG dX11_judge_175 h rfl (by decide) (fun v29 h => ?_)
    show Ev _ _ _ _ 177 _ _ _ [(2, (181 : Int)), (0, x1), (9, 0), (0, x3), (0, x4), (9, 0), (0, v24), (0, x7), (0, x8), (0, x9), (1, v21), (9, 0), (0, v29)] _
    refine ev_iload dX11_judge_177 rfl ?_
    show Ev _ _ _ _ 179 _ _ _ _ _
    refine ev_aload_n dX11_judge_179 rfl (by decide) ?_
    refine ev_iload_n dX11_judge_180 rfl ?_
    refine ev_lload dX11_judge_181 rfl ?_
    refine ev_l2i dX11_judge_183 ?_
    obtain ⟨v30, hc31, h⟩ := bind_of h
    refine ev_invV_v (k := (181 : Int)) (av := [(0, x1), (0, (lj v21))]) (st := [(0, x8)]) (v := (0, v30)) (τ := σ) dX11_judge_184 ml_X11_263 mv_X11_timed (T := TX11) (ci := 10) rfl sp181 (by decide) (by decide) rfl ⟨Nat.le_of_ble_eq_true rfl, Nat.le_of_ble_eq_true rfl⟩ (Nat.le_of_ble_eq_true rfl) (c_X11_timed hc31) ?_
    refine ev_iadd dX11_judge_187 ?_
    refine ev_istoreG dX11_judge_188 h rfl (by decide) (fun v32 h => ?_)
    show Ev _ _ _ _ 190 _ _ _ [(2, (181 : Int)), (0, x1), (9, 0), (0, x3), (0, x4), (9, 0), (0, v24), (0, x7), (0, v32), (0, x9), (1, v21), (9, 0), (0, v29)] _
    refine ev_iload dX11_judge_190 rfl ?_
    refine ev_bipush dX11_judge_192 (by decide) (by decide) ?_
    refine ev_icmp_gt (tgt := 209) dX11_judge_194 rfl h (fun cb h => ?_) (fun cb h => ?_)
    · obtain rfl := Option.some.inj h
      exact ev_sub (L2 := [(9, 0), (9, 0), (9, 0), (9, 0), (9, 0), (9, 0), (9, 0), (9, 0), (9, 0), (0, x9), (9, 0), (9, 0), (9, 0)]) K ⟨.inl rfl, .inl rfl, .inl rfl, .inl rfl, .inl rfl, .inl rfl, .inl rfl, .inl rfl, .inl rfl, .inr rfl, .inl rfl, .inl rfl, .inl rfl, trivial⟩
    refine ev_iload dX11_judge_197 rfl ?_
    refine ev_aload_n dX11_judge_199 rfl (by decide) ?_
    refine ev_getf (j := 0) (t := 2) (x := (182 : Int)) dX11_judge_200 cf_X11 wf_X11_7 sp181 (by decide) (by decide) rfl (by decide) (rp181_0 _) ?_
    refine ev_bipush dX11_judge_203 (by decide) (by decide) ?_
    refine ev_iald dX11_judge_205 sp182 (by decide) (by decide) h (fun h => ?_)
    refine ev_icmp_le (tgt := 212) dX11_judge_206 rfl h (fun cb h => ?_) (fun cb h => ?_)
    · refine ev_iload dX11_judge_212 rfl ?_
      refine ev_aload_n dX11_judge_214 rfl (by decide) ?_
      refine ev_iload_n dX11_judge_215 rfl ?_
      obtain ⟨v33, hc34, h⟩ := bind_of h
      refine ev_invV_v (k := (181 : Int)) (av := [(0, x1)]) (st := [(0, v29)]) (v := (0, v33)) (τ := σ) dX11_judge_216 ml_X11_252 mv_X11_rest (T := TX11) (ci := 10) rfl sp181 (by decide) (by decide) rfl ⟨Nat.le_of_ble_eq_true rfl, Nat.le_of_ble_eq_true rfl⟩ (Nat.le_of_ble_eq_true rfl) (c_X11_rest hc34) ?_
      refine ev_iadd dX11_judge_219 ?_
      refine ev_istoreG dX11_judge_220 h rfl (by decide) (fun v35 h => ?_)
      show Ev _ _ _ _ 222 _ _ _ [(2, (181 : Int)), (0, x1), (9, 0), (0, x3), (0, x4), (9, 0), (0, v24), (0, v35), (0, v32), (0, x9), (1, v21), (9, 0), (0, v29)] _
      refine ev_iincG dX11_judge_222 rfl h rfl (fun v36 h => ?_)
      show Ev _ _ _ _ 225 _ _ _ [(2, (181 : Int)), (0, x1), (9, 0), (0, x3), (0, x4), (9, 0), (0, v24), (0, v35), (0, v32), (0, v36), (1, v21), (9, 0), (0, v29)] _
      refine ev_goto (tgt := 95) dX11_judge_225 rfl ?_
      obtain rfl := Option.some.inj h
      exact ev_sub (L2 := [(2, (181 : Int)), (0, x1), (9, 0), (0, x3), (0, x4), (9, 0), (0, v24), (0, v35), (0, v32), (0, v36), (9, 0), (9, 0), (9, 0)]) K ⟨.inr rfl, .inr rfl, .inl rfl, .inr rfl, .inr rfl, .inl rfl, .inr rfl, .inr rfl, .inr rfl, .inr rfl, .inl rfl, .inl rfl, .inl rfl, trivial⟩
    obtain rfl := Option.some.inj h
    exact ev_sub (L2 := [(9, 0), (9, 0), (9, 0), (9, 0), (9, 0), (9, 0), (9, 0), (9, 0), (9, 0), (0, x9), (9, 0), (9, 0), (9, 0)]) K ⟨.inl rfl, .inl rfl, .inl rfl, .inl rfl, .inl rfl, .inl rfl, .inl rfl, .inl rfl, .inl rfl, .inr rfl, .inl rfl, .inl rfl, .inl rfl, trivial⟩
  obtain rfl := Option.some.inj h
  exact ev_sub (L2 := [(9, 0), (9, 0), (9, 0), (9, 0), (9, 0), (9, 0), (9, 0), (9, 0), (9, 0), (0, x9), (9, 0), (9, 0), (9, 0)]) K ⟨.inl rfl, .inl rfl, .inl rfl, .inl rfl, .inl rfl, .inl rfl, .inl rfl, .inl rfl, .inl rfl, .inr rfl, .inl rfl, .inl rfl, .inl rfl, trivial⟩
set_option maxHeartbeats 4000000 in
set_option maxRecDepth 20000 in
theorem e_X11_judge_95 (σ : Mem) (x1 x3 x4 x6 x7 x8 x9 : Int)  {q : (Int × Mem)} (h : f_X11_judge_95 σ x1 x3 x4 x6 x7 x8 x9 = some q) : Ev M_X11_judge 218 218 (some (0, q.1), rho, q.2) 95 218 rho σ [(2, (181 : Int)), (0, x1), (9, 0), (0, x3), (0, x4), (9, 0), (0, x6), (0, x7), (0, x8), (0, x9), (9, 0), (9, 0), (9, 0)] [] := by
  unfold f_X11_judge_95 at h
  obtain ⟨e, hl, h⟩ := bind_of h
  refine loop_ev (K := K_X11_judge_95 σ x1 x3 x4 (some (0, q.1), rho, q.2)) (b_X11_judge_95 σ x1 x3 x4) FU (x6, x7, x8, x9) e hl ?_
  rcases e with e | e
  · show Ev M_X11_judge 218 218 _ 139 218 rho σ [(9, 0), (9, 0), (9, 0), (9, 0), (9, 0), (9, 0), (9, 0), (9, 0), (9, 0), (0, e), (9, 0), (9, 0), (9, 0)] []
    replace h : some (e, σ) = some q := h
    refine ev_iload dX11_judge_139 rfl ?_
    obtain rfl := Option.some.inj h
    dsimp only
    exact ev_iret dX11_judge_141 rfl rfl
  rcases e with e | e
  · show Ev M_X11_judge 218 218 _ 209 218 rho σ [(9, 0), (9, 0), (9, 0), (9, 0), (9, 0), (9, 0), (9, 0), (9, 0), (9, 0), (0, e), (9, 0), (9, 0), (9, 0)] []
    replace h : some (e, σ) = some q := h
    refine ev_iload dX11_judge_209 rfl ?_
    obtain rfl := Option.some.inj h
    dsimp only
    exact ev_iret dX11_judge_211 rfl rfl
  · show Ev M_X11_judge 218 218 _ 228 218 rho σ [(9, 0), (9, 0), (9, 0), (9, 0), (9, 0), (9, 0), (9, 0), (9, 0), (9, 0), (9, 0), (9, 0), (9, 0), (9, 0)] []
    replace h : some ((-1 : Int), σ) = some q := h
    refine ev_iconst dX11_judge_228 (by decide) ?_
    obtain rfl := Option.some.inj h
    dsimp only
    exact ev_iret dX11_judge_229 rfl rfl
set_option maxHeartbeats 4000000 in
set_option maxRecDepth 20000 in
theorem c_X11_judge {σ : Mem} {x1 x2 x3 x4 : Int}  {q : (Int × Mem)} (h : f_X11_judge σ x1 x2 x3 x4 = some q) : Ms yX11_judge M_X11_judge 218 218 [(2, (181 : Int)), (0, x1), (0, x2), (0, x3), (0, x4)] rho σ (some (0, q.1), rho, q.2) := by
  refine Ms.of 8 (by decide +kernel) rfl (fun z => absurd z (by decide)) (fun _ _ _ => trivial) rfl rfl ?_
  unfold f_X11_judge at h
  show Ev M_X11_judge 218 218 _ 0 218 rho σ [(2, (181 : Int)), (0, x1), (0, x2), (0, x3), (0, x4), (9, 0), (9, 0), (9, 0), (9, 0), (9, 0), (9, 0), (9, 0), (9, 0)] []
  refine ev_aload_n dX11_judge_0 rfl (by decide) ?_
  refine ev_iload_n dX11_judge_1 rfl ?_
  obtain ⟨v1, hc2, h⟩ := bind_of h
  refine ev_invV_v (k := (181 : Int)) (av := [(0, x1)]) (st := []) (v := (0, v1)) (τ := σ) dX11_judge_2 ml_X11_157 mv_X11_isCand (T := TX11) (ci := 10) rfl sp181 (by decide) (by decide) rfl ⟨Nat.le_of_ble_eq_true rfl, Nat.le_of_ble_eq_true rfl⟩ (Nat.le_of_ble_eq_true rfl) (c_X11_isCand hc2) ?_
  refine ev_if_eq (tgt := 35) dX11_judge_5 rfl h (fun cb h => ?_) (fun cb h => ?_)
  · exact ev_sub (L2 := [(2, (181 : Int)), (9, 0), (9, 0), (9, 0), (9, 0), (9, 0), (9, 0), (9, 0), (9, 0), (9, 0), (9, 0), (9, 0), (9, 0)]) (e_X11_judge_35 σ h) ⟨.inr rfl, .inl rfl, .inl rfl, .inl rfl, .inl rfl, .inl rfl, .inl rfl, .inl rfl, .inl rfl, .inl rfl, .inl rfl, .inl rfl, .inl rfl, trivial⟩
  refine ev_iload_n dX11_judge_8 rfl ?_
  obtain ⟨v3, hc4, h⟩ := bind_of h
  refine ev_invS_v (av := [(0, x2)]) (st := []) (v := (0, v3)) (τ := σ) dX11_judge_9 ml_X11_168 mt_X11_isDay rfl ⟨Nat.le_of_ble_eq_true rfl, Nat.le_of_ble_eq_true rfl⟩ (Nat.le_of_ble_eq_true rfl) (c_X11_isDay hc4) ?_
  refine ev_if_eq (tgt := 35) dX11_judge_12 rfl h (fun cb h => ?_) (fun cb h => ?_)
  · exact ev_sub (L2 := [(2, (181 : Int)), (9, 0), (9, 0), (9, 0), (9, 0), (9, 0), (9, 0), (9, 0), (9, 0), (9, 0), (9, 0), (9, 0), (9, 0)]) (e_X11_judge_35 σ h) ⟨.inr rfl, .inl rfl, .inl rfl, .inl rfl, .inl rfl, .inl rfl, .inl rfl, .inl rfl, .inl rfl, .inl rfl, .inl rfl, .inl rfl, .inl rfl, trivial⟩
  refine ev_iload_n dX11_judge_15 rfl ?_
  obtain ⟨v5, hc6, h⟩ := bind_of h
  refine ev_invS_v (av := [(0, x3)]) (st := []) (v := (0, v5)) (τ := σ) dX11_judge_16 ml_X11_145 mt_X11_isShelf rfl ⟨Nat.le_of_ble_eq_true rfl, Nat.le_of_ble_eq_true rfl⟩ (Nat.le_of_ble_eq_true rfl) (c_X11_isShelf hc6) ?_
  refine ev_if_eq (tgt := 35) dX11_judge_19 rfl h (fun cb h => ?_) (fun cb h => ?_)
  · exact ev_sub (L2 := [(2, (181 : Int)), (9, 0), (9, 0), (9, 0), (9, 0), (9, 0), (9, 0), (9, 0), (9, 0), (9, 0), (9, 0), (9, 0), (9, 0)]) (e_X11_judge_35 σ h) ⟨.inr rfl, .inl rfl, .inl rfl, .inl rfl, .inl rfl, .inl rfl, .inl rfl, .inl rfl, .inl rfl, .inl rfl, .inl rfl, .inl rfl, .inl rfl, trivial⟩
  refine ev_iload dX11_judge_22 rfl ?_
  refine ev_i2lk dX11_judge_24 ?_
  refine ev_lconst (x := (0 : Int)) dX11_judge_25 (by decide) (by decide) ?_
  refine ev_ldc2 (x := (12 : Int)) dX11_judge_26 wc_X11_162 (by decide) (by decide) ?_
  obtain ⟨v7, hc8, h⟩ := bind_of h
  refine ev_invS_v (av := [(1, x4), (1, (0 : Int)), (1, (12 : Int))]) (st := []) (v := (0, v7)) (τ := σ) dX11_judge_29 ml_X11_120 mt_X11_isIn rfl ⟨Nat.le_of_ble_eq_true rfl, Nat.le_of_ble_eq_true rfl⟩ (Nat.le_of_ble_eq_true rfl) (c_X11_isIn hc8) ?_
  refine ev_if_ne (tgt := 42) dX11_judge_32 rfl h (fun cb h => ?_) (fun cb h => ?_)
  · refine ev_aload_n dX11_judge_42 rfl (by decide) ?_
    refine ev_iload_n dX11_judge_43 rfl ?_
    refine ev_iload dX11_judge_44 rfl ?_
    obtain ⟨v9, hc10, h⟩ := bind_of h
    refine ev_invV_v (k := (181 : Int)) (av := [(0, x3), (0, x4)]) (st := []) (v := (0, v9)) (τ := σ) dX11_judge_46 ml_X11_365 mv_X11_wrongShelf (T := TX11) (ci := 10) rfl sp181 (by decide) (by decide) rfl ⟨Nat.le_of_ble_eq_true rfl, Nat.le_of_ble_eq_true rfl⟩ (Nat.le_of_ble_eq_true rfl) (c_X11_wrongShelf hc10) ?_
    refine ev_istore dX11_judge_49 rfl (by decide) ?_
    show Ev _ _ _ _ 51 _ _ _ [(2, (181 : Int)), (0, x1), (0, x2), (0, x3), (0, x4), (0, v9), (9, 0), (9, 0), (9, 0), (9, 0), (9, 0), (9, 0), (9, 0)] _
    refine ev_iload dX11_judge_51 rfl ?_
    refine ev_if_eq (tgt := 63) dX11_judge_53 rfl h (fun cb h => ?_) (fun cb h => ?_)
    · refine ev_aload_n dX11_judge_63 rfl (by decide) ?_
      refine ev_iload_n dX11_judge_64 rfl ?_
      obtain ⟨σ11, hc12, h⟩ := bind_of h
      refine ev_invV_n (k := (181 : Int)) (av := [(0, x1)]) (st := []) (τ := σ11) dX11_judge_65 ml_X11_290 mv_X11_plans (T := TX11) (ci := 10) rfl sp181 (by decide) (by decide) rfl ⟨Nat.le_of_ble_eq_true rfl, Nat.le_of_ble_eq_true rfl⟩ (Nat.le_of_ble_eq_true rfl) (c_X11_plans hc12) ?_
      refine ev_aload_n dX11_judge_68 rfl (by decide) ?_
      refine ev_iload_n dX11_judge_69 rfl ?_
      refine ev_iload_n dX11_judge_70 rfl ?_
      obtain ⟨v13, hc14, h⟩ := bind_of h
      refine ev_invV_v (k := (181 : Int)) (av := [(0, x1), (0, x2)]) (st := []) (v := (0, v13)) (τ := σ11) dX11_judge_71 ml_X11_188 mv_X11_ofDay (T := TX11) (ci := 10) rfl sp181 (by decide) (by decide) rfl ⟨Nat.le_of_ble_eq_true rfl, Nat.le_of_ble_eq_true rfl⟩ (Nat.le_of_ble_eq_true rfl) (c_X11_ofDay hc14) ?_
      refine ev_istore dX11_judge_74 rfl (by decide) ?_
      show Ev _ _ _ _ 76 _ _ _ [(2, (181 : Int)), (0, x1), (0, x2), (0, x3), (0, x4), (0, v9), (0, v13), (9, 0), (9, 0), (9, 0), (9, 0), (9, 0), (9, 0)] _
      refine ev_aload_n dX11_judge_76 rfl (by decide) ?_
      refine ev_getf (j := 22) (t := 2) (x := (198 : Int)) dX11_judge_77 cf_X11 wf_X11_60 sp181 (by decide) (by decide) rfl (by decide) (rp181_22 _) ?_
      refine ev_iload_n dX11_judge_80 rfl ?_
      show Ev _ _ _ _ 81 _ _ _ _ _
      refine ev_iald dX11_judge_81 sp198 (by decide) (by decide) h (fun h => ?_)
      refine ev_istoreG dX11_judge_82 h rfl (by decide) (fun v15 h => ?_)
      show Ev _ _ _ _ 84 _ _ _ [(2, (181 : Int)), (0, x1), (0, x2), (0, x3), (0, x4), (0, v9), (0, v13), (0, v15), (9, 0), (9, 0), (9, 0), (9, 0), (9, 0)] _
      refine ev_aload_n dX11_judge_84 rfl (by decide) ?_
      refine ev_getf (j := 23) (t := 2) (x := (199 : Int)) dX11_judge_85 cf_X11 wf_X11_63 sp181 (by decide) (by decide) rfl (by decide) (rp181_23 _) ?_
      refine ev_iload_n dX11_judge_88 rfl ?_
      refine ev_iald dX11_judge_89 sp199 (by decide) (by decide) h (fun h => ?_)
      refine ev_istoreG dX11_judge_90 h rfl (by decide) (fun v16 h => ?_)
      show Ev _ _ _ _ 92 _ _ _ [(2, (181 : Int)), (0, x1), (0, x2), (0, x3), (0, x4), (0, v9), (0, v13), (0, v15), (0, v16), (9, 0), (9, 0), (9, 0), (9, 0)] _
      refine ev_iconst dX11_judge_92 (by decide) ?_
      refine ev_istore dX11_judge_93 rfl (by decide) ?_
      show Ev _ _ _ _ 95 _ _ _ [(2, (181 : Int)), (0, x1), (0, x2), (0, x3), (0, x4), (0, v9), (0, v13), (0, v15), (0, v16), (0, (0 : Int)), (9, 0), (9, 0), (9, 0)] _
      exact ev_sub (L2 := [(2, (181 : Int)), (0, x1), (9, 0), (0, x3), (0, x4), (9, 0), (0, v13), (0, v15), (0, v16), (0, (0 : Int)), (9, 0), (9, 0), (9, 0)]) (e_X11_judge_95 σ11 x1 x3 x4 v13 v15 v16 (0 : Int) h) ⟨.inr rfl, .inr rfl, .inl rfl, .inr rfl, .inr rfl, .inl rfl, .inr rfl, .inr rfl, .inr rfl, .inr rfl, .inl rfl, .inl rfl, .inl rfl, trivial⟩
    refine ev_aload_n dX11_judge_56 rfl (by decide) ?_
    refine ev_iload dX11_judge_57 rfl ?_
    obtain ⟨v17, hc18, h⟩ := bind_of h
    refine ev_invV_v (k := (181 : Int)) (av := [(0, v9)]) (st := []) (v := (0, v17.1)) (τ := v17.2) dX11_judge_59 ml_X11_151 mv_X11_no (T := TX11) (ci := 10) rfl sp181 (by decide) (by decide) rfl ⟨Nat.le_of_ble_eq_true rfl, Nat.le_of_ble_eq_true rfl⟩ (Nat.le_of_ble_eq_true rfl) (c_X11_no hc18) ?_
    obtain rfl := Option.some.inj h
    dsimp only
    exact ev_iret dX11_judge_62 rfl rfl
  exact ev_sub (L2 := [(2, (181 : Int)), (9, 0), (9, 0), (9, 0), (9, 0), (9, 0), (9, 0), (9, 0), (9, 0), (9, 0), (9, 0), (9, 0), (9, 0)]) (e_X11_judge_35 σ h) ⟨.inr rfl, .inl rfl, .inl rfl, .inl rfl, .inl rfl, .inl rfl, .inl rfl, .inl rfl, .inl rfl, .inl rfl, .inl rfl, .inl rfl, .inl rfl, trivial⟩
def K_X11_together_35 (x1 x2 x3 : Int) (r : Option V × Mem × Mem) : (Int × Int × Mem) ⊕ ((Int × Mem)) → Prop := Sum.elim (fun a => Ev M_X11_together 218 218 r 35 218 rho a.2.2 [(2, (181 : Int)), (0, x1), (0, x2), (0, x3), (0, a.1), (0, a.2.1)] []) (fun e => Ev M_X11_together 218 218 r 84 218 rho e.2 [(9, 0), (9, 0), (9, 0), (9, 0), (0, e.1), (9, 0)] [])
set_option maxHeartbeats 4000000 in
set_option maxRecDepth 20000 in
theorem e_X11_together_22 (σ : Mem)  {q : (Int × Mem)} (h : f_X11_together_22 σ  = some q) : Ev M_X11_together 218 218 (some (0, q.1), rho, q.2) 22 218 rho σ [(2, (181 : Int)), (9, 0), (9, 0), (9, 0), (9, 0), (9, 0)] [] := by
  unfold f_X11_together_22 at h
  refine ev_aload_n dX11_together_22 rfl (by decide) ?_
  refine ev_bipush dX11_together_23 (by decide) (by decide) ?_
  obtain ⟨v7, hc8, h⟩ := bind_of h
  refine ev_invV_v (k := (181 : Int)) (av := [(0, (-52 : Int))]) (st := []) (v := (0, v7.1)) (τ := v7.2) dX11_together_25 ml_X11_151 mv_X11_no (T := TX11) (ci := 10) rfl sp181 (by decide) (by decide) rfl ⟨Nat.le_of_ble_eq_true rfl, Nat.le_of_ble_eq_true rfl⟩ (Nat.le_of_ble_eq_true rfl) (c_X11_no hc8) ?_
  obtain rfl := Option.some.inj h
  dsimp only
  exact ev_iret dX11_together_28 rfl rfl
set_option maxHeartbeats 4000000 in
set_option maxRecDepth 20000 in
theorem e_X11_together_75 (σ : Mem) (x1 x2 x3 x5 s1 s0 : Int)  {q : ((Int × Int × Mem) ⊕ ((Int × Mem)))} (h : f_X11_together_75 σ x1 x2 x3 x5 s1 s0 = some q) {r : Option V × Mem × Mem} (K : K_X11_together_35 x1 x2 x3 r q) : Ev M_X11_together 218 218 r 75 218 rho σ [(2, (181 : Int)), (0, x1), (0, x2), (0, x3), (9, 0), (0, x5)] [(0, s1), (0, s0)] := by
  unfold f_X11_together_75 at h
  refine ev_ior dX11_together_75 ?_
  refine ev_istoreG dX11_together_76 h rfl (by decide) (fun v13 h => ?_)
  show Ev _ _ _ _ 78 _ _ _ [(2, (181 : Int)), (0, x1), (0, x2), (0, x3), (0, v13), (0, x5)] _
  refine ev_iincG dX11_together_78 rfl h rfl (fun v14 h => ?_)
  show Ev _ _ _ _ 81 _ _ _ [(2, (181 : Int)), (0, x1), (0, x2), (0, x3), (0, v13), (0, v14)] _
  refine ev_goto (tgt := 35) dX11_together_81 rfl ?_
  obtain rfl := Option.some.inj h
  exact ev_sub (L2 := [(2, (181 : Int)), (0, x1), (0, x2), (0, x3), (0, v13), (0, v14)]) K ⟨.inr rfl, .inr rfl, .inr rfl, .inr rfl, .inr rfl, .inr rfl, trivial⟩
set_option maxHeartbeats 4000000 in
set_option maxRecDepth 20000 in
theorem b_X11_together_35 (x1 x2 x3 : Int)  {r : Option V × Mem × Mem} : ∀ a x, f_X11_together_35B x1 x2 x3 a = some x → K_X11_together_35 x1 x2 x3 r x → K_X11_together_35 x1 x2 x3 r (.inl a) := by
  intro a x h K
  obtain ⟨x4, x5, σ⟩ := a
  have h : f_X11_together_35C x1 x2 x3 x4 x5 σ = some x := h
  unfold f_X11_together_35C at h
  show Ev M_X11_together 218 218 r 35 218 rho σ [(2, (181 : Int)), (0, x1), (0, x2), (0, x3), (0, x4), (0, x5)] []
  refine ev_iload dX11_together_35 rfl ?_
  refine ev_aload_n dX11_together_37 rfl (by decide) ?_
  refine ev_getf (j := 0) (t := 2) (x := (182 : Int)) dX11_together_38 cf_X11 wf_X11_7 sp181 (by decide) (by decide) rfl (by decide) (rp181_0 _) ?_
  refine ev_bipush dX11_together_41 (by decide) (by decide) ?_
  refine ev_iald dX11_together_43 sp182 (by decide) (by decide) h (fun h => ?_)
  refine ev_icmp_ge (tgt := 84) dX11_together_44 rfl h (fun cb h => ?_) (fun cb h => ?_)
  · obtain rfl := Option.some.inj h
    exact ev_sub (L2 := [(9, 0), (9, 0), (9, 0), (9, 0), (0, x4), (9, 0)]) K ⟨.inl rfl, .inl rfl, .inl rfl, .inl rfl, .inr rfl, .inl rfl, trivial⟩
  refine ev_aload_n dX11_together_47 rfl (by decide) ?_
  refine ev_iload dX11_together_48 rfl ?_
  obtain ⟨σ9, hc10, h⟩ := bind_of h
  refine ev_invV_n (k := (181 : Int)) (av := [(0, x5)]) (st := []) (τ := σ9) dX11_together_50 ml_X11_290 mv_X11_plans (T := TX11) (ci := 10) rfl sp181 (by decide) (by decide) rfl ⟨Nat.le_of_ble_eq_true rfl, Nat.le_of_ble_eq_true rfl⟩ (Nat.le_of_ble_eq_true rfl) (c_X11_plans hc10) ?_
  refine ev_iload dX11_together_53 rfl ?_
  refine ev_aload_n dX11_together_55 rfl (by decide) ?_
  refine ev_iload dX11_together_56 rfl ?_
  refine ev_iload_n dX11_together_58 rfl ?_
  refine ev_iload_n dX11_together_59 rfl ?_
  obtain ⟨v11, hc12, h⟩ := bind_of h
  refine ev_invV_v (k := (181 : Int)) (av := [(0, x5), (0, x2), (0, x3)]) (st := [(0, x4)]) (v := (0, v11)) (τ := σ9) dX11_together_60 ml_X11_310 mv_X11_doing (T := TX11) (ci := 10) rfl sp181 (by decide) (by decide) rfl ⟨Nat.le_of_ble_eq_true rfl, Nat.le_of_ble_eq_true rfl⟩ (Nat.le_of_ble_eq_true rfl) (c_X11_doing hc12) ?_
  refine ev_iload_n dX11_together_63 rfl ?_
  refine ev_icmp_ne (tgt := 74) dX11_together_64 rfl h (fun cb h => ?_) (fun cb h => ?_)
  · refine ev_iconst dX11_together_74 (by decide) ?_
    exact ev_sub (L2 := [(2, (181 : Int)), (0, x1), (0, x2), (0, x3), (9, 0), (0, x5)]) (e_X11_together_75 σ9 x1 x2 x3 x5 (0 : Int) x4 h K) ⟨.inr rfl, .inr rfl, .inr rfl, .inr rfl, .inl rfl, .inr rfl, trivial⟩
  refine ev_iconst dX11_together_67 (by decide) ?_
  refine ev_iload dX11_together_68 rfl ?_
  refine ev_ishl dX11_together_70 ?_
  refine ev_goto (tgt := 75) dX11_together_71 rfl ?_
  exact ev_sub (L2 := [(2, (181 : Int)), (0, x1), (0, x2), (0, x3), (9, 0), (0, x5)]) (e_X11_together_75 σ9 x1 x2 x3 x5 (jshl (1 : Int) x5) x4 h K) ⟨.inr rfl, .inr rfl, .inr rfl, .inr rfl, .inl rfl, .inr rfl, trivial⟩
set_option maxHeartbeats 4000000 in
set_option maxRecDepth 20000 in
theorem e_X11_together_35 (σ : Mem) (x1 x2 x3 x4 x5 : Int)  {q : (Int × Mem)} (h : f_X11_together_35 σ x1 x2 x3 x4 x5 = some q) : Ev M_X11_together 218 218 (some (0, q.1), rho, q.2) 35 218 rho σ [(2, (181 : Int)), (0, x1), (0, x2), (0, x3), (0, x4), (0, x5)] [] := by
  unfold f_X11_together_35 at h
  obtain ⟨e, hl, h⟩ := bind_of h
  refine loop_ev (K := K_X11_together_35 x1 x2 x3 (some (0, q.1), rho, q.2)) (b_X11_together_35 x1 x2 x3) FU (x4, x5, σ) e hl ?_
  show Ev M_X11_together 218 218 _ 84 218 rho e.2 [(9, 0), (9, 0), (9, 0), (9, 0), (0, e.1), (9, 0)] []
  replace h : some (e.1, e.2) = some q := h
  refine ev_iload dX11_together_84 rfl ?_
  obtain rfl := Option.some.inj h
  dsimp only
  exact ev_iret dX11_together_86 rfl rfl
set_option maxHeartbeats 4000000 in
set_option maxRecDepth 20000 in
theorem c_X11_together {σ : Mem} {x1 x2 x3 : Int}  {q : (Int × Mem)} (h : f_X11_together σ x1 x2 x3 = some q) : Ms yX11_together M_X11_together 218 218 [(2, (181 : Int)), (0, x1), (0, x2), (0, x3)] rho σ (some (0, q.1), rho, q.2) := by
  refine Ms.of 2 (by decide +kernel) rfl (fun z => absurd z (by decide)) (fun _ _ _ => trivial) rfl rfl ?_
  unfold f_X11_together at h
  show Ev M_X11_together 218 218 _ 0 218 rho σ [(2, (181 : Int)), (0, x1), (0, x2), (0, x3), (9, 0), (9, 0)] []
  refine ev_aload_n dX11_together_0 rfl (by decide) ?_
  refine ev_iload_n dX11_together_1 rfl ?_
  obtain ⟨v1, hc2, h⟩ := bind_of h
  refine ev_invV_v (k := (181 : Int)) (av := [(0, x1)]) (st := []) (v := (0, v1)) (τ := σ) dX11_together_2 ml_X11_174 mv_X11_isPaper (T := TX11) (ci := 10) rfl sp181 (by decide) (by decide) rfl ⟨Nat.le_of_ble_eq_true rfl, Nat.le_of_ble_eq_true rfl⟩ (Nat.le_of_ble_eq_true rfl) (c_X11_isPaper hc2) ?_
  refine ev_if_eq (tgt := 22) dX11_together_5 rfl h (fun cb h => ?_) (fun cb h => ?_)
  · exact ev_sub (L2 := [(2, (181 : Int)), (9, 0), (9, 0), (9, 0), (9, 0), (9, 0)]) (e_X11_together_22 σ h) ⟨.inr rfl, .inl rfl, .inl rfl, .inl rfl, .inl rfl, .inl rfl, trivial⟩
  refine ev_iload_n dX11_together_8 rfl ?_
  obtain ⟨v3, hc4, h⟩ := bind_of h
  refine ev_invS_v (av := [(0, x2)]) (st := []) (v := (0, v3)) (τ := σ) dX11_together_9 ml_X11_168 mt_X11_isDay rfl ⟨Nat.le_of_ble_eq_true rfl, Nat.le_of_ble_eq_true rfl⟩ (Nat.le_of_ble_eq_true rfl) (c_X11_isDay hc4) ?_
  refine ev_if_eq (tgt := 22) dX11_together_12 rfl h (fun cb h => ?_) (fun cb h => ?_)
  · exact ev_sub (L2 := [(2, (181 : Int)), (9, 0), (9, 0), (9, 0), (9, 0), (9, 0)]) (e_X11_together_22 σ h) ⟨.inr rfl, .inl rfl, .inl rfl, .inl rfl, .inl rfl, .inl rfl, trivial⟩
  refine ev_iload_n dX11_together_15 rfl ?_
  obtain ⟨v5, hc6, h⟩ := bind_of h
  refine ev_invS_v (av := [(0, x3)]) (st := []) (v := (0, v5)) (τ := σ) dX11_together_16 ml_X11_171 mt_X11_isSlot rfl ⟨Nat.le_of_ble_eq_true rfl, Nat.le_of_ble_eq_true rfl⟩ (Nat.le_of_ble_eq_true rfl) (c_X11_isSlot hc6) ?_
  refine ev_if_ne (tgt := 29) dX11_together_19 rfl h (fun cb h => ?_) (fun cb h => ?_)
  · refine ev_iconst dX11_together_29 (by decide) ?_
    refine ev_istore dX11_together_30 rfl (by decide) ?_
    show Ev _ _ _ _ 32 _ _ _ [(2, (181 : Int)), (0, x1), (0, x2), (0, x3), (0, (0 : Int)), (9, 0)] _
    refine ev_iconst dX11_together_32 (by decide) ?_
    refine ev_istore dX11_together_33 rfl (by decide) ?_
    show Ev _ _ _ _ 35 _ _ _ [(2, (181 : Int)), (0, x1), (0, x2), (0, x3), (0, (0 : Int)), (0, (0 : Int))] _
    exact ev_sub (L2 := [(2, (181 : Int)), (0, x1), (0, x2), (0, x3), (0, (0 : Int)), (0, (0 : Int))]) (e_X11_together_35 σ x1 x2 x3 (0 : Int) (0 : Int) h) ⟨.inr rfl, .inr rfl, .inr rfl, .inr rfl, .inr rfl, .inr rfl, trivial⟩
  exact ev_sub (L2 := [(2, (181 : Int)), (9, 0), (9, 0), (9, 0), (9, 0), (9, 0)]) (e_X11_together_22 σ h) ⟨.inr rfl, .inl rfl, .inl rfl, .inl rfl, .inl rfl, .inl rfl, trivial⟩
set_option maxHeartbeats 4000000 in
set_option maxRecDepth 20000 in
theorem c_X11_draw {σ : Mem} {x1 : Int}  {q : (Int × Mem)} (h : f_X11_draw σ x1 = some q) : Ms yX11_draw M_X11_draw 218 218 [(2, (181 : Int)), (0, x1)] rho σ (some (0, q.1), rho, q.2) := by
  refine Ms.of 0 (by decide +kernel) rfl (fun z => absurd z (by decide)) (fun _ _ _ => trivial) rfl rfl ?_
  unfold f_X11_draw at h
  show Ev M_X11_draw 218 218 _ 0 218 rho σ [(2, (181 : Int)), (0, x1)] []
  refine ev_aload_n dX11_draw_0 rfl (by decide) ?_
  refine ev_getf (j := 0) (t := 2) (x := (182 : Int)) dX11_draw_1 cf_X11 wf_X11_7 sp181 (by decide) (by decide) rfl (by decide) (rp181_0 _) ?_
  refine ev_bipush dX11_draw_4 (by decide) (by decide) ?_
  refine ev_aload_n dX11_draw_6 rfl (by decide) ?_
  refine ev_getf (j := 0) (t := 2) (x := (182 : Int)) dX11_draw_7 cf_X11 wf_X11_7 sp181 (by decide) (by decide) rfl (by decide) (rp181_0 _) ?_
  refine ev_bipush dX11_draw_10 (by decide) (by decide) ?_
  refine ev_iald dX11_draw_12 sp182 (by decide) (by decide) h (fun h => ?_)
  refine ev_ldcw (x := (1103515245 : Int)) dX11_draw_13 wc_X11_370 (by decide) (by decide) ?_
  refine ev_imul dX11_draw_16 ?_
  refine ev_sipush dX11_draw_17 (by decide) (by decide) ?_
  refine ev_iadd dX11_draw_20 ?_
  show Ev _ _ _ _ 21 _ _ _ _ _
  refine ev_iastG dX11_draw_21 sp182 (by decide) (by decide) h (fun σ1 h => ?_)
  refine ev_aload_n dX11_draw_22 rfl (by decide) ?_
  refine ev_getf (j := 0) (t := 2) (x := (182 : Int)) dX11_draw_23 cf_X11 wf_X11_7 sp181 (by decide) (by decide) rfl (by decide) (rp181_0 _) ?_
  refine ev_bipush dX11_draw_26 (by decide) (by decide) ?_
  refine ev_iald dX11_draw_28 sp182 (by decide) (by decide) h (fun h => ?_)
  refine ev_bipush dX11_draw_29 (by decide) (by decide) ?_
  refine ev_iushr dX11_draw_31 ?_
  refine ev_iload_n dX11_draw_32 rfl ?_
  refine ev_irem dX11_draw_33 h (fun h => ?_)
  obtain rfl := Option.some.inj h
  dsimp only
  exact ev_iret dX11_draw_34 rfl rfl
