set_option maxHeartbeats 4000000 in
set_option maxRecDepth 20000 in
theorem c_X6_carry {σ : Mem} {x1 x2 x3 x4 x5 : Int}  {q : Mem} (h : f_X6_carry σ x1 x2 x3 x4 x5 = some q) : Ms yX6_carry M_X6_carry 218 218 [(2, (30 : Int)), (0, x1), (0, x2), (0, x3), (0, x4), (0, x5)] rho σ (none, rho, q) := by
  refine Ms.of 0 (by decide +kernel) rfl (fun z => absurd z (by decide)) (fun _ _ _ => trivial) rfl rfl ?_
  unfold f_X6_carry at h
  show Ev M_X6_carry 218 218 _ 0 218 rho σ [(2, (30 : Int)), (0, x1), (0, x2), (0, x3), (0, x4), (0, x5)] []
  refine ev_aload_n dX6_carry_0 rfl (by decide) ?_
  refine ev_getf (j := 2) (t := 2) (x := (33 : Int)) dX6_carry_1 cf_X6 wf_X6_18 sp30 (by decide) (by decide) rfl (by decide) (rp30_2 _) ?_
  refine ev_iload_n dX6_carry_4 rfl ?_
  refine ev_bipush dX6_carry_5 (by decide) (by decide) ?_
  refine ev_imul dX6_carry_7 ?_
  refine ev_iload_n dX6_carry_8 rfl ?_
  refine ev_iadd dX6_carry_9 ?_
  refine ev_aload_n dX6_carry_10 rfl (by decide) ?_
  refine ev_getf (j := 2) (t := 2) (x := (33 : Int)) dX6_carry_11 cf_X6 wf_X6_18 sp30 (by decide) (by decide) rfl (by decide) (rp30_2 _) ?_
  refine ev_iload_n dX6_carry_14 rfl ?_
  refine ev_bipush dX6_carry_15 (by decide) (by decide) ?_
  show Ev _ _ _ _ 17 _ _ _ _ _
  refine ev_imul dX6_carry_17 ?_
  refine ev_iload dX6_carry_18 rfl ?_
  refine ev_iadd dX6_carry_20 ?_
  refine ev_iload dX6_carry_21 rfl ?_
  refine ev_copylG dX6_carry_23 wa_X6_38 wa_words sp33 (by decide) (by decide) sp33 (by decide) (by decide) (by decide) (Nat.le_of_ble_eq_true rfl) h (fun σ1 h => ?_)
  obtain rfl := Option.some.inj h
  exact ev_vret dX6_carry_26 rfl rfl
def K_X6_dropCandsFrom_2 (x1 : Int) (r : Option V × Mem × Mem) : (Int × Mem) ⊕ ((Mem)) → Prop := Sum.elim (fun a => Ev M_X6_dropCandsFrom 218 218 r 2 218 rho a.2 [(2, (30 : Int)), (0, x1), (0, a.1)] []) (fun e => Ev M_X6_dropCandsFrom 218 218 r 30 218 rho e [(9, 0), (9, 0), (9, 0)] [])
set_option maxHeartbeats 4000000 in
set_option maxRecDepth 20000 in
theorem e_X6_dropCandsFrom_24 (σ : Mem) (x1 x2 : Int)  {q : ((Int × Mem) ⊕ ((Mem)))} (h : f_X6_dropCandsFrom_24 σ x1 x2 = some q) {r : Option V × Mem × Mem} (K : K_X6_dropCandsFrom_2 x1 r q) : Ev M_X6_dropCandsFrom 218 218 r 24 218 rho σ [(2, (30 : Int)), (0, x1), (0, x2)] [] := by
  unfold f_X6_dropCandsFrom_24 at h
  refine ev_iincG dX6_dropCandsFrom_24 rfl h rfl (fun v4 h => ?_)
  show Ev _ _ _ _ 27 _ _ _ [(2, (30 : Int)), (0, x1), (0, v4)] _
  refine ev_goto (tgt := 2) dX6_dropCandsFrom_27 rfl ?_
  obtain rfl := Option.some.inj h
  exact ev_sub (L2 := [(2, (30 : Int)), (0, x1), (0, v4)]) K ⟨.inr rfl, .inr rfl, .inr rfl, trivial⟩
set_option maxHeartbeats 4000000 in
set_option maxRecDepth 20000 in
theorem b_X6_dropCandsFrom_2 (x1 : Int)  {r : Option V × Mem × Mem} : ∀ a x, f_X6_dropCandsFrom_2B x1 a = some x → K_X6_dropCandsFrom_2 x1 r x → K_X6_dropCandsFrom_2 x1 r (.inl a) := by
  intro a x h K
  obtain ⟨x2, σ⟩ := a
  have h : f_X6_dropCandsFrom_2C x1 x2 σ = some x := h
  unfold f_X6_dropCandsFrom_2C at h
  show Ev M_X6_dropCandsFrom 218 218 r 2 218 rho σ [(2, (30 : Int)), (0, x1), (0, x2)] []
  refine ev_iload_n dX6_dropCandsFrom_2 rfl ?_
  refine ev_bipush dX6_dropCandsFrom_3 (by decide) (by decide) ?_
  refine ev_icmp_ge (tgt := 30) dX6_dropCandsFrom_5 rfl h (fun cb h => ?_) (fun cb h => ?_)
  · obtain rfl := Option.some.inj h
    exact ev_sub (L2 := [(9, 0), (9, 0), (9, 0)]) K ⟨.inl rfl, .inl rfl, .inl rfl, trivial⟩
  refine ev_aload_n dX6_dropCandsFrom_8 rfl (by decide) ?_
  refine ev_iload_n dX6_dropCandsFrom_9 rfl ?_
  obtain ⟨v1, hc2, h⟩ := bind_of h
  refine ev_invV_v (k := (30 : Int)) (av := [(0, x2)]) (st := []) (v := (0, v1)) (τ := σ) dX6_dropCandsFrom_10 ml_X6_44 mv_X6_candOn (T := TX6) (ci := 5) rfl sp30 (by decide) (by decide) rfl ⟨Nat.le_of_ble_eq_true rfl, Nat.le_of_ble_eq_true rfl⟩ (Nat.le_of_ble_eq_true rfl) (c_X6_candOn hc2) ?_
  refine ev_iload_n dX6_dropCandsFrom_13 rfl ?_
  refine ev_icmp_lt (tgt := 24) dX6_dropCandsFrom_14 rfl h (fun cb h => ?_) (fun cb h => ?_)
  · exact ev_sub (L2 := [(2, (30 : Int)), (0, x1), (0, x2)]) (e_X6_dropCandsFrom_24 σ x1 x2 h K) ⟨.inr rfl, .inr rfl, .inr rfl, trivial⟩
  refine ev_aload_n dX6_dropCandsFrom_17 rfl (by decide) ?_
  refine ev_getf (j := 0) (t := 2) (x := (31 : Int)) dX6_dropCandsFrom_18 cf_X6 wf_X6_9 sp30 (by decide) (by decide) rfl (by decide) (rp30_0 _) ?_
  refine ev_iload_n dX6_dropCandsFrom_21 rfl ?_
  refine ev_iconst dX6_dropCandsFrom_22 (by decide) ?_
  refine ev_iastG dX6_dropCandsFrom_23 sp31 (by decide) (by decide) h (fun σ3 h => ?_)
  exact ev_sub (L2 := [(2, (30 : Int)), (0, x1), (0, x2)]) (e_X6_dropCandsFrom_24 σ3 x1 x2 h K) ⟨.inr rfl, .inr rfl, .inr rfl, trivial⟩
set_option maxHeartbeats 4000000 in
set_option maxRecDepth 20000 in
theorem e_X6_dropCandsFrom_2 (σ : Mem) (x1 x2 : Int)  {q : Mem} (h : f_X6_dropCandsFrom_2 σ x1 x2 = some q) : Ev M_X6_dropCandsFrom 218 218 (none, rho, q) 2 218 rho σ [(2, (30 : Int)), (0, x1), (0, x2)] [] := by
  unfold f_X6_dropCandsFrom_2 at h
  obtain ⟨e, hl, h⟩ := bind_of h
  refine loop_ev (K := K_X6_dropCandsFrom_2 x1 (none, rho, q)) (b_X6_dropCandsFrom_2 x1) FU (x2, σ) e hl ?_
  show Ev M_X6_dropCandsFrom 218 218 _ 30 218 rho e [(9, 0), (9, 0), (9, 0)] []
  replace h : some e = some q := h
  obtain rfl := Option.some.inj h
  exact ev_vret dX6_dropCandsFrom_30 rfl rfl
set_option maxHeartbeats 4000000 in
set_option maxRecDepth 20000 in
theorem c_X6_dropCandsFrom {σ : Mem} {x1 : Int}  {q : Mem} (h : f_X6_dropCandsFrom σ x1 = some q) : Ms yX6_dropCandsFrom M_X6_dropCandsFrom 218 218 [(2, (30 : Int)), (0, x1)] rho σ (none, rho, q) := by
  refine Ms.of 1 (by decide +kernel) rfl (fun z => absurd z (by decide)) (fun _ _ _ => trivial) rfl rfl ?_
  unfold f_X6_dropCandsFrom at h
  show Ev M_X6_dropCandsFrom 218 218 _ 0 218 rho σ [(2, (30 : Int)), (0, x1), (9, 0)] []
  refine ev_iconst dX6_dropCandsFrom_0 (by decide) ?_
  refine ev_istore_n dX6_dropCandsFrom_1 rfl (by decide) ?_
  show Ev _ _ _ _ 2 _ _ _ [(2, (30 : Int)), (0, x1), (0, (0 : Int))] _
  exact ev_sub (L2 := [(2, (30 : Int)), (0, x1), (0, (0 : Int))]) (e_X6_dropCandsFrom_2 σ x1 (0 : Int) h) ⟨.inr rfl, .inr rfl, .inr rfl, trivial⟩
def K_X6_filled_4 (σ : Mem) (r : Option V × Mem × Mem) : (Int × Int) ⊕ ((Int)) → Prop := Sum.elim (fun a => Ev M_X6_filled 218 218 r 4 218 rho σ [(2, (30 : Int)), (0, a.1), (0, a.2)] []) (fun e => Ev M_X6_filled 218 218 r 29 218 rho σ [(9, 0), (0, e), (9, 0)] [])
set_option maxHeartbeats 4000000 in
set_option maxRecDepth 20000 in
theorem e_X6_filled_23 (σ : Mem) (x1 x2 : Int)  {q : ((Int × Int) ⊕ ((Int)))} (h : f_X6_filled_23 σ x1 x2 = some q) {r : Option V × Mem × Mem} (K : K_X6_filled_4 σ r q) : Ev M_X6_filled 218 218 r 23 218 rho σ [(2, (30 : Int)), (0, x1), (0, x2)] [] := by
  unfold f_X6_filled_23 at h
  refine ev_iincG dX6_filled_23 rfl h rfl (fun v2 h => ?_)
  show Ev _ _ _ _ 26 _ _ _ [(2, (30 : Int)), (0, x1), (0, v2)] _
  refine ev_goto (tgt := 4) dX6_filled_26 rfl ?_
  obtain rfl := Option.some.inj h
  exact ev_sub (L2 := [(2, (30 : Int)), (0, x1), (0, v2)]) K ⟨.inr rfl, .inr rfl, .inr rfl, trivial⟩
set_option maxHeartbeats 4000000 in
set_option maxRecDepth 20000 in
theorem b_X6_filled_4 (σ : Mem)  {r : Option V × Mem × Mem} : ∀ a x, f_X6_filled_4B σ a = some x → K_X6_filled_4 σ r x → K_X6_filled_4 σ r (.inl a) := by
  intro a x h K
  obtain ⟨x1, x2⟩ := a
  have h : f_X6_filled_4C σ x1 x2 = some x := h
  unfold f_X6_filled_4C at h
  show Ev M_X6_filled 218 218 r 4 218 rho σ [(2, (30 : Int)), (0, x1), (0, x2)] []
  refine ev_iload_n dX6_filled_4 rfl ?_
  refine ev_bipush dX6_filled_5 (by decide) (by decide) ?_
  refine ev_icmp_ge (tgt := 29) dX6_filled_7 rfl h (fun cb h => ?_) (fun cb h => ?_)
  · obtain rfl := Option.some.inj h
    exact ev_sub (L2 := [(9, 0), (0, x1), (9, 0)]) K ⟨.inl rfl, .inr rfl, .inl rfl, trivial⟩
  refine ev_aload_n dX6_filled_10 rfl (by decide) ?_
  refine ev_getf (j := 0) (t := 2) (x := (31 : Int)) dX6_filled_11 cf_X6 wf_X6_9 sp30 (by decide) (by decide) rfl (by decide) (rp30_0 _) ?_
  refine ev_iload_n dX6_filled_14 rfl ?_
  refine ev_iald dX6_filled_15 sp31 (by decide) (by decide) h (fun h => ?_)
  refine ev_iconst dX6_filled_16 (by decide) ?_
  refine ev_icmp_eq (tgt := 23) dX6_filled_17 rfl h (fun cb h => ?_) (fun cb h => ?_)
  · exact ev_sub (L2 := [(2, (30 : Int)), (0, x1), (0, x2)]) (e_X6_filled_23 σ x1 x2 h K) ⟨.inr rfl, .inr rfl, .inr rfl, trivial⟩
  refine ev_iincG dX6_filled_20 rfl h rfl (fun v1 h => ?_)
  show Ev _ _ _ _ 23 _ _ _ [(2, (30 : Int)), (0, v1), (0, x2)] _
  exact ev_sub (L2 := [(2, (30 : Int)), (0, v1), (0, x2)]) (e_X6_filled_23 σ v1 x2 h K) ⟨.inr rfl, .inr rfl, .inr rfl, trivial⟩
set_option maxHeartbeats 4000000 in
set_option maxRecDepth 20000 in
theorem e_X6_filled_4 (σ : Mem) (x1 x2 : Int)  {q : Int} (h : f_X6_filled_4 σ x1 x2 = some q) : Ev M_X6_filled 218 218 (some (0, q), rho, σ) 4 218 rho σ [(2, (30 : Int)), (0, x1), (0, x2)] [] := by
  unfold f_X6_filled_4 at h
  obtain ⟨e, hl, h⟩ := bind_of h
  refine loop_ev (K := K_X6_filled_4 σ (some (0, q), rho, σ)) (b_X6_filled_4 σ) FU (x1, x2) e hl ?_
  show Ev M_X6_filled 218 218 _ 29 218 rho σ [(9, 0), (0, e), (9, 0)] []
  replace h : some e = some q := h
  refine ev_iload_n dX6_filled_29 rfl ?_
  obtain rfl := Option.some.inj h
  exact ev_iret dX6_filled_30 rfl rfl
set_option maxHeartbeats 4000000 in
set_option maxRecDepth 20000 in
theorem c_X6_filled {σ : Mem}  {q : Int} (h : f_X6_filled σ  = some q) : Ms yX6_filled M_X6_filled 218 218 [(2, (30 : Int))] rho σ (some (0, q), rho, σ) := by
  refine Ms.of 2 (by decide +kernel) rfl (fun z => absurd z (by decide)) (fun _ _ _ => trivial) rfl rfl ?_
  unfold f_X6_filled at h
  show Ev M_X6_filled 218 218 _ 0 218 rho σ [(2, (30 : Int)), (9, 0), (9, 0)] []
  refine ev_iconst dX6_filled_0 (by decide) ?_
  refine ev_istore_n dX6_filled_1 rfl (by decide) ?_
  show Ev _ _ _ _ 2 _ _ _ [(2, (30 : Int)), (0, (0 : Int)), (9, 0)] _
  refine ev_iconst dX6_filled_2 (by decide) ?_
  refine ev_istore_n dX6_filled_3 rfl (by decide) ?_
  show Ev _ _ _ _ 4 _ _ _ [(2, (30 : Int)), (0, (0 : Int)), (0, (0 : Int))] _
  exact ev_sub (L2 := [(2, (30 : Int)), (0, (0 : Int)), (0, (0 : Int))]) (e_X6_filled_4 σ (0 : Int) (0 : Int) h) ⟨.inr rfl, .inr rfl, .inr rfl, trivial⟩
set_option maxHeartbeats 4000000 in
set_option maxRecDepth 20000 in
theorem c_X7_isFull {σ : Mem}  {q : Int} (h : f_X7_isFull σ  = some q) : Ms yX7_isFull M_X7_isFull 218 218 [(2, (28 : Int))] rho σ (some (0, q), rho, σ) := by
  refine Ms.of 0 (by decide +kernel) rfl (fun z => absurd z (by decide)) (fun _ _ _ => trivial) rfl rfl ?_
  unfold f_X7_isFull at h
  show Ev M_X7_isFull 218 218 _ 0 218 rho σ [(2, (28 : Int))] []
  refine ev_aload_n dX7_isFull_0 rfl (by decide) ?_
  refine ev_getf (j := 1) (t := 0) (x := (σ (28 : Int) 1)) dX7_isFull_1 cf_X7 wf_X7_15 sp28 (by decide) (by decide) rfl (by decide) rfl ?_
  refine ev_sipush dX7_isFull_4 (by decide) (by decide) ?_
  refine ev_icmp_lt (tgt := 14) dX7_isFull_7 rfl h (fun cb h => ?_) (fun cb h => ?_)
  · refine ev_iconst dX7_isFull_14 (by decide) ?_
    obtain rfl := Option.some.inj h
    exact ev_zret dX7_isFull_15 rfl (chk_pos (.inl rfl))
  refine ev_iconst dX7_isFull_10 (by decide) ?_
  refine ev_goto (tgt := 15) dX7_isFull_11 rfl ?_
  obtain rfl := Option.some.inj h
  exact ev_zret dX7_isFull_15 rfl (chk_pos (.inr rfl))
set_option maxHeartbeats 4000000 in
set_option maxRecDepth 20000 in
theorem c_X7_size {σ : Mem}  {q : Int} (h : f_X7_size σ  = some q) : Ms yX7_size M_X7_size 218 218 [(2, (28 : Int))] rho σ (some (0, q), rho, σ) := by
  refine Ms.of 0 (by decide +kernel) rfl (fun z => absurd z (by decide)) (fun _ _ _ => trivial) rfl rfl ?_
  unfold f_X7_size at h
  show Ev M_X7_size 218 218 _ 0 218 rho σ [(2, (28 : Int))] []
  refine ev_aload_n dX7_size_0 rfl (by decide) ?_
  refine ev_getf (j := 1) (t := 0) (x := (σ (28 : Int) 1)) dX7_size_1 cf_X7 wf_X7_15 sp28 (by decide) (by decide) rfl (by decide) rfl ?_
  obtain rfl := Option.some.inj h
  exact ev_iret dX7_size_4 rfl rfl
set_option maxHeartbeats 4000000 in
set_option maxRecDepth 20000 in
theorem c_X7_fault {σ : Mem}  {q : Int} (h : f_X7_fault σ  = some q) : Ms yX7_fault M_X7_fault 218 218 [(2, (28 : Int))] rho σ (some (0, q), rho, σ) := by
  refine Ms.of 0 (by decide +kernel) rfl (fun z => absurd z (by decide)) (fun _ _ _ => trivial) rfl rfl ?_
  unfold f_X7_fault at h
  show Ev M_X7_fault 218 218 _ 0 218 rho σ [(2, (28 : Int))] []
  refine ev_aload_n dX7_fault_0 rfl (by decide) ?_
  refine ev_getf (j := 4) (t := 0) (x := (σ (28 : Int) 4)) dX7_fault_1 cf_X7 wf_X7_19 sp28 (by decide) (by decide) rfl (by decide) rfl ?_
  obtain rfl := Option.some.inj h
  exact ev_iret dX7_fault_4 rfl rfl
set_option maxHeartbeats 4000000 in
set_option maxRecDepth 20000 in
theorem e_X7_append_30 (σ : Mem)  {q : (Int × Mem)} (h : f_X7_append_30 σ  = some q) : Ev M_X7_append 218 218 (some (0, q.1), rho, q.2) 30 218 rho σ [(2, (28 : Int)), (9, 0)] [] := by
  unfold f_X7_append_30 at h
  refine ev_aload_n dX7_append_30 rfl (by decide) ?_
  refine ev_getf (j := 1) (t := 0) (x := (σ (28 : Int) 1)) dX7_append_31 cf_X7 wf_X7_15 sp28 (by decide) (by decide) rfl (by decide) rfl ?_
  obtain rfl := Option.some.inj h
  dsimp only
  exact ev_iret dX7_append_34 rfl rfl
set_option maxHeartbeats 4000000 in
set_option maxRecDepth 20000 in
theorem c_X7_append {σ : Mem} {x1 : Int}  {q : (Int × Mem)} (h : f_X7_append σ x1 = some q) : Ms yX7_append M_X7_append 218 218 [(2, (28 : Int)), (0, x1)] rho σ (some (0, q.1), rho, q.2) := by
  refine Ms.of 0 (by decide +kernel) rfl (fun z => absurd z (by decide)) (fun _ _ _ => trivial) rfl rfl ?_
  unfold f_X7_append at h
  show Ev M_X7_append 218 218 _ 0 218 rho σ [(2, (28 : Int)), (0, x1)] []
  refine ev_aload_n dX7_append_0 rfl (by decide) ?_
  refine ev_getf (j := 1) (t := 0) (x := (σ (28 : Int) 1)) dX7_append_1 cf_X7 wf_X7_15 sp28 (by decide) (by decide) rfl (by decide) rfl ?_
  refine ev_sipush dX7_append_4 (by decide) (by decide) ?_
  refine ev_icmp_ge (tgt := 30) dX7_append_7 rfl h (fun cb h => ?_) (fun cb h => ?_)
  · exact ev_sub (L2 := [(2, (28 : Int)), (9, 0)]) (e_X7_append_30 σ h) ⟨.inr rfl, .inl rfl, trivial⟩
  refine ev_aload_n dX7_append_10 rfl (by decide) ?_
  refine ev_getf (j := 0) (t := 2) (x := (29 : Int)) dX7_append_11 cf_X7 wf_X7_11 sp28 (by decide) (by decide) rfl (by decide) (rp28_0 _) ?_
  refine ev_aload_n dX7_append_14 rfl (by decide) ?_
  refine ev_getf (j := 1) (t := 0) (x := (σ (28 : Int) 1)) dX7_append_15 cf_X7 wf_X7_15 sp28 (by decide) (by decide) rfl (by decide) rfl ?_
  refine ev_iload_n dX7_append_18 rfl ?_
  refine ev_iastG dX7_append_19 sp29 (by decide) (by decide) h (fun σ1 h => ?_)
  refine ev_aload_n dX7_append_20 rfl (by decide) ?_
  refine ev_dup dX7_append_21 (show (2 : Nat) ≠ 1 by decide) ?_
  refine ev_getf (j := 1) (t := 0) (x := (σ1 (28 : Int) 1)) dX7_append_22 cf_X7 wf_X7_15 sp28 (by decide) (by decide) rfl (by decide) rfl ?_
  refine ev_iconst dX7_append_25 (by decide) ?_
  refine ev_iadd dX7_append_26 ?_
  show Ev _ _ _ _ 27 _ _ _ _ _
  refine ev_putfG (j := 1) (t := 0) dX7_append_27 cf_X7 wf_X7_15 sp28 (by decide) (by decide) rfl (by decide) (by decide) rfl (fun z => absurd z (by decide +kernel)) h (fun σ2 h => ?_)
  exact ev_sub (L2 := [(2, (28 : Int)), (9, 0)]) (e_X7_append_30 σ2 h) ⟨.inr rfl, .inl rfl, trivial⟩
set_option maxHeartbeats 4000000 in
set_option maxRecDepth 20000 in
theorem c_X7_clear {σ : Mem}  {q : (Int × Mem)} (h : f_X7_clear σ  = some q) : Ms yX7_clear M_X7_clear 218 218 [(2, (28 : Int))] rho σ (some (0, q.1), rho, q.2) := by
  refine Ms.of 1 (by decide +kernel) rfl (fun z => absurd z (by decide)) (fun _ _ _ => trivial) rfl rfl ?_
  unfold f_X7_clear at h
  show Ev M_X7_clear 218 218 _ 0 218 rho σ [(2, (28 : Int)), (9, 0)] []
  refine ev_aload_n dX7_clear_0 rfl (by decide) ?_
  refine ev_getf (j := 1) (t := 0) (x := (σ (28 : Int) 1)) dX7_clear_1 cf_X7 wf_X7_15 sp28 (by decide) (by decide) rfl (by decide) rfl ?_
  refine ev_istore_nG dX7_clear_4 h rfl (by decide) (fun v1 h => ?_)
  show Ev _ _ _ _ 5 _ _ _ [(2, (28 : Int)), (0, v1)] _
  refine ev_aload_n dX7_clear_5 rfl (by decide) ?_
  refine ev_iconst dX7_clear_6 (by decide) ?_
  refine ev_putfG (j := 1) (t := 0) dX7_clear_7 cf_X7 wf_X7_15 sp28 (by decide) (by decide) rfl (by decide) (by decide) rfl (fun z => absurd z (by decide +kernel)) h (fun σ2 h => ?_)
  refine ev_iload_n dX7_clear_10 rfl ?_
  obtain rfl := Option.some.inj h
  dsimp only
  exact ev_iret dX7_clear_11 rfl rfl
set_option maxHeartbeats 4000000 in
set_option maxRecDepth 20000 in
theorem c_X7_byteAt {σ : Mem} {x1 : Int}  {q : Int} (h : f_X7_byteAt σ x1 = some q) : Ms yX7_byteAt M_X7_byteAt 218 218 [(2, (28 : Int)), (0, x1)] rho σ (some (0, q), rho, σ) := by
  refine Ms.of 0 (by decide +kernel) rfl (fun z => absurd z (by decide)) (fun _ _ _ => trivial) rfl rfl ?_
  unfold f_X7_byteAt at h
  show Ev M_X7_byteAt 218 218 _ 0 218 rho σ [(2, (28 : Int)), (0, x1)] []
  refine ev_iload_n dX7_byteAt_0 rfl ?_
  refine ev_if_lt (tgt := 28) dX7_byteAt_1 rfl h (fun cb h => ?_) (fun cb h => ?_)
  · refine ev_iconst dX7_byteAt_28 (by decide) ?_
    obtain rfl := Option.some.inj h
    exact ev_iret dX7_byteAt_29 rfl rfl
  refine ev_iload_n dX7_byteAt_4 rfl ?_
  refine ev_aload_n dX7_byteAt_5 rfl (by decide) ?_
  refine ev_getf (j := 1) (t := 0) (x := (σ (28 : Int) 1)) dX7_byteAt_6 cf_X7 wf_X7_15 sp28 (by decide) (by decide) rfl (by decide) rfl ?_
  refine ev_icmp_ge (tgt := 28) dX7_byteAt_9 rfl h (fun cb h => ?_) (fun cb h => ?_)
  · refine ev_iconst dX7_byteAt_28 (by decide) ?_
    obtain rfl := Option.some.inj h
    exact ev_iret dX7_byteAt_29 rfl rfl
  refine ev_iload_n dX7_byteAt_12 rfl ?_
  refine ev_sipush dX7_byteAt_13 (by decide) (by decide) ?_
  refine ev_icmp_ge (tgt := 28) dX7_byteAt_16 rfl h (fun cb h => ?_) (fun cb h => ?_)
  · refine ev_iconst dX7_byteAt_28 (by decide) ?_
    obtain rfl := Option.some.inj h
    exact ev_iret dX7_byteAt_29 rfl rfl
  refine ev_aload_n dX7_byteAt_19 rfl (by decide) ?_
  refine ev_getf (j := 0) (t := 2) (x := (29 : Int)) dX7_byteAt_20 cf_X7 wf_X7_11 sp28 (by decide) (by decide) rfl (by decide) (rp28_0 _) ?_
  refine ev_iload_n dX7_byteAt_23 rfl ?_
  refine ev_iald dX7_byteAt_24 sp29 (by decide) (by decide) h (fun h => ?_)
  refine ev_goto (tgt := 29) dX7_byteAt_25 rfl ?_
  obtain rfl := Option.some.inj h
  exact ev_iret dX7_byteAt_29 rfl rfl
def K_X7_skipBlanks_2 (r : Option V × Mem × Mem) : (Int × Mem) ⊕ ((Mem)) → Prop := Sum.elim (fun a => Ev M_X7_skipBlanks 218 218 r 2 218 rho a.2 [(2, (28 : Int)), (0, a.1)] []) (fun e => Ev M_X7_skipBlanks 218 218 r 38 218 rho e [(9, 0), (9, 0)] [])
set_option maxHeartbeats 4000000 in
set_option maxRecDepth 20000 in
theorem b_X7_skipBlanks_2  {r : Option V × Mem × Mem} : ∀ a x, f_X7_skipBlanks_2B  a = some x → K_X7_skipBlanks_2  r x → K_X7_skipBlanks_2  r (.inl a) := by
  intro a x h K
  obtain ⟨x1, σ⟩ := a
  have h : f_X7_skipBlanks_2C  x1 σ = some x := h
  unfold f_X7_skipBlanks_2C at h
  show Ev M_X7_skipBlanks 218 218 r 2 218 rho σ [(2, (28 : Int)), (0, x1)] []
  refine ev_iload_n dX7_skipBlanks_2 rfl ?_
  refine ev_sipush dX7_skipBlanks_3 (by decide) (by decide) ?_
  refine ev_icmp_ge (tgt := 38) dX7_skipBlanks_6 rfl h (fun cb h => ?_) (fun cb h => ?_)
  · obtain rfl := Option.some.inj h
    exact ev_sub (L2 := [(9, 0), (9, 0)]) K ⟨.inl rfl, .inl rfl, trivial⟩
  refine ev_aload_n dX7_skipBlanks_9 rfl (by decide) ?_
  refine ev_aload_n dX7_skipBlanks_10 rfl (by decide) ?_
  refine ev_getf (j := 2) (t := 0) (x := (σ (28 : Int) 2)) dX7_skipBlanks_11 cf_X7 wf_X7_22 sp28 (by decide) (by decide) rfl (by decide) rfl ?_
  obtain ⟨v1, hc2, h⟩ := bind_of h
  refine ev_invV_v (k := (28 : Int)) (av := [(0, (σ (28 : Int) 2))]) (st := []) (v := (0, v1)) (τ := σ) dX7_skipBlanks_14 ml_X7_32 mv_X7_byteAt (T := TX7) (ci := 6) rfl sp28 (by decide) (by decide) rfl ⟨Nat.le_of_ble_eq_true rfl, Nat.le_of_ble_eq_true rfl⟩ (Nat.le_of_ble_eq_true rfl) (c_X7_byteAt hc2) ?_
  refine ev_bipush dX7_skipBlanks_17 (by decide) (by decide) ?_
  refine ev_icmp_ne (tgt := 38) dX7_skipBlanks_19 rfl h (fun cb h => ?_) (fun cb h => ?_)
  · obtain rfl := Option.some.inj h
    exact ev_sub (L2 := [(9, 0), (9, 0)]) K ⟨.inl rfl, .inl rfl, trivial⟩
  refine ev_aload_n dX7_skipBlanks_22 rfl (by decide) ?_
  refine ev_dup dX7_skipBlanks_23 (show (2 : Nat) ≠ 1 by decide) ?_
  refine ev_getf (j := 2) (t := 0) (x := (σ (28 : Int) 2)) dX7_skipBlanks_24 cf_X7 wf_X7_22 sp28 (by decide) (by decide) rfl (by decide) rfl ?_
  refine ev_iconst dX7_skipBlanks_27 (by decide) ?_
  refine ev_iadd dX7_skipBlanks_28 ?_
  refine ev_putfG (j := 2) (t := 0) dX7_skipBlanks_29 cf_X7 wf_X7_22 sp28 (by decide) (by decide) rfl (by decide) (by decide) rfl (fun z => absurd z (by decide +kernel)) h (fun σ3 h => ?_)
  refine ev_iincG dX7_skipBlanks_32 rfl h rfl (fun v4 h => ?_)
  show Ev _ _ _ _ 35 _ _ _ [(2, (28 : Int)), (0, v4)] _
  refine ev_goto (tgt := 2) dX7_skipBlanks_35 rfl ?_
  obtain rfl := Option.some.inj h
  exact ev_sub (L2 := [(2, (28 : Int)), (0, v4)]) K ⟨.inr rfl, .inr rfl, trivial⟩
set_option maxHeartbeats 4000000 in
set_option maxRecDepth 20000 in
theorem e_X7_skipBlanks_2 (σ : Mem) (x1 : Int)  {q : Mem} (h : f_X7_skipBlanks_2 σ x1 = some q) : Ev M_X7_skipBlanks 218 218 (none, rho, q) 2 218 rho σ [(2, (28 : Int)), (0, x1)] [] := by
  unfold f_X7_skipBlanks_2 at h
  obtain ⟨e, hl, h⟩ := bind_of h
  refine loop_ev (K := K_X7_skipBlanks_2  (none, rho, q)) (b_X7_skipBlanks_2 ) FU (x1, σ) e hl ?_
  show Ev M_X7_skipBlanks 218 218 _ 38 218 rho e [(9, 0), (9, 0)] []
  replace h : some e = some q := h
  obtain rfl := Option.some.inj h
  exact ev_vret dX7_skipBlanks_38 rfl rfl
set_option maxHeartbeats 4000000 in
set_option maxRecDepth 20000 in
theorem c_X7_skipBlanks {σ : Mem}  {q : Mem} (h : f_X7_skipBlanks σ  = some q) : Ms yX7_skipBlanks M_X7_skipBlanks 218 218 [(2, (28 : Int))] rho σ (none, rho, q) := by
  refine Ms.of 1 (by decide +kernel) rfl (fun z => absurd z (by decide)) (fun _ _ _ => trivial) rfl rfl ?_
  unfold f_X7_skipBlanks at h
  show Ev M_X7_skipBlanks 218 218 _ 0 218 rho σ [(2, (28 : Int)), (9, 0)] []
  refine ev_iconst dX7_skipBlanks_0 (by decide) ?_
  refine ev_istore_n dX7_skipBlanks_1 rfl (by decide) ?_
  show Ev _ _ _ _ 2 _ _ _ [(2, (28 : Int)), (0, (0 : Int))] _
  exact ev_sub (L2 := [(2, (28 : Int)), (0, (0 : Int))]) (e_X7_skipBlanks_2 σ (0 : Int) h) ⟨.inr rfl, .inr rfl, trivial⟩
set_option maxHeartbeats 4000000 in
set_option maxRecDepth 20000 in
theorem c_X7_isLetter {σ : Mem} {x0 : Int}  {q : Int} (h : f_X7_isLetter σ x0 = some q) : Ms yX7_isLetter M_X7_isLetter 218 218 [(0, x0)] rho σ (some (0, q), rho, σ) := by
  refine Ms.of 0 (by decide +kernel) rfl (fun z => absurd z (by decide)) (fun _ _ _ => trivial) rfl rfl ?_
  unfold f_X7_isLetter at h
  show Ev M_X7_isLetter 218 218 _ 0 218 rho σ [(0, x0)] []
  refine ev_iload_n dX7_isLetter_0 rfl ?_
  refine ev_bipush dX7_isLetter_1 (by decide) (by decide) ?_
  refine ev_icmp_lt (tgt := 16) dX7_isLetter_3 rfl h (fun cb h => ?_) (fun cb h => ?_)
  · refine ev_iconst dX7_isLetter_16 (by decide) ?_
    obtain rfl := Option.some.inj h
    exact ev_zret dX7_isLetter_17 rfl (chk_pos (.inl rfl))
  refine ev_iload_n dX7_isLetter_6 rfl ?_
  refine ev_bipush dX7_isLetter_7 (by decide) (by decide) ?_
  refine ev_icmp_gt (tgt := 16) dX7_isLetter_9 rfl h (fun cb h => ?_) (fun cb h => ?_)
  · refine ev_iconst dX7_isLetter_16 (by decide) ?_
    obtain rfl := Option.some.inj h
    exact ev_zret dX7_isLetter_17 rfl (chk_pos (.inl rfl))
  refine ev_iconst dX7_isLetter_12 (by decide) ?_
  refine ev_goto (tgt := 17) dX7_isLetter_13 rfl ?_
  obtain rfl := Option.some.inj h
  exact ev_zret dX7_isLetter_17 rfl (chk_pos (.inr rfl))
set_option maxHeartbeats 4000000 in
set_option maxRecDepth 20000 in
theorem c_J0_coder_7d493 {σ : Mem} {x0 : Int} (hx0 : isS x0) {q : Int} (h : f_J0_coder_7d493 σ x0 = some q) : Ms yJ0_coder_7d493 M_J0_coder_7d493 218 218 [(3, x0)] rho σ (some (0, q), rho, σ) := by
  refine Ms.of 0 (by decide +kernel) rfl (fun z => absurd z (by decide)) (fun _ _ _ => trivial) rfl rfl ?_
  unfold f_J0_coder_7d493 at h
  show Ev M_J0_coder_7d493 218 218 _ 0 218 rho σ [(3, x0)] []
  refine ev_gsZ dJ0_coder_7d493_0 wf_J0_38 ?_
  refine ev_if_eq (tgt := 13) dJ0_coder_7d493_3 rfl h (fun cb h => ?_) (fun cb h => ?_)
  · refine ev_iconst dJ0_coder_7d493_13 (by decide) ?_
    obtain rfl := Option.some.inj h
    exact ev_cret (ty := .byte) dJ0_coder_7d493_14 rfl rfl rfl
  refine ev_aloadS dJ0_coder_7d493_6 rfl ?_
  refine ev_scod dJ0_coder_7d493_7 wf_J0_15 hx0 ?_
  refine ev_goto (tgt := 14) dJ0_coder_7d493_10 rfl ?_
  obtain rfl := Option.some.inj h
  exact ev_cret (ty := .byte) dJ0_coder_7d493_14 rfl rfl rfl
set_option maxHeartbeats 4000000 in
set_option maxRecDepth 20000 in
theorem c_J0_length_8abf5 {σ : Mem} {x0 : Int} (hx0 : isS x0) {q : Int} (h : f_J0_length_8abf5 σ x0 = some q) : Ms yJ0_length_8abf5 M_J0_length_8abf5 218 218 [(3, x0)] rho σ (some (0, q), rho, σ) := by
  refine Ms.of 0 (by decide +kernel) rfl (fun z => absurd z (by decide)) (fun _ _ _ => trivial) rfl rfl ?_
  unfold f_J0_length_8abf5 at h
  show Ev M_J0_length_8abf5 218 218 _ 0 218 rho σ [(3, x0)] []
  refine ev_aloadS dJ0_length_8abf5_0 rfl ?_
  refine ev_sval dJ0_length_8abf5_1 wf_J0_9 hx0 ?_
  refine ev_sbl dJ0_length_8abf5_4 hx0 (lnS_ok _) ?_
  refine ev_aloadS dJ0_length_8abf5_5 rfl ?_
  obtain ⟨v1, hc2, h⟩ := bind_of h
  refine ev_invVs_v (k := x0) (av := []) (st := [(0, (lnS x0))]) (v := (0, v1)) (τ := σ) dJ0_length_8abf5_6 ml_J0_335 mv_J0_coder_7d493 rfl hx0 rfl ⟨Nat.le_of_ble_eq_true rfl, Nat.le_of_ble_eq_true rfl⟩ (Nat.le_of_ble_eq_true rfl) (c_J0_coder_7d493 hx0 hc2) ?_
  refine ev_ishr dJ0_length_8abf5_9 ?_
  obtain rfl := Option.some.inj h
  exact ev_iret dJ0_length_8abf5_10 rfl rfl
set_option maxHeartbeats 4000000 in
set_option maxRecDepth 20000 in
theorem c_J0_isLatin1_aae02 {σ : Mem} {x0 : Int} (hx0 : isS x0) {q : Int} (h : f_J0_isLatin1_aae02 σ x0 = some q) : Ms yJ0_isLatin1_aae02 M_J0_isLatin1_aae02 218 218 [(3, x0)] rho σ (some (0, q), rho, σ) := by
  refine Ms.of 0 (by decide +kernel) rfl (fun z => absurd z (by decide)) (fun _ _ _ => trivial) rfl rfl ?_
  unfold f_J0_isLatin1_aae02 at h
  show Ev M_J0_isLatin1_aae02 218 218 _ 0 218 rho σ [(3, x0)] []
  refine ev_gsZ dJ0_isLatin1_aae02_0 wf_J0_38 ?_
  refine ev_if_eq (tgt := 17) dJ0_isLatin1_aae02_3 rfl h (fun cb h => ?_) (fun cb h => ?_)
  · refine ev_iconst dJ0_isLatin1_aae02_17 (by decide) ?_
    obtain rfl := Option.some.inj h
    exact ev_zret dJ0_isLatin1_aae02_18 rfl (chk_pos (.inl rfl))
  refine ev_aloadS dJ0_isLatin1_aae02_6 rfl ?_
  refine ev_scod dJ0_isLatin1_aae02_7 wf_J0_15 hx0 ?_
  refine ev_if_ne (tgt := 17) dJ0_isLatin1_aae02_10 rfl h (fun cb h => ?_) (fun cb h => ?_)
  · refine ev_iconst dJ0_isLatin1_aae02_17 (by decide) ?_
    obtain rfl := Option.some.inj h
    exact ev_zret dJ0_isLatin1_aae02_18 rfl (chk_pos (.inl rfl))
  refine ev_iconst dJ0_isLatin1_aae02_13 (by decide) ?_
  refine ev_goto (tgt := 18) dJ0_isLatin1_aae02_14 rfl ?_
  obtain rfl := Option.some.inj h
  exact ev_zret dJ0_isLatin1_aae02_18 rfl (chk_pos (.inr rfl))
set_option maxHeartbeats 4000000 in
set_option maxRecDepth 20000 in
theorem e_J3_checkIndex_8e157_9 (σ : Mem) (x0 x1 : Int)  {q : Int} (h : f_J3_checkIndex_8e157_9 σ x0 x1 = some q) : Ev M_J3_checkIndex_8e157 218 218 (some (0, q), rho, σ) 9 218 rho σ [(0, x0), (0, x1), (5, (0 : Int))] [] := by
  unfold f_J3_checkIndex_8e157_9 at h
  exact nomatch h
set_option maxHeartbeats 4000000 in
set_option maxRecDepth 20000 in
theorem c_J3_checkIndex_8e157 {σ : Mem} {x0 x1 : Int}  {q : Int} (h : f_J3_checkIndex_8e157 σ x0 x1 = some q) : Ms yJ3_checkIndex_8e157 M_J3_checkIndex_8e157 218 218 [(0, x0), (0, x1), (5, (0 : Int))] rho σ (some (0, q), rho, σ) := by
  refine Ms.of 0 (by decide +kernel) rfl (fun z => absurd z (by decide)) (fun _ _ _ => trivial) rfl rfl ?_
  unfold f_J3_checkIndex_8e157 at h
  show Ev M_J3_checkIndex_8e157 218 218 _ 0 218 rho σ [(0, x0), (0, x1), (5, (0 : Int))] []
  refine ev_iload_n dJ3_checkIndex_8e157_0 rfl ?_
  refine ev_if_lt (tgt := 9) dJ3_checkIndex_8e157_1 rfl h (fun cb h => ?_) (fun cb h => ?_)
  · exact ev_sub (L2 := [(0, x0), (0, x1), (5, (0 : Int))]) (e_J3_checkIndex_8e157_9 σ x0 x1 h) ⟨.inr rfl, .inr rfl, .inr rfl, trivial⟩
  refine ev_iload_n dJ3_checkIndex_8e157_4 rfl ?_
  refine ev_iload_n dJ3_checkIndex_8e157_5 rfl ?_
  refine ev_icmp_lt (tgt := 16) dJ3_checkIndex_8e157_6 rfl h (fun cb h => ?_) (fun cb h => ?_)
  · refine ev_iload_n dJ3_checkIndex_8e157_16 rfl ?_
    obtain rfl := Option.some.inj h
    exact ev_iret dJ3_checkIndex_8e157_17 rfl rfl
  exact ev_sub (L2 := [(0, x0), (0, x1), (5, (0 : Int))]) (e_J3_checkIndex_8e157_9 σ x0 x1 h) ⟨.inr rfl, .inr rfl, .inr rfl, trivial⟩
set_option maxHeartbeats 4000000 in
set_option maxRecDepth 20000 in
theorem c_J0_checkIndex_df160 {σ : Mem} {x0 x1 : Int}  {q : Unit} (h : f_J0_checkIndex_df160 σ x0 x1 = some q) : Ms yJ0_checkIndex_df160 M_J0_checkIndex_df160 218 218 [(0, x0), (0, x1)] rho σ (none, rho, σ) := by
  refine Ms.of 0 (by decide +kernel) rfl (fun z => absurd z (by decide)) (fun _ _ _ => trivial) rfl rfl ?_
  unfold f_J0_checkIndex_df160 at h
  show Ev M_J0_checkIndex_df160 218 218 _ 0 218 rho σ [(0, x0), (0, x1)] []
  refine ev_iload_n dJ0_checkIndex_df160_0 rfl ?_
  refine ev_iload_n dJ0_checkIndex_df160_1 rfl ?_
  refine ev_gsO dJ0_checkIndex_df160_2 wf_J0_1053 ?_
  obtain ⟨v1, hc2, h⟩ := bind_of h
  refine ev_invS_v (av := [(0, x0), (0, x1), (5, (0 : Int))]) (st := []) (v := (0, v1)) (τ := σ) dJ0_checkIndex_df160_5 ml_J0_1059 mt_J3_checkIndex_8e157 rfl ⟨Nat.le_of_ble_eq_true rfl, Nat.le_of_ble_eq_true rfl⟩ (Nat.le_of_ble_eq_true rfl) (c_J3_checkIndex_8e157 hc2) ?_
  refine ev_pop dJ0_checkIndex_df160_8 (show (0 : Nat) ≠ 1 by decide) ?_
  obtain rfl := Option.some.inj h
  exact ev_vret dJ0_checkIndex_df160_9 rfl rfl
set_option maxHeartbeats 4000000 in
set_option maxRecDepth 20000 in
theorem c_J1_charAt_3b067 {σ : Mem} {x0 x1 : Int} (hx0 : isS x0) {q : Int} (h : f_J1_charAt_3b067 σ x0 x1 = some q) : Ms yJ1_charAt_3b067 M_J1_charAt_3b067 218 218 [(3, (100000 + x0)), (0, x1)] rho σ (some (0, q), rho, σ) := by
  refine Ms.of 0 (by decide +kernel) rfl (fun z => absurd z (by decide)) (fun _ _ _ => trivial) rfl rfl ?_
  unfold f_J1_charAt_3b067 at h
  show Ev M_J1_charAt_3b067 218 218 _ 0 218 rho σ [(3, (100000 + x0)), (0, x1)] []
  refine ev_iload_n dJ1_charAt_3b067_0 rfl ?_
  refine ev_aloadS dJ1_charAt_3b067_1 rfl ?_
  refine ev_sbl dJ1_charAt_3b067_2 hx0 (lnS_ok _) ?_
  obtain ⟨v1, hc2, h⟩ := bind_of h
  refine ev_invS_n (av := [(0, x1), (0, (lnS x0))]) (st := []) (τ := σ) dJ1_charAt_3b067_3 ml_J1_9 mt_J0_checkIndex_df160 rfl ⟨Nat.le_of_ble_eq_true rfl, Nat.le_of_ble_eq_true rfl⟩ (Nat.le_of_ble_eq_true rfl) (c_J0_checkIndex_df160 hc2) ?_
  refine ev_aloadS dJ1_charAt_3b067_6 rfl ?_
  refine ev_iload_n dJ1_charAt_3b067_7 rfl ?_
  refine ev_sbld dJ1_charAt_3b067_8 hx0 h (fun h => ?_)
  refine ev_sipush dJ1_charAt_3b067_9 (by decide) (by decide) ?_
  refine ev_iand dJ1_charAt_3b067_12 ?_
  refine ev_i2c dJ1_charAt_3b067_13 ?_
  obtain ⟨hz, h⟩ := chk_of h
  obtain rfl := Option.some.inj h
  exact ev_cret (ty := .char) dJ1_charAt_3b067_14 rfl (nar_chr hz) rfl
set_option maxHeartbeats 4000000 in
set_option maxRecDepth 20000 in
theorem c_J0_charAt_5068e {σ : Mem} {x0 x1 : Int} (hx0 : isS x0) {q : Int} (h : f_J0_charAt_5068e σ x0 x1 = some q) : Ms yJ0_charAt_5068e M_J0_charAt_5068e 218 218 [(3, x0), (0, x1)] rho σ (some (0, q), rho, σ) := by
  refine Ms.of 0 (by decide +kernel) rfl (fun z => absurd z (by decide)) (fun _ _ _ => trivial) rfl rfl ?_
  unfold f_J0_charAt_5068e at h
  show Ev M_J0_charAt_5068e 218 218 _ 0 218 rho σ [(3, x0), (0, x1)] []
  refine ev_aloadS dJ0_charAt_5068e_0 rfl ?_
  obtain ⟨v1, hc2, h⟩ := bind_of h
  refine ev_invVs_v (k := x0) (av := []) (st := []) (v := (0, v1)) (τ := σ) dJ0_charAt_5068e_1 ml_J0_492 mv_J0_isLatin1_aae02 rfl hx0 rfl ⟨Nat.le_of_ble_eq_true rfl, Nat.le_of_ble_eq_true rfl⟩ (Nat.le_of_ble_eq_true rfl) (c_J0_isLatin1_aae02 hx0 hc2) ?_
  refine ev_if_eq (tgt := 16) dJ0_charAt_5068e_4 rfl h (fun cb h => ?_) (fun cb h => ?_)
  · refine ev_aloadS dJ0_charAt_5068e_16 rfl ?_
    refine ev_sval dJ0_charAt_5068e_17 wf_J0_9 hx0 ?_
    refine ev_iload_n dJ0_charAt_5068e_20 rfl ?_
    exact nomatch h
  refine ev_aloadS dJ0_charAt_5068e_7 rfl ?_
  refine ev_sval dJ0_charAt_5068e_8 wf_J0_9 hx0 ?_
  refine ev_iload_n dJ0_charAt_5068e_11 rfl ?_
  obtain ⟨v3, hc4, h⟩ := bind_of h
  refine ev_invS_v (av := [(3, (100000 + x0)), (0, x1)]) (st := []) (v := (0, v3)) (τ := σ) dJ0_charAt_5068e_12 ml_J0_495 mt_J1_charAt_3b067 rfl ⟨Nat.le_of_ble_eq_true rfl, Nat.le_of_ble_eq_true rfl⟩ (Nat.le_of_ble_eq_true rfl) (c_J1_charAt_3b067 hx0 hc4) ?_
  obtain ⟨hz, h⟩ := chk_of h
  obtain rfl := Option.some.inj h
  exact ev_cret (ty := .char) dJ0_charAt_5068e_15 rfl (nar_chr hz) rfl
def K_X7_isWord_20 (σ : Mem) (x1 : Int) (r : Option V × Mem × Mem) : (Int) ⊕ ((Unit) ⊕ (Unit)) → Prop := Sum.elim (fun a => Ev M_X7_isWord 218 218 r 20 218 rho σ [(2, (28 : Int)), (3, x1), (0, a)] []) (Sum.elim (fun e => Ev M_X7_isWord 218 218 r 46 218 rho σ [(9, 0), (9, 0), (9, 0)] []) (fun e => Ev M_X7_isWord 218 218 r 54 218 rho σ [(9, 0), (9, 0), (9, 0)] []))
set_option maxHeartbeats 4000000 in
set_option maxRecDepth 20000 in
theorem b_X7_isWord_20 (σ : Mem) (x1 : Int) (hx1 : isS x1) {r : Option V × Mem × Mem} : ∀ a x, f_X7_isWord_20B σ x1 a = some x → K_X7_isWord_20 σ x1 r x → K_X7_isWord_20 σ x1 r (.inl a) := by
  intro a x h K
  have ⟨x2, ea⟩ : ∃ z, z = a := ⟨_, rfl⟩
  subst ea
  have h : f_X7_isWord_20C σ x1 x2 = some x := h
  unfold f_X7_isWord_20C at h
  show Ev M_X7_isWord 218 218 r 20 218 rho σ [(2, (28 : Int)), (3, x1), (0, x2)] []
  refine ev_iload_n dX7_isWord_20 rfl ?_
  refine ev_aloadS dX7_isWord_21 rfl ?_
  obtain ⟨v3, hc4, h⟩ := bind_of h
  refine ev_invVs_v (k := x1) (av := []) (st := [(0, x2)]) (v := (0, v3)) (τ := σ) dX7_isWord_22 ml_X7_139 mv_J0_length_8abf5 rfl hx1 rfl ⟨Nat.le_of_ble_eq_true rfl, Nat.le_of_ble_eq_true rfl⟩ (Nat.le_of_ble_eq_true rfl) (c_J0_length_8abf5 hx1 hc4) ?_
  refine ev_icmp_ge (tgt := 54) dX7_isWord_25 rfl h (fun cb h => ?_) (fun cb h => ?_)
  · obtain rfl := Option.some.inj h
    exact ev_sub (L2 := [(9, 0), (9, 0), (9, 0)]) K ⟨.inl rfl, .inl rfl, .inl rfl, trivial⟩
  refine ev_aload_n dX7_isWord_28 rfl (by decide) ?_
  refine ev_aload_n dX7_isWord_29 rfl (by decide) ?_
  refine ev_getf (j := 3) (t := 0) (x := (σ (28 : Int) 3)) dX7_isWord_30 cf_X7 wf_X7_36 sp28 (by decide) (by decide) rfl (by decide) rfl ?_
  refine ev_iload_n dX7_isWord_33 rfl ?_
  refine ev_iadd dX7_isWord_34 ?_
  obtain ⟨v5, hc6, h⟩ := bind_of h
  refine ev_invV_v (k := (28 : Int)) (av := [(0, (jadd (σ (28 : Int) 3) x2))]) (st := []) (v := (0, v5)) (τ := σ) dX7_isWord_35 ml_X7_32 mv_X7_byteAt (T := TX7) (ci := 6) rfl sp28 (by decide) (by decide) rfl ⟨Nat.le_of_ble_eq_true rfl, Nat.le_of_ble_eq_true rfl⟩ (Nat.le_of_ble_eq_true rfl) (c_X7_byteAt hc6) ?_
  refine ev_aloadS dX7_isWord_38 rfl ?_
  refine ev_iload_n dX7_isWord_39 rfl ?_
  obtain ⟨v7, hc8, h⟩ := bind_of h
  refine ev_invVs_v (k := x1) (av := [(0, x2)]) (st := [(0, v5)]) (v := (0, v7)) (τ := σ) dX7_isWord_40 ml_X7_145 mv_J0_charAt_5068e rfl hx1 rfl ⟨Nat.le_of_ble_eq_true rfl, Nat.le_of_ble_eq_true rfl⟩ (Nat.le_of_ble_eq_true rfl) (c_J0_charAt_5068e hx1 hc8) ?_
  refine ev_icmp_eq (tgt := 48) dX7_isWord_43 rfl h (fun cb h => ?_) (fun cb h => ?_)
  · refine ev_iincG dX7_isWord_48 rfl h rfl (fun v9 h => ?_)
    show Ev _ _ _ _ 51 _ _ _ [(2, (28 : Int)), (3, x1), (0, v9)] _
    refine ev_goto (tgt := 20) dX7_isWord_51 rfl ?_
    obtain rfl := Option.some.inj h
    exact ev_sub (L2 := [(2, (28 : Int)), (3, x1), (0, v9)]) K ⟨.inr rfl, .inr rfl, .inr rfl, trivial⟩
  obtain rfl := Option.some.inj h
  exact ev_sub (L2 := [(9, 0), (9, 0), (9, 0)]) K ⟨.inl rfl, .inl rfl, .inl rfl, trivial⟩
set_option maxHeartbeats 4000000 in
set_option maxRecDepth 20000 in
theorem e_X7_isWord_20 (σ : Mem) (x1 x2 : Int) (hx1 : isS x1) {q : Int} (h : f_X7_isWord_20 σ x1 x2 = some q) : Ev M_X7_isWord 218 218 (some (0, q), rho, σ) 20 218 rho σ [(2, (28 : Int)), (3, x1), (0, x2)] [] := by
  unfold f_X7_isWord_20 at h
  obtain ⟨e, hl, h⟩ := bind_of h
  refine loop_ev (K := K_X7_isWord_20 σ x1 (some (0, q), rho, σ)) (b_X7_isWord_20 σ x1 hx1) FU x2 e hl ?_
  rcases e with e | e
  · show Ev M_X7_isWord 218 218 _ 46 218 rho σ [(9, 0), (9, 0), (9, 0)] []
    replace h : some (0 : Int) = some q := h
    refine ev_iconst dX7_isWord_46 (by decide) ?_
    obtain rfl := Option.some.inj h
    exact ev_zret dX7_isWord_47 rfl (chk_pos (.inl rfl))
  · show Ev M_X7_isWord 218 218 _ 54 218 rho σ [(9, 0), (9, 0), (9, 0)] []
    replace h : some (1 : Int) = some q := h
    refine ev_iconst dX7_isWord_54 (by decide) ?_
    obtain rfl := Option.some.inj h
    exact ev_zret dX7_isWord_55 rfl (chk_pos (.inr rfl))
set_option maxHeartbeats 4000000 in
set_option maxRecDepth 20000 in
theorem c_X7_isWord {σ : Mem} {x1 : Int} (hx1 : isS x1) {q : Int} (h : f_X7_isWord σ x1 = some q) : Ms yX7_isWord M_X7_isWord 218 218 [(2, (28 : Int)), (3, x1)] rho σ (some (0, q), rho, σ) := by
  refine Ms.of 1 (by decide +kernel) rfl (fun z => absurd z (by decide)) (fun _ _ _ => trivial) rfl rfl ?_
  unfold f_X7_isWord at h
  show Ev M_X7_isWord 218 218 _ 0 218 rho σ [(2, (28 : Int)), (3, x1), (9, 0)] []
  refine ev_aload_n dX7_isWord_0 rfl (by decide) ?_
  refine ev_getf (j := 2) (t := 0) (x := (σ (28 : Int) 2)) dX7_isWord_1 cf_X7 wf_X7_22 sp28 (by decide) (by decide) rfl (by decide) rfl ?_
  refine ev_aload_n dX7_isWord_4 rfl (by decide) ?_
  refine ev_getf (j := 3) (t := 0) (x := (σ (28 : Int) 3)) dX7_isWord_5 cf_X7 wf_X7_36 sp28 (by decide) (by decide) rfl (by decide) rfl ?_
  refine ev_isub dX7_isWord_8 ?_
  refine ev_aloadS dX7_isWord_9 rfl ?_
  obtain ⟨v1, hc2, h⟩ := bind_of h
  refine ev_invVs_v (k := x1) (av := []) (st := [(0, (jsub (σ (28 : Int) 2) (σ (28 : Int) 3)))]) (v := (0, v1)) (τ := σ) dX7_isWord_10 ml_X7_139 mv_J0_length_8abf5 rfl hx1 rfl ⟨Nat.le_of_ble_eq_true rfl, Nat.le_of_ble_eq_true rfl⟩ (Nat.le_of_ble_eq_true rfl) (c_J0_length_8abf5 hx1 hc2) ?_
  refine ev_icmp_eq (tgt := 18) dX7_isWord_13 rfl h (fun cb h => ?_) (fun cb h => ?_)
  · refine ev_iconst dX7_isWord_18 (by decide) ?_
    refine ev_istore_n dX7_isWord_19 rfl (by decide) ?_
    show Ev _ _ _ _ 20 _ _ _ [(2, (28 : Int)), (3, x1), (0, (0 : Int))] _
    exact ev_sub (L2 := [(2, (28 : Int)), (3, x1), (0, (0 : Int))]) (e_X7_isWord_20 σ x1 (0 : Int) hx1 h) ⟨.inr rfl, .inr rfl, .inr rfl, trivial⟩
  refine ev_iconst dX7_isWord_16 (by decide) ?_
  obtain rfl := Option.some.inj h
  exact ev_zret dX7_isWord_17 rfl (chk_pos (.inl rfl))
set_option maxHeartbeats 4000000 in
set_option maxRecDepth 20000 in
theorem c_X7_faultHere {σ : Mem}  {q : (Int × Mem)} (h : f_X7_faultHere σ  = some q) : Ms yX7_faultHere M_X7_faultHere 218 218 [(2, (28 : Int))] rho σ (some (0, q.1), rho, q.2) := by
  refine Ms.of 0 (by decide +kernel) rfl (fun z => absurd z (by decide)) (fun _ _ _ => trivial) rfl rfl ?_
  unfold f_X7_faultHere at h
  show Ev M_X7_faultHere 218 218 _ 0 218 rho σ [(2, (28 : Int))] []
  refine ev_aload_n dX7_faultHere_0 rfl (by decide) ?_
  refine ev_aload_n dX7_faultHere_1 rfl (by decide) ?_
  refine ev_getf (j := 3) (t := 0) (x := (σ (28 : Int) 3)) dX7_faultHere_2 cf_X7 wf_X7_36 sp28 (by decide) (by decide) rfl (by decide) rfl ?_
  refine ev_putfG (j := 4) (t := 0) dX7_faultHere_5 cf_X7 wf_X7_19 sp28 (by decide) (by decide) rfl (by decide) (by decide) rfl (fun z => absurd z (by decide +kernel)) h (fun σ1 h => ?_)
  refine ev_iconst dX7_faultHere_8 (by decide) ?_
  obtain rfl := Option.some.inj h
  exact ev_zret dX7_faultHere_9 rfl (chk_pos (.inl rfl))
set_option maxHeartbeats 4000000 in
set_option maxRecDepth 20000 in
theorem c_X7_isDigit {σ : Mem} {x0 : Int}  {q : Int} (h : f_X7_isDigit σ x0 = some q) : Ms yX7_isDigit M_X7_isDigit 218 218 [(0, x0)] rho σ (some (0, q), rho, σ) := by
  refine Ms.of 0 (by decide +kernel) rfl (fun z => absurd z (by decide)) (fun _ _ _ => trivial) rfl rfl ?_
  unfold f_X7_isDigit at h
  show Ev M_X7_isDigit 218 218 _ 0 218 rho σ [(0, x0)] []
  refine ev_iload_n dX7_isDigit_0 rfl ?_
  refine ev_bipush dX7_isDigit_1 (by decide) (by decide) ?_
  refine ev_icmp_lt (tgt := 16) dX7_isDigit_3 rfl h (fun cb h => ?_) (fun cb h => ?_)
  · refine ev_iconst dX7_isDigit_16 (by decide) ?_
    obtain rfl := Option.some.inj h
    exact ev_zret dX7_isDigit_17 rfl (chk_pos (.inl rfl))
  refine ev_iload_n dX7_isDigit_6 rfl ?_
  refine ev_bipush dX7_isDigit_7 (by decide) (by decide) ?_
  refine ev_icmp_gt (tgt := 16) dX7_isDigit_9 rfl h (fun cb h => ?_) (fun cb h => ?_)
  · refine ev_iconst dX7_isDigit_16 (by decide) ?_
    obtain rfl := Option.some.inj h
    exact ev_zret dX7_isDigit_17 rfl (chk_pos (.inl rfl))
  refine ev_iconst dX7_isDigit_12 (by decide) ?_
  refine ev_goto (tgt := 17) dX7_isDigit_13 rfl ?_
  obtain rfl := Option.some.inj h
  exact ev_zret dX7_isDigit_17 rfl (chk_pos (.inr rfl))
def K_X7_number_20 (x1 x2 : Int) (r : Option V × Mem × Mem) : (Int × Int × Int × Mem) ⊕ ((Int × Int × Mem)) → Prop := Sum.elim (fun a => Ev M_X7_number 218 218 r 20 218 rho a.2.2.2 [(2, (28 : Int)), (0, x1), (0, x2), (0, a.1), (0, a.2.1), (0, a.2.2.1)] []) (fun e => Ev M_X7_number 218 218 r 84 218 rho e.2.2 [(2, (28 : Int)), (0, x1), (0, x2), (0, e.1), (0, e.2.1), (9, 0)] [])
set_option maxHeartbeats 4000000 in
set_option maxRecDepth 20000 in
theorem e_X7_number_65 (σ : Mem) (x1 x2 x3 x4 x5 : Int)  {q : ((Int × Int × Int × Mem) ⊕ ((Int × Int × Mem)))} (h : f_X7_number_65 σ x1 x2 x3 x4 x5 = some q) {r : Option V × Mem × Mem} (K : K_X7_number_20 x1 x2 r q) : Ev M_X7_number 218 218 r 65 218 rho σ [(2, (28 : Int)), (0, x1), (0, x2), (0, x3), (0, x4), (0, x5)] [] := by
  unfold f_X7_number_65 at h
  refine ev_iincG dX7_number_65 rfl h rfl (fun v11 h => ?_)
  show Ev _ _ _ _ 68 _ _ _ [(2, (28 : Int)), (0, x1), (0, x2), (0, x3), (0, v11), (0, x5)] _
  refine ev_aload_n dX7_number_68 rfl (by decide) ?_
  refine ev_dup dX7_number_69 (show (2 : Nat) ≠ 1 by decide) ?_
  refine ev_getf (j := 2) (t := 0) (x := (σ (28 : Int) 2)) dX7_number_70 cf_X7 wf_X7_22 sp28 (by decide) (by decide) rfl (by decide) rfl ?_
  refine ev_iconst dX7_number_73 (by decide) ?_
  refine ev_iadd dX7_number_74 ?_
  refine ev_putfG (j := 2) (t := 0) dX7_number_75 cf_X7 wf_X7_22 sp28 (by decide) (by decide) rfl (by decide) (by decide) rfl (fun z => absurd z (by decide +kernel)) h (fun σ12 h => ?_)
  refine ev_iincG dX7_number_78 rfl h rfl (fun v13 h => ?_)
  show Ev _ _ _ _ 81 _ _ _ [(2, (28 : Int)), (0, x1), (0, x2), (0, x3), (0, v11), (0, v13)] _
  refine ev_goto (tgt := 20) dX7_number_81 rfl ?_
  obtain rfl := Option.some.inj h
  exact ev_sub (L2 := [(2, (28 : Int)), (0, x1), (0, x2), (0, x3), (0, v11), (0, v13)]) K ⟨.inr rfl, .inr rfl, .inr rfl, .inr rfl, .inr rfl, .inr rfl, trivial⟩
set_option maxHeartbeats 4000000 in
set_option maxRecDepth 20000 in
theorem e_X7_number_105 (σ : Mem)  {q : (Int × Mem)} (h : f_X7_number_105 σ  = some q) : Ev M_X7_number 218 218 (some (0, q.1), rho, q.2) 105 218 rho σ [(2, (28 : Int)), (9, 0), (9, 0), (9, 0), (9, 0), (9, 0)] [] := by
  unfold f_X7_number_105 at h
  refine ev_aload_n dX7_number_105 rfl (by decide) ?_
  obtain ⟨v14, hc15, h⟩ := bind_of h
  refine ev_invV_v (k := (28 : Int)) (av := []) (st := []) (v := (0, v14.1)) (τ := v14.2) dX7_number_106 ml_X7_87 mv_X7_faultHere (T := TX7) (ci := 6) rfl sp28 (by decide) (by decide) rfl ⟨Nat.le_of_ble_eq_true rfl, Nat.le_of_ble_eq_true rfl⟩ (Nat.le_of_ble_eq_true rfl) (c_X7_faultHere hc15) ?_
  refine ev_pop dX7_number_109 (show (0 : Nat) ≠ 1 by decide) ?_
  refine ev_iconst dX7_number_110 (by decide) ?_
  obtain rfl := Option.some.inj h
  dsimp only
  exact ev_iret dX7_number_111 rfl rfl
set_option maxHeartbeats 4000000 in
set_option maxRecDepth 20000 in
theorem e_X7_number_84 (σ : Mem) (x1 x2 x3 x4 : Int)  {q : (Int × Mem)} (h : f_X7_number_84 σ x1 x2 x3 x4 = some q) : Ev M_X7_number 218 218 (some (0, q.1), rho, q.2) 84 218 rho σ [(2, (28 : Int)), (0, x1), (0, x2), (0, x3), (0, x4), (9, 0)] [] := by
  unfold f_X7_number_84 at h
  refine ev_iload dX7_number_84 rfl ?_
  refine ev_if_eq (tgt := 105) dX7_number_86 rfl h (fun cb h => ?_) (fun cb h => ?_)
  · exact ev_sub (L2 := [(2, (28 : Int)), (9, 0), (9, 0), (9, 0), (9, 0), (9, 0)]) (e_X7_number_105 σ h) ⟨.inr rfl, .inl rfl, .inl rfl, .inl rfl, .inl rfl, .inl rfl, trivial⟩
  refine ev_iload dX7_number_89 rfl ?_
  refine ev_iconst dX7_number_91 (by decide) ?_
  refine ev_icmp_gt (tgt := 105) dX7_number_92 rfl h (fun cb h => ?_) (fun cb h => ?_)
  · exact ev_sub (L2 := [(2, (28 : Int)), (9, 0), (9, 0), (9, 0), (9, 0), (9, 0)]) (e_X7_number_105 σ h) ⟨.inr rfl, .inl rfl, .inl rfl, .inl rfl, .inl rfl, .inl rfl, trivial⟩
  refine ev_iload_n dX7_number_95 rfl ?_
  refine ev_iload_n dX7_number_96 rfl ?_
  refine ev_icmp_lt (tgt := 105) dX7_number_97 rfl h (fun cb h => ?_) (fun cb h => ?_)
  · exact ev_sub (L2 := [(2, (28 : Int)), (9, 0), (9, 0), (9, 0), (9, 0), (9, 0)]) (e_X7_number_105 σ h) ⟨.inr rfl, .inl rfl, .inl rfl, .inl rfl, .inl rfl, .inl rfl, trivial⟩
  refine ev_iload_n dX7_number_100 rfl ?_
  refine ev_iload_n dX7_number_101 rfl ?_
  refine ev_icmp_le (tgt := 112) dX7_number_102 rfl h (fun cb h => ?_) (fun cb h => ?_)
  · refine ev_iload_n dX7_number_112 rfl ?_
    obtain rfl := Option.some.inj h
    dsimp only
    exact ev_iret dX7_number_113 rfl rfl
  exact ev_sub (L2 := [(2, (28 : Int)), (9, 0), (9, 0), (9, 0), (9, 0), (9, 0)]) (e_X7_number_105 σ h) ⟨.inr rfl, .inl rfl, .inl rfl, .inl rfl, .inl rfl, .inl rfl, trivial⟩
set_option maxHeartbeats 4000000 in
set_option maxRecDepth 20000 in
theorem b_X7_number_20 (x1 x2 : Int)  {r : Option V × Mem × Mem} : ∀ a x, f_X7_number_20B x1 x2 a = some x → K_X7_number_20 x1 x2 r x → K_X7_number_20 x1 x2 r (.inl a) := by
  intro a x h K
  obtain ⟨x3, x4, x5, σ⟩ := a
  have h : f_X7_number_20C x1 x2 x3 x4 x5 σ = some x := h
  unfold f_X7_number_20C at h
  show Ev M_X7_number 218 218 r 20 218 rho σ [(2, (28 : Int)), (0, x1), (0, x2), (0, x3), (0, x4), (0, x5)] []
  refine ev_iload dX7_number_20 rfl ?_
  refine ev_sipush dX7_number_22 (by decide) (by decide) ?_
  refine ev_icmp_ge (tgt := 84) dX7_number_25 rfl h (fun cb h => ?_) (fun cb h => ?_)
  · obtain rfl := Option.some.inj h
    exact ev_sub (L2 := [(2, (28 : Int)), (0, x1), (0, x2), (0, x3), (0, x4), (9, 0)]) K ⟨.inr rfl, .inr rfl, .inr rfl, .inr rfl, .inr rfl, .inl rfl, trivial⟩
  refine ev_aload_n dX7_number_28 rfl (by decide) ?_
  refine ev_aload_n dX7_number_29 rfl (by decide) ?_
  refine ev_getf (j := 2) (t := 0) (x := (σ (28 : Int) 2)) dX7_number_30 cf_X7 wf_X7_22 sp28 (by decide) (by decide) rfl (by decide) rfl ?_
  obtain ⟨v4, hc5, h⟩ := bind_of h
  refine ev_invV_v (k := (28 : Int)) (av := [(0, (σ (28 : Int) 2))]) (st := []) (v := (0, v4)) (τ := σ) dX7_number_33 ml_X7_32 mv_X7_byteAt (T := TX7) (ci := 6) rfl sp28 (by decide) (by decide) rfl ⟨Nat.le_of_ble_eq_true rfl, Nat.le_of_ble_eq_true rfl⟩ (Nat.le_of_ble_eq_true rfl) (c_X7_byteAt hc5) ?_
  obtain ⟨v6, hc7, h⟩ := bind_of h
  refine ev_invS_v (av := [(0, v4)]) (st := []) (v := (0, v6)) (τ := σ) dX7_number_36 ml_X7_136 mt_X7_isDigit rfl ⟨Nat.le_of_ble_eq_true rfl, Nat.le_of_ble_eq_true rfl⟩ (Nat.le_of_ble_eq_true rfl) (c_X7_isDigit hc7) ?_
  refine ev_if_eq (tgt := 84) dX7_number_39 rfl h (fun cb h => ?_) (fun cb h => ?_)
  · obtain rfl := Option.some.inj h
    exact ev_sub (L2 := [(2, (28 : Int)), (0, x1), (0, x2), (0, x3), (0, x4), (9, 0)]) K ⟨.inr rfl, .inr rfl, .inr rfl, .inr rfl, .inr rfl, .inl rfl, trivial⟩
  refine ev_iload dX7_number_42 rfl ?_
  refine ev_iconst dX7_number_44 (by decide) ?_
  refine ev_icmp_ge (tgt := 65) dX7_number_45 rfl h (fun cb h => ?_) (fun cb h => ?_)
  · exact ev_sub (L2 := [(2, (28 : Int)), (0, x1), (0, x2), (0, x3), (0, x4), (0, x5)]) (e_X7_number_65 σ x1 x2 x3 x4 x5 h K) ⟨.inr rfl, .inr rfl, .inr rfl, .inr rfl, .inr rfl, .inr rfl, trivial⟩
  refine ev_iload_n dX7_number_48 rfl ?_
  refine ev_bipush dX7_number_49 (by decide) (by decide) ?_
  refine ev_imul dX7_number_51 ?_
  refine ev_aload_n dX7_number_52 rfl (by decide) ?_
  refine ev_aload_n dX7_number_53 rfl (by decide) ?_
  refine ev_getf (j := 2) (t := 0) (x := (σ (28 : Int) 2)) dX7_number_54 cf_X7 wf_X7_22 sp28 (by decide) (by decide) rfl (by decide) rfl ?_
  obtain ⟨v8, hc9, h⟩ := bind_of h
  refine ev_invV_v (k := (28 : Int)) (av := [(0, (σ (28 : Int) 2))]) (st := [(0, (jmul x3 (10 : Int)))]) (v := (0, v8)) (τ := σ) dX7_number_57 ml_X7_32 mv_X7_byteAt (T := TX7) (ci := 6) rfl sp28 (by decide) (by decide) rfl ⟨Nat.le_of_ble_eq_true rfl, Nat.le_of_ble_eq_true rfl⟩ (Nat.le_of_ble_eq_true rfl) (c_X7_byteAt hc9) ?_
  refine ev_iadd dX7_number_60 ?_
  refine ev_bipush dX7_number_61 (by decide) (by decide) ?_
  refine ev_isub dX7_number_63 ?_
  refine ev_istore_nG dX7_number_64 h rfl (by decide) (fun v10 h => ?_)
  show Ev _ _ _ _ 65 _ _ _ [(2, (28 : Int)), (0, x1), (0, x2), (0, v10), (0, x4), (0, x5)] _
  exact ev_sub (L2 := [(2, (28 : Int)), (0, x1), (0, x2), (0, v10), (0, x4), (0, x5)]) (e_X7_number_65 σ x1 x2 v10 x4 x5 h K) ⟨.inr rfl, .inr rfl, .inr rfl, .inr rfl, .inr rfl, .inr rfl, trivial⟩
set_option maxHeartbeats 4000000 in
set_option maxRecDepth 20000 in
theorem e_X7_number_20 (σ : Mem) (x1 x2 x3 x4 x5 : Int)  {q : (Int × Mem)} (h : f_X7_number_20 σ x1 x2 x3 x4 x5 = some q) : Ev M_X7_number 218 218 (some (0, q.1), rho, q.2) 20 218 rho σ [(2, (28 : Int)), (0, x1), (0, x2), (0, x3), (0, x4), (0, x5)] [] := by
  unfold f_X7_number_20 at h
  obtain ⟨e, hl, h⟩ := bind_of h
  refine loop_ev (K := K_X7_number_20 x1 x2 (some (0, q.1), rho, q.2)) (b_X7_number_20 x1 x2) FU (x3, x4, x5, σ) e hl ?_
  show Ev M_X7_number 218 218 _ 84 218 rho e.2.2 [(2, (28 : Int)), (0, x1), (0, x2), (0, e.1), (0, e.2.1), (9, 0)] []
  replace h : f_X7_number_84 e.2.2 x1 x2 e.1 e.2.1 = some q := h
  exact ev_sub (L2 := [(2, (28 : Int)), (0, x1), (0, x2), (0, e.1), (0, e.2.1), (9, 0)]) (e_X7_number_84 e.2.2 x1 x2 e.1 e.2.1 h) ⟨.inr rfl, .inr rfl, .inr rfl, .inr rfl, .inr rfl, .inl rfl, trivial⟩
set_option maxHeartbeats 4000000 in
set_option maxRecDepth 20000 in
theorem c_X7_number {σ : Mem} {x1 x2 : Int}  {q : (Int × Mem)} (h : f_X7_number σ x1 x2 = some q) : Ms yX7_number M_X7_number 218 218 [(2, (28 : Int)), (0, x1), (0, x2)] rho σ (some (0, q.1), rho, q.2) := by
  refine Ms.of 3 (by decide +kernel) rfl (fun z => absurd z (by decide)) (fun _ _ _ => trivial) rfl rfl ?_
  unfold f_X7_number at h
  show Ev M_X7_number 218 218 _ 0 218 rho σ [(2, (28 : Int)), (0, x1), (0, x2), (9, 0), (9, 0), (9, 0)] []
  refine ev_aload_n dX7_number_0 rfl (by decide) ?_
  obtain ⟨σ1, hc2, h⟩ := bind_of h
  refine ev_invV_n (k := (28 : Int)) (av := []) (st := []) (τ := σ1) dX7_number_1 ml_X7_29 mv_X7_skipBlanks (T := TX7) (ci := 6) rfl sp28 (by decide) (by decide) rfl ⟨Nat.le_of_ble_eq_true rfl, Nat.le_of_ble_eq_true rfl⟩ (Nat.le_of_ble_eq_true rfl) (c_X7_skipBlanks hc2) ?_
  refine ev_aload_n dX7_number_4 rfl (by decide) ?_
  refine ev_aload_n dX7_number_5 rfl (by decide) ?_
  refine ev_getf (j := 2) (t := 0) (x := (σ1 (28 : Int) 2)) dX7_number_6 cf_X7 wf_X7_22 sp28 (by decide) (by decide) rfl (by decide) rfl ?_
  refine ev_putfG (j := 3) (t := 0) dX7_number_9 cf_X7 wf_X7_36 sp28 (by decide) (by decide) rfl (by decide) (by decide) rfl (fun z => absurd z (by decide +kernel)) h (fun σ3 h => ?_)
  refine ev_iconst dX7_number_12 (by decide) ?_
  refine ev_istore_n dX7_number_13 rfl (by decide) ?_
  show Ev _ _ _ _ 14 _ _ _ [(2, (28 : Int)), (0, x1), (0, x2), (0, (0 : Int)), (9, 0), (9, 0)] _
  refine ev_iconst dX7_number_14 (by decide) ?_
  refine ev_istore dX7_number_15 rfl (by decide) ?_
  show Ev _ _ _ _ 17 _ _ _ [(2, (28 : Int)), (0, x1), (0, x2), (0, (0 : Int)), (0, (0 : Int)), (9, 0)] _
  refine ev_iconst dX7_number_17 (by decide) ?_
  show Ev _ _ _ _ 18 _ _ _ _ _
  refine ev_istore dX7_number_18 rfl (by decide) ?_
  show Ev _ _ _ _ 20 _ _ _ [(2, (28 : Int)), (0, x1), (0, x2), (0, (0 : Int)), (0, (0 : Int)), (0, (0 : Int))] _
  exact ev_sub (L2 := [(2, (28 : Int)), (0, x1), (0, x2), (0, (0 : Int)), (0, (0 : Int)), (0, (0 : Int))]) (e_X7_number_20 σ3 x1 x2 (0 : Int) (0 : Int) (0 : Int) h) ⟨.inr rfl, .inr rfl, .inr rfl, .inr rfl, .inr rfl, .inr rfl, trivial⟩
set_option maxHeartbeats 4000000 in
set_option maxRecDepth 20000 in
theorem e_X7_readPaper_54 (σ : Mem) (x2 x3 s0 : Int)  {q : (Int × Mem)} (h : f_X7_readPaper_54 σ x2 x3 s0 = some q) : Ev M_X7_readPaper 218 218 (some (0, q.1), rho, q.2) 54 218 rho σ [(9, 0), (2, (10 : Int)), (0, x2), (0, x3), (9, 0)] [(0, s0)] := by
  unfold f_X7_readPaper_54 at h
  refine ev_istore dX7_readPaper_54 rfl (by decide) ?_
  show Ev _ _ _ _ 56 _ _ _ [(9, 0), (2, (10 : Int)), (0, x2), (0, x3), (0, s0)] _
  refine ev_iload dX7_readPaper_56 rfl ?_
  refine ev_iconst dX7_readPaper_58 (by decide) ?_
  refine ev_icmp_eq (tgt := 78) dX7_readPaper_59 rfl h (fun cb h => ?_) (fun cb h => ?_)
  · refine ev_iconst dX7_readPaper_78 (by decide) ?_
    obtain rfl := Option.some.inj h
    exact ev_zret dX7_readPaper_79 rfl (chk_pos (.inl rfl))
  refine ev_aload_n dX7_readPaper_62 rfl (by decide) ?_
  refine ev_iload_n dX7_readPaper_63 rfl ?_
  refine ev_iload_n dX7_readPaper_64 rfl ?_
  refine ev_iload dX7_readPaper_65 rfl ?_
  obtain ⟨v10, hc11, h⟩ := bind_of h
  refine ev_invV_v (k := (10 : Int)) (av := [(0, x2), (0, x3), (0, s0)]) (st := []) (v := (0, v10.1)) (τ := v10.2) dX7_readPaper_67 ml_X7_100 mv_X0_addPaper (T := TX0) (ci := 0) rfl sp10 (by decide) (by decide) rfl ⟨Nat.le_of_ble_eq_true rfl, Nat.le_of_ble_eq_true rfl⟩ (Nat.le_of_ble_eq_true rfl) (c_X0_addPaper hB10 hc11) ?_
  refine ev_iconst dX7_readPaper_70 (by decide) ?_
  refine ev_icmp_eq (tgt := 78) dX7_readPaper_71 rfl h (fun cb h => ?_) (fun cb h => ?_)
  · refine ev_iconst dX7_readPaper_78 (by decide) ?_
    obtain rfl := Option.some.inj h
    exact ev_zret dX7_readPaper_79 rfl (chk_pos (.inl rfl))
  refine ev_iconst dX7_readPaper_74 (by decide) ?_
  refine ev_goto (tgt := 79) dX7_readPaper_75 rfl ?_
  obtain rfl := Option.some.inj h
  exact ev_zret dX7_readPaper_79 rfl (chk_pos (.inr rfl))
set_option maxHeartbeats 4000000 in
set_option maxRecDepth 20000 in
theorem e_X7_readPaper_37 (σ : Mem) (x2 s0 : Int)  {q : (Int × Mem)} (h : f_X7_readPaper_37 σ x2 s0 = some q) : Ev M_X7_readPaper 218 218 (some (0, q.1), rho, q.2) 37 218 rho σ [(2, (28 : Int)), (2, (10 : Int)), (0, x2), (9, 0), (9, 0)] [(0, s0)] := by
  unfold f_X7_readPaper_37 at h
  refine ev_istore_n dX7_readPaper_37 rfl (by decide) ?_
  show Ev _ _ _ _ 38 _ _ _ [(2, (28 : Int)), (2, (10 : Int)), (0, x2), (0, s0), (9, 0)] _
  refine ev_iload_n dX7_readPaper_38 rfl ?_
  refine ev_iconst dX7_readPaper_39 (by decide) ?_
  refine ev_icmp_ne (tgt := 47) dX7_readPaper_40 rfl h (fun cb h => ?_) (fun cb h => ?_)
  · refine ev_aload_n dX7_readPaper_47 rfl (by decide) ?_
    refine ev_iconst dX7_readPaper_48 (by decide) ?_
    refine ev_bipush dX7_readPaper_49 (by decide) (by decide) ?_
    obtain ⟨v8, hc9, h⟩ := bind_of h
    refine ev_invV_v (k := (28 : Int)) (av := [(0, (1 : Int)), (0, (12 : Int))]) (st := []) (v := (0, v8.1)) (τ := v8.2) dX7_readPaper_51 ml_X7_96 mv_X7_number (T := TX7) (ci := 6) rfl sp28 (by decide) (by decide) rfl ⟨Nat.le_of_ble_eq_true rfl, Nat.le_of_ble_eq_true rfl⟩ (Nat.le_of_ble_eq_true rfl) (c_X7_number hc9) ?_
    exact ev_sub (L2 := [(9, 0), (2, (10 : Int)), (0, x2), (0, s0), (9, 0)]) (e_X7_readPaper_54 v8.2 x2 s0 v8.1 h) ⟨.inl rfl, .inr rfl, .inr rfl, .inr rfl, .inl rfl, trivial⟩
  refine ev_iconst dX7_readPaper_43 (by decide) ?_
  refine ev_goto (tgt := 54) dX7_readPaper_44 rfl ?_
  exact ev_sub (L2 := [(9, 0), (2, (10 : Int)), (0, x2), (0, s0), (9, 0)]) (e_X7_readPaper_54 σ x2 s0 (-1 : Int) h) ⟨.inl rfl, .inr rfl, .inr rfl, .inr rfl, .inl rfl, trivial⟩
set_option maxHeartbeats 4000000 in
set_option maxRecDepth 20000 in
theorem c_X7_readPaper {σ : Mem}  {q : (Int × Mem)} (h : f_X7_readPaper σ  = some q) : Ms yX7_readPaper M_X7_readPaper 218 218 [(2, (28 : Int)), (2, (10 : Int))] rho σ (some (0, q.1), rho, q.2) := by
  refine Ms.of 3 (by decide +kernel) rfl (fun z => absurd z (by decide)) (fun _ _ _ => trivial) rfl rfl ?_
  unfold f_X7_readPaper at h
  show Ev M_X7_readPaper 218 218 _ 0 218 rho σ [(2, (28 : Int)), (2, (10 : Int)), (9, 0), (9, 0), (9, 0)] []
  refine ev_aload_n dX7_readPaper_0 rfl (by decide) ?_
  refine ev_getf (j := 8) (t := 0) (x := (σ (10 : Int) 8)) dX7_readPaper_1 cf_X0 wf_X7_91 sp10 (by decide) (by decide) rfl (by decide) rfl ?_
  refine ev_bipush dX7_readPaper_4 (by decide) (by decide) ?_
  refine ev_icmp_lt (tgt := 14) dX7_readPaper_6 rfl h (fun cb h => ?_) (fun cb h => ?_)
  · refine ev_aload_n dX7_readPaper_14 rfl (by decide) ?_
    refine ev_iconst dX7_readPaper_15 (by decide) ?_
    refine ev_iconst dX7_readPaper_16 (by decide) ?_
    obtain ⟨v1, hc2, h⟩ := bind_of h
    refine ev_invV_v (k := (28 : Int)) (av := [(0, (0 : Int)), (0, (4 : Int))]) (st := []) (v := (0, v1.1)) (τ := v1.2) dX7_readPaper_17 ml_X7_96 mv_X7_number (T := TX7) (ci := 6) rfl sp28 (by decide) (by decide) rfl ⟨Nat.le_of_ble_eq_true rfl, Nat.le_of_ble_eq_true rfl⟩ (Nat.le_of_ble_eq_true rfl) (c_X7_number hc2) ?_
    refine ev_istore_nG dX7_readPaper_20 h rfl (by decide) (fun v3 h => ?_)
    show Ev _ _ _ _ 21 _ _ _ [(2, (28 : Int)), (2, (10 : Int)), (0, v3), (9, 0), (9, 0)] _
    refine ev_iload_n dX7_readPaper_21 rfl ?_
    refine ev_iconst dX7_readPaper_22 (by decide) ?_
    refine ev_icmp_ne (tgt := 30) dX7_readPaper_23 rfl h (fun cb h => ?_) (fun cb h => ?_)
    · refine ev_aload_n dX7_readPaper_30 rfl (by decide) ?_
      refine ev_iconst dX7_readPaper_31 (by decide) ?_
      refine ev_bipush dX7_readPaper_32 (by decide) (by decide) ?_
      obtain ⟨v4, hc5, h⟩ := bind_of h
      refine ev_invV_v (k := (28 : Int)) (av := [(0, (0 : Int)), (0, (47 : Int))]) (st := []) (v := (0, v4.1)) (τ := v4.2) dX7_readPaper_34 ml_X7_96 mv_X7_number (T := TX7) (ci := 6) rfl sp28 (by decide) (by decide) rfl ⟨Nat.le_of_ble_eq_true rfl, Nat.le_of_ble_eq_true rfl⟩ (Nat.le_of_ble_eq_true rfl) (c_X7_number hc5) ?_
      exact ev_sub (L2 := [(2, (28 : Int)), (2, (10 : Int)), (0, v3), (9, 0), (9, 0)]) (e_X7_readPaper_37 v4.2 v3 v4.1 h) ⟨.inr rfl, .inr rfl, .inr rfl, .inl rfl, .inl rfl, trivial⟩
    refine ev_iconst dX7_readPaper_26 (by decide) ?_
    refine ev_goto (tgt := 37) dX7_readPaper_27 rfl ?_
    exact ev_sub (L2 := [(2, (28 : Int)), (2, (10 : Int)), (0, v3), (9, 0), (9, 0)]) (e_X7_readPaper_37 v1.2 v3 (-1 : Int) h) ⟨.inr rfl, .inr rfl, .inr rfl, .inl rfl, .inl rfl, trivial⟩
  refine ev_aload_n dX7_readPaper_9 rfl (by decide) ?_
  obtain ⟨v6, hc7, h⟩ := bind_of h
  refine ev_invV_v (k := (28 : Int)) (av := []) (st := []) (v := (0, v6.1)) (τ := v6.2) dX7_readPaper_10 ml_X7_87 mv_X7_faultHere (T := TX7) (ci := 6) rfl sp28 (by decide) (by decide) rfl ⟨Nat.le_of_ble_eq_true rfl, Nat.le_of_ble_eq_true rfl⟩ (Nat.le_of_ble_eq_true rfl) (c_X7_faultHere hc7) ?_
  obtain ⟨hz, h⟩ := chk_of h
  obtain rfl := Option.some.inj h
  exact ev_zret dX7_readPaper_13 rfl (chk_pos hz)
set_option maxHeartbeats 4000000 in
set_option maxRecDepth 20000 in
theorem e_X7_readCand_37 (σ : Mem) (x2 s0 : Int)  {q : (Int × Mem)} (h : f_X7_readCand_37 σ x2 s0 = some q) : Ev M_X7_readCand 218 218 (some (0, q.1), rho, q.2) 37 218 rho σ [(9, 0), (2, (10 : Int)), (0, x2), (9, 0)] [(0, s0)] := by
  unfold f_X7_readCand_37 at h
  refine ev_istore_n dX7_readCand_37 rfl (by decide) ?_
  show Ev _ _ _ _ 38 _ _ _ [(9, 0), (2, (10 : Int)), (0, x2), (0, s0)] _
  refine ev_iload_n dX7_readCand_38 rfl ?_
  refine ev_iconst dX7_readCand_39 (by decide) ?_
  refine ev_icmp_eq (tgt := 57) dX7_readCand_40 rfl h (fun cb h => ?_) (fun cb h => ?_)
  · refine ev_iconst dX7_readCand_57 (by decide) ?_
    obtain rfl := Option.some.inj h
    exact ev_zret dX7_readCand_58 rfl (chk_pos (.inl rfl))
  refine ev_aload_n dX7_readCand_43 rfl (by decide) ?_
  refine ev_iload_n dX7_readCand_44 rfl ?_
  refine ev_iload_n dX7_readCand_45 rfl ?_
  obtain ⟨v8, hc9, h⟩ := bind_of h
  refine ev_invV_v (k := (10 : Int)) (av := [(0, x2), (0, s0)]) (st := []) (v := (0, v8.1)) (τ := v8.2) dX7_readCand_46 ml_X7_109 mv_X0_addCand (T := TX0) (ci := 0) rfl sp10 (by decide) (by decide) rfl ⟨Nat.le_of_ble_eq_true rfl, Nat.le_of_ble_eq_true rfl⟩ (Nat.le_of_ble_eq_true rfl) (c_X0_addCand hB10 hc9) ?_
  refine ev_iconst dX7_readCand_49 (by decide) ?_
  refine ev_icmp_eq (tgt := 57) dX7_readCand_50 rfl h (fun cb h => ?_) (fun cb h => ?_)
  · refine ev_iconst dX7_readCand_57 (by decide) ?_
    obtain rfl := Option.some.inj h
    exact ev_zret dX7_readCand_58 rfl (chk_pos (.inl rfl))
  refine ev_iconst dX7_readCand_53 (by decide) ?_
  refine ev_goto (tgt := 58) dX7_readCand_54 rfl ?_
  obtain rfl := Option.some.inj h
  exact ev_zret dX7_readCand_58 rfl (chk_pos (.inr rfl))
set_option maxHeartbeats 4000000 in
set_option maxRecDepth 20000 in
theorem c_X7_readCand {σ : Mem}  {q : (Int × Mem)} (h : f_X7_readCand σ  = some q) : Ms yX7_readCand M_X7_readCand 218 218 [(2, (28 : Int)), (2, (10 : Int))] rho σ (some (0, q.1), rho, q.2) := by
  refine Ms.of 2 (by decide +kernel) rfl (fun z => absurd z (by decide)) (fun _ _ _ => trivial) rfl rfl ?_
  unfold f_X7_readCand at h
  show Ev M_X7_readCand 218 218 _ 0 218 rho σ [(2, (28 : Int)), (2, (10 : Int)), (9, 0), (9, 0)] []
  refine ev_aload_n dX7_readCand_0 rfl (by decide) ?_
  refine ev_getf (j := 9) (t := 0) (x := (σ (10 : Int) 9)) dX7_readCand_1 cf_X0 wf_X7_104 sp10 (by decide) (by decide) rfl (by decide) rfl ?_
  refine ev_bipush dX7_readCand_4 (by decide) (by decide) ?_
  refine ev_icmp_lt (tgt := 14) dX7_readCand_6 rfl h (fun cb h => ?_) (fun cb h => ?_)
  · refine ev_aload_n dX7_readCand_14 rfl (by decide) ?_
    refine ev_iconst dX7_readCand_15 (by decide) ?_
    refine ev_iconst dX7_readCand_16 (by decide) ?_
    obtain ⟨v1, hc2, h⟩ := bind_of h
    refine ev_invV_v (k := (28 : Int)) (av := [(0, (0 : Int)), (0, (5 : Int))]) (st := []) (v := (0, v1.1)) (τ := v1.2) dX7_readCand_17 ml_X7_96 mv_X7_number (T := TX7) (ci := 6) rfl sp28 (by decide) (by decide) rfl ⟨Nat.le_of_ble_eq_true rfl, Nat.le_of_ble_eq_true rfl⟩ (Nat.le_of_ble_eq_true rfl) (c_X7_number hc2) ?_
    refine ev_istore_nG dX7_readCand_20 h rfl (by decide) (fun v3 h => ?_)
    show Ev _ _ _ _ 21 _ _ _ [(2, (28 : Int)), (2, (10 : Int)), (0, v3), (9, 0)] _
    refine ev_iload_n dX7_readCand_21 rfl ?_
    refine ev_iconst dX7_readCand_22 (by decide) ?_
    refine ev_icmp_ne (tgt := 30) dX7_readCand_23 rfl h (fun cb h => ?_) (fun cb h => ?_)
    · refine ev_aload_n dX7_readCand_30 rfl (by decide) ?_
      refine ev_iconst dX7_readCand_31 (by decide) ?_
      refine ev_bipush dX7_readCand_32 (by decide) (by decide) ?_
      obtain ⟨v4, hc5, h⟩ := bind_of h
      refine ev_invV_v (k := (28 : Int)) (av := [(0, (0 : Int)), (0, (9 : Int))]) (st := []) (v := (0, v4.1)) (τ := v4.2) dX7_readCand_34 ml_X7_96 mv_X7_number (T := TX7) (ci := 6) rfl sp28 (by decide) (by decide) rfl ⟨Nat.le_of_ble_eq_true rfl, Nat.le_of_ble_eq_true rfl⟩ (Nat.le_of_ble_eq_true rfl) (c_X7_number hc5) ?_
      exact ev_sub (L2 := [(9, 0), (2, (10 : Int)), (0, v3), (9, 0)]) (e_X7_readCand_37 v4.2 v3 v4.1 h) ⟨.inl rfl, .inr rfl, .inr rfl, .inl rfl, trivial⟩
    refine ev_iconst dX7_readCand_26 (by decide) ?_
    refine ev_goto (tgt := 37) dX7_readCand_27 rfl ?_
    exact ev_sub (L2 := [(9, 0), (2, (10 : Int)), (0, v3), (9, 0)]) (e_X7_readCand_37 v1.2 v3 (-1 : Int) h) ⟨.inl rfl, .inr rfl, .inr rfl, .inl rfl, trivial⟩
  refine ev_aload_n dX7_readCand_9 rfl (by decide) ?_
  obtain ⟨v6, hc7, h⟩ := bind_of h
  refine ev_invV_v (k := (28 : Int)) (av := []) (st := []) (v := (0, v6.1)) (τ := v6.2) dX7_readCand_10 ml_X7_87 mv_X7_faultHere (T := TX7) (ci := 6) rfl sp28 (by decide) (by decide) rfl ⟨Nat.le_of_ble_eq_true rfl, Nat.le_of_ble_eq_true rfl⟩ (Nat.le_of_ble_eq_true rfl) (c_X7_faultHere hc7) ?_
  obtain ⟨hz, h⟩ := chk_of h
  obtain rfl := Option.some.inj h
  exact ev_zret dX7_readCand_13 rfl (chk_pos hz)
set_option maxHeartbeats 4000000 in
set_option maxRecDepth 20000 in
theorem e_X7_readTakes_32 (σ : Mem) (x2 s0 : Int)  {q : (Int × Mem)} (h : f_X7_readTakes_32 σ x2 s0 = some q) : Ev M_X7_readTakes 218 218 (some (0, q.1), rho, q.2) 32 218 rho σ [(2, (28 : Int)), (2, (10 : Int)), (0, x2), (9, 0)] [(0, s0)] := by
  unfold f_X7_readTakes_32 at h
  refine ev_istore_n dX7_readTakes_32 rfl (by decide) ?_
  show Ev _ _ _ _ 33 _ _ _ [(2, (28 : Int)), (2, (10 : Int)), (0, x2), (0, s0)] _
  refine ev_iload_n dX7_readTakes_33 rfl ?_
  refine ev_iconst dX7_readTakes_34 (by decide) ?_
  refine ev_icmp_ne (tgt := 40) dX7_readTakes_35 rfl h (fun cb h => ?_) (fun cb h => ?_)
  · refine ev_aload_n dX7_readTakes_40 rfl (by decide) ?_
    refine ev_iload_n dX7_readTakes_41 rfl ?_
    refine ev_iload_n dX7_readTakes_42 rfl ?_
    obtain ⟨v6, hc7, h⟩ := bind_of h
    refine ev_invV_v (k := (10 : Int)) (av := [(0, x2), (0, s0)]) (st := []) (v := (0, v6)) (τ := σ) dX7_readTakes_43 ml_X7_112 mv_X0_doesTake (T := TX0) (ci := 0) rfl sp10 (by decide) (by decide) rfl ⟨Nat.le_of_ble_eq_true rfl, Nat.le_of_ble_eq_true rfl⟩ (Nat.le_of_ble_eq_true rfl) (c_X0_doesTake hB10 hc7) ?_
    refine ev_if_ne (tgt := 69) dX7_readTakes_46 rfl h (fun cb h => ?_) (fun cb h => ?_)
    · refine ev_iconst dX7_readTakes_69 (by decide) ?_
      obtain rfl := Option.some.inj h
      exact ev_zret dX7_readTakes_70 rfl (chk_pos (.inr rfl))
    refine ev_aload_n dX7_readTakes_49 rfl (by decide) ?_
    refine ev_iload_n dX7_readTakes_50 rfl ?_
    refine ev_iload_n dX7_readTakes_51 rfl ?_
    obtain ⟨v8, hc9, h⟩ := bind_of h
    refine ev_invV_v (k := (10 : Int)) (av := [(0, x2), (0, s0)]) (st := []) (v := (0, v8)) (τ := σ) dX7_readTakes_52 ml_X7_116 mv_X0_mayFlip (T := TX0) (ci := 0) rfl sp10 (by decide) (by decide) rfl ⟨Nat.le_of_ble_eq_true rfl, Nat.le_of_ble_eq_true rfl⟩ (Nat.le_of_ble_eq_true rfl) (c_X0_mayFlip hB10 hc9) ?_
    refine ev_if_ne (tgt := 63) dX7_readTakes_55 rfl h (fun cb h => ?_) (fun cb h => ?_)
    · refine ev_aload_n dX7_readTakes_63 rfl (by decide) ?_
      refine ev_iload_n dX7_readTakes_64 rfl ?_
      refine ev_iload_n dX7_readTakes_65 rfl ?_
      obtain ⟨σ10, hc11, h⟩ := bind_of h
      refine ev_invV_n (k := (10 : Int)) (av := [(0, x2), (0, s0)]) (st := []) (τ := σ10) dX7_readTakes_66 ml_X7_119 mv_X0_flip (T := TX0) (ci := 0) rfl sp10 (by decide) (by decide) rfl ⟨Nat.le_of_ble_eq_true rfl, Nat.le_of_ble_eq_true rfl⟩ (Nat.le_of_ble_eq_true rfl) (c_X0_flip hB10 hc11) ?_
      refine ev_iconst dX7_readTakes_69 (by decide) ?_
      obtain rfl := Option.some.inj h
      exact ev_zret dX7_readTakes_70 rfl (chk_pos (.inr rfl))
    refine ev_aload_n dX7_readTakes_58 rfl (by decide) ?_
    obtain ⟨v12, hc13, h⟩ := bind_of h
    refine ev_invV_v (k := (28 : Int)) (av := []) (st := []) (v := (0, v12.1)) (τ := v12.2) dX7_readTakes_59 ml_X7_87 mv_X7_faultHere (T := TX7) (ci := 6) rfl sp28 (by decide) (by decide) rfl ⟨Nat.le_of_ble_eq_true rfl, Nat.le_of_ble_eq_true rfl⟩ (Nat.le_of_ble_eq_true rfl) (c_X7_faultHere hc13) ?_
    obtain ⟨hz, h⟩ := chk_of h
    obtain rfl := Option.some.inj h
    exact ev_zret dX7_readTakes_62 rfl (chk_pos hz)
  refine ev_iconst dX7_readTakes_38 (by decide) ?_
  obtain rfl := Option.some.inj h
  exact ev_zret dX7_readTakes_39 rfl (chk_pos (.inl rfl))
set_option maxHeartbeats 4000000 in
set_option maxRecDepth 20000 in
theorem c_X7_readTakes {σ : Mem}  {q : (Int × Mem)} (h : f_X7_readTakes σ  = some q) : Ms yX7_readTakes M_X7_readTakes 218 218 [(2, (28 : Int)), (2, (10 : Int))] rho σ (some (0, q.1), rho, q.2) := by
  refine Ms.of 2 (by decide +kernel) rfl (fun z => absurd z (by decide)) (fun _ _ _ => trivial) rfl rfl ?_
  unfold f_X7_readTakes at h
  show Ev M_X7_readTakes 218 218 _ 0 218 rho σ [(2, (28 : Int)), (2, (10 : Int)), (9, 0), (9, 0)] []
  refine ev_aload_n dX7_readTakes_0 rfl (by decide) ?_
  refine ev_iconst dX7_readTakes_1 (by decide) ?_
  refine ev_aload_n dX7_readTakes_2 rfl (by decide) ?_
  refine ev_getf (j := 9) (t := 0) (x := (σ (10 : Int) 9)) dX7_readTakes_3 cf_X0 wf_X7_104 sp10 (by decide) (by decide) rfl (by decide) rfl ?_
  refine ev_iconst dX7_readTakes_6 (by decide) ?_
  refine ev_isub dX7_readTakes_7 ?_
  obtain ⟨v1, hc2, h⟩ := bind_of h
  refine ev_invV_v (k := (28 : Int)) (av := [(0, (0 : Int)), (0, (jsub (σ (10 : Int) 9) (1 : Int)))]) (st := []) (v := (0, v1.1)) (τ := v1.2) dX7_readTakes_8 ml_X7_96 mv_X7_number (T := TX7) (ci := 6) rfl sp28 (by decide) (by decide) rfl ⟨Nat.le_of_ble_eq_true rfl, Nat.le_of_ble_eq_true rfl⟩ (Nat.le_of_ble_eq_true rfl) (c_X7_number hc2) ?_
  refine ev_istore_nG dX7_readTakes_11 h rfl (by decide) (fun v3 h => ?_)
  show Ev _ _ _ _ 12 _ _ _ [(2, (28 : Int)), (2, (10 : Int)), (0, v3), (9, 0)] _
  refine ev_iload_n dX7_readTakes_12 rfl ?_
  refine ev_iconst dX7_readTakes_13 (by decide) ?_
  refine ev_icmp_ne (tgt := 21) dX7_readTakes_14 rfl h (fun cb h => ?_) (fun cb h => ?_)
  · refine ev_aload_n dX7_readTakes_21 rfl (by decide) ?_
    refine ev_iconst dX7_readTakes_22 (by decide) ?_
    refine ev_aload_n dX7_readTakes_23 rfl (by decide) ?_
    refine ev_getf (j := 8) (t := 0) (x := (v1.2 (10 : Int) 8)) dX7_readTakes_24 cf_X0 wf_X7_91 sp10 (by decide) (by decide) rfl (by decide) rfl ?_
    refine ev_iconst dX7_readTakes_27 (by decide) ?_
    refine ev_isub dX7_readTakes_28 ?_
    obtain ⟨v4, hc5, h⟩ := bind_of h
    refine ev_invV_v (k := (28 : Int)) (av := [(0, (0 : Int)), (0, (jsub (v1.2 (10 : Int) 8) (1 : Int)))]) (st := []) (v := (0, v4.1)) (τ := v4.2) dX7_readTakes_29 ml_X7_96 mv_X7_number (T := TX7) (ci := 6) rfl sp28 (by decide) (by decide) rfl ⟨Nat.le_of_ble_eq_true rfl, Nat.le_of_ble_eq_true rfl⟩ (Nat.le_of_ble_eq_true rfl) (c_X7_number hc5) ?_
    exact ev_sub (L2 := [(2, (28 : Int)), (2, (10 : Int)), (0, v3), (9, 0)]) (e_X7_readTakes_32 v4.2 v3 v4.1 h) ⟨.inr rfl, .inr rfl, .inr rfl, .inl rfl, trivial⟩
  refine ev_iconst dX7_readTakes_17 (by decide) ?_
  refine ev_goto (tgt := 32) dX7_readTakes_18 rfl ?_
  exact ev_sub (L2 := [(2, (28 : Int)), (2, (10 : Int)), (0, v3), (9, 0)]) (e_X7_readTakes_32 v1.2 v3 (-1 : Int) h) ⟨.inr rfl, .inr rfl, .inr rfl, .inl rfl, trivial⟩
set_option maxHeartbeats 4000000 in
set_option maxRecDepth 20000 in
theorem e_X7_readDrops_32 (σ : Mem) (x2 s0 : Int)  {q : (Int × Mem)} (h : f_X7_readDrops_32 σ x2 s0 = some q) : Ev M_X7_readDrops 218 218 (some (0, q.1), rho, q.2) 32 218 rho σ [(9, 0), (2, (10 : Int)), (0, x2), (9, 0)] [(0, s0)] := by
  unfold f_X7_readDrops_32 at h
  refine ev_istore_n dX7_readDrops_32 rfl (by decide) ?_
  show Ev _ _ _ _ 33 _ _ _ [(9, 0), (2, (10 : Int)), (0, x2), (0, s0)] _
  refine ev_iload_n dX7_readDrops_33 rfl ?_
  refine ev_iconst dX7_readDrops_34 (by decide) ?_
  refine ev_icmp_ne (tgt := 40) dX7_readDrops_35 rfl h (fun cb h => ?_) (fun cb h => ?_)
  · refine ev_aload_n dX7_readDrops_40 rfl (by decide) ?_
    refine ev_iload_n dX7_readDrops_41 rfl ?_
    refine ev_iload_n dX7_readDrops_42 rfl ?_
    obtain ⟨v6, hc7, h⟩ := bind_of h
    refine ev_invV_v (k := (10 : Int)) (av := [(0, x2), (0, s0)]) (st := []) (v := (0, v6)) (τ := σ) dX7_readDrops_43 ml_X7_112 mv_X0_doesTake (T := TX0) (ci := 0) rfl sp10 (by decide) (by decide) rfl ⟨Nat.le_of_ble_eq_true rfl, Nat.le_of_ble_eq_true rfl⟩ (Nat.le_of_ble_eq_true rfl) (c_X0_doesTake hB10 hc7) ?_
    refine ev_if_eq (tgt := 55) dX7_readDrops_46 rfl h (fun cb h => ?_) (fun cb h => ?_)
    · refine ev_iconst dX7_readDrops_55 (by decide) ?_
      obtain rfl := Option.some.inj h
      exact ev_zret dX7_readDrops_56 rfl (chk_pos (.inr rfl))
    refine ev_aload_n dX7_readDrops_49 rfl (by decide) ?_
    refine ev_iload_n dX7_readDrops_50 rfl ?_
    refine ev_iload_n dX7_readDrops_51 rfl ?_
    obtain ⟨σ8, hc9, h⟩ := bind_of h
    refine ev_invV_n (k := (10 : Int)) (av := [(0, x2), (0, s0)]) (st := []) (τ := σ8) dX7_readDrops_52 ml_X7_119 mv_X0_flip (T := TX0) (ci := 0) rfl sp10 (by decide) (by decide) rfl ⟨Nat.le_of_ble_eq_true rfl, Nat.le_of_ble_eq_true rfl⟩ (Nat.le_of_ble_eq_true rfl) (c_X0_flip hB10 hc9) ?_
    refine ev_iconst dX7_readDrops_55 (by decide) ?_
    obtain rfl := Option.some.inj h
    exact ev_zret dX7_readDrops_56 rfl (chk_pos (.inr rfl))
  refine ev_iconst dX7_readDrops_38 (by decide) ?_
  obtain rfl := Option.some.inj h
  exact ev_zret dX7_readDrops_39 rfl (chk_pos (.inl rfl))
set_option maxHeartbeats 4000000 in
set_option maxRecDepth 20000 in
theorem c_X7_readDrops {σ : Mem}  {q : (Int × Mem)} (h : f_X7_readDrops σ  = some q) : Ms yX7_readDrops M_X7_readDrops 218 218 [(2, (28 : Int)), (2, (10 : Int))] rho σ (some (0, q.1), rho, q.2) := by
  refine Ms.of 2 (by decide +kernel) rfl (fun z => absurd z (by decide)) (fun _ _ _ => trivial) rfl rfl ?_
  unfold f_X7_readDrops at h
  show Ev M_X7_readDrops 218 218 _ 0 218 rho σ [(2, (28 : Int)), (2, (10 : Int)), (9, 0), (9, 0)] []
  refine ev_aload_n dX7_readDrops_0 rfl (by decide) ?_
  refine ev_iconst dX7_readDrops_1 (by decide) ?_
  refine ev_aload_n dX7_readDrops_2 rfl (by decide) ?_
  refine ev_getf (j := 9) (t := 0) (x := (σ (10 : Int) 9)) dX7_readDrops_3 cf_X0 wf_X7_104 sp10 (by decide) (by decide) rfl (by decide) rfl ?_
  refine ev_iconst dX7_readDrops_6 (by decide) ?_
  refine ev_isub dX7_readDrops_7 ?_
  obtain ⟨v1, hc2, h⟩ := bind_of h
  refine ev_invV_v (k := (28 : Int)) (av := [(0, (0 : Int)), (0, (jsub (σ (10 : Int) 9) (1 : Int)))]) (st := []) (v := (0, v1.1)) (τ := v1.2) dX7_readDrops_8 ml_X7_96 mv_X7_number (T := TX7) (ci := 6) rfl sp28 (by decide) (by decide) rfl ⟨Nat.le_of_ble_eq_true rfl, Nat.le_of_ble_eq_true rfl⟩ (Nat.le_of_ble_eq_true rfl) (c_X7_number hc2) ?_
  refine ev_istore_nG dX7_readDrops_11 h rfl (by decide) (fun v3 h => ?_)
  show Ev _ _ _ _ 12 _ _ _ [(2, (28 : Int)), (2, (10 : Int)), (0, v3), (9, 0)] _
  refine ev_iload_n dX7_readDrops_12 rfl ?_
  refine ev_iconst dX7_readDrops_13 (by decide) ?_
  refine ev_icmp_ne (tgt := 21) dX7_readDrops_14 rfl h (fun cb h => ?_) (fun cb h => ?_)
  · refine ev_aload_n dX7_readDrops_21 rfl (by decide) ?_
    refine ev_iconst dX7_readDrops_22 (by decide) ?_
    refine ev_aload_n dX7_readDrops_23 rfl (by decide) ?_
    refine ev_getf (j := 8) (t := 0) (x := (v1.2 (10 : Int) 8)) dX7_readDrops_24 cf_X0 wf_X7_91 sp10 (by decide) (by decide) rfl (by decide) rfl ?_
    refine ev_iconst dX7_readDrops_27 (by decide) ?_
    refine ev_isub dX7_readDrops_28 ?_
    obtain ⟨v4, hc5, h⟩ := bind_of h
    refine ev_invV_v (k := (28 : Int)) (av := [(0, (0 : Int)), (0, (jsub (v1.2 (10 : Int) 8) (1 : Int)))]) (st := []) (v := (0, v4.1)) (τ := v4.2) dX7_readDrops_29 ml_X7_96 mv_X7_number (T := TX7) (ci := 6) rfl sp28 (by decide) (by decide) rfl ⟨Nat.le_of_ble_eq_true rfl, Nat.le_of_ble_eq_true rfl⟩ (Nat.le_of_ble_eq_true rfl) (c_X7_number hc5) ?_
    exact ev_sub (L2 := [(9, 0), (2, (10 : Int)), (0, v3), (9, 0)]) (e_X7_readDrops_32 v4.2 v3 v4.1 h) ⟨.inl rfl, .inr rfl, .inr rfl, .inl rfl, trivial⟩
  refine ev_iconst dX7_readDrops_17 (by decide) ?_
  refine ev_goto (tgt := 32) dX7_readDrops_18 rfl ?_
  exact ev_sub (L2 := [(9, 0), (2, (10 : Int)), (0, v3), (9, 0)]) (e_X7_readDrops_32 v1.2 v3 (-1 : Int) h) ⟨.inl rfl, .inr rfl, .inr rfl, .inl rfl, trivial⟩
set_option maxHeartbeats 4000000 in
set_option maxRecDepth 20000 in
theorem c_X7_readNight {σ : Mem}  {q : (Int × Mem)} (h : f_X7_readNight σ  = some q) : Ms yX7_readNight M_X7_readNight 218 218 [(2, (28 : Int)), (2, (10 : Int))] rho σ (some (0, q.1), rho, q.2) := by
  refine Ms.of 1 (by decide +kernel) rfl (fun z => absurd z (by decide)) (fun _ _ _ => trivial) rfl rfl ?_
  unfold f_X7_readNight at h
  show Ev M_X7_readNight 218 218 _ 0 218 rho σ [(2, (28 : Int)), (2, (10 : Int)), (9, 0)] []
  refine ev_aload_n dX7_readNight_0 rfl (by decide) ?_
  refine ev_iconst dX7_readNight_1 (by decide) ?_
  refine ev_aload_n dX7_readNight_2 rfl (by decide) ?_
  refine ev_getf (j := 9) (t := 0) (x := (σ (10 : Int) 9)) dX7_readNight_3 cf_X0 wf_X7_104 sp10 (by decide) (by decide) rfl (by decide) rfl ?_
  refine ev_iconst dX7_readNight_6 (by decide) ?_
  refine ev_isub dX7_readNight_7 ?_
  obtain ⟨v1, hc2, h⟩ := bind_of h
  refine ev_invV_v (k := (28 : Int)) (av := [(0, (0 : Int)), (0, (jsub (σ (10 : Int) 9) (1 : Int)))]) (st := []) (v := (0, v1.1)) (τ := v1.2) dX7_readNight_8 ml_X7_96 mv_X7_number (T := TX7) (ci := 6) rfl sp28 (by decide) (by decide) rfl ⟨Nat.le_of_ble_eq_true rfl, Nat.le_of_ble_eq_true rfl⟩ (Nat.le_of_ble_eq_true rfl) (c_X7_number hc2) ?_
  refine ev_istore_nG dX7_readNight_11 h rfl (by decide) (fun v3 h => ?_)
  show Ev _ _ _ _ 12 _ _ _ [(2, (28 : Int)), (2, (10 : Int)), (0, v3)] _
  refine ev_iload_n dX7_readNight_12 rfl ?_
  refine ev_iconst dX7_readNight_13 (by decide) ?_
  refine ev_icmp_ne (tgt := 19) dX7_readNight_14 rfl h (fun cb h => ?_) (fun cb h => ?_)
  · refine ev_aload_n dX7_readNight_19 rfl (by decide) ?_
    refine ev_getf (j := 5) (t := 2) (x := (16 : Int)) dX7_readNight_20 cf_X0 wf_X7_123 sp10 (by decide) (by decide) rfl (by decide) (rp10_5 _) ?_
    refine ev_iload_n dX7_readNight_23 rfl ?_
    refine ev_iconst dX7_readNight_24 (by decide) ?_
    refine ev_iastG dX7_readNight_25 sp16 (by decide) (by decide) h (fun σ4 h => ?_)
    refine ev_iconst dX7_readNight_26 (by decide) ?_
    obtain rfl := Option.some.inj h
    exact ev_zret dX7_readNight_27 rfl (chk_pos (.inr rfl))
  refine ev_iconst dX7_readNight_17 (by decide) ?_
  obtain rfl := Option.some.inj h
  exact ev_zret dX7_readNight_18 rfl (chk_pos (.inl rfl))
set_option maxHeartbeats 4000000 in
set_option maxRecDepth 20000 in
theorem c_X7_readRoom {σ : Mem}  {q : (Int × Mem)} (h : f_X7_readRoom σ  = some q) : Ms yX7_readRoom M_X7_readRoom 218 218 [(2, (28 : Int)), (2, (10 : Int))] rho σ (some (0, q.1), rho, q.2) := by
  refine Ms.of 1 (by decide +kernel) rfl (fun z => absurd z (by decide)) (fun _ _ _ => trivial) rfl rfl ?_
  unfold f_X7_readRoom at h
  show Ev M_X7_readRoom 218 218 _ 0 218 rho σ [(2, (28 : Int)), (2, (10 : Int)), (9, 0)] []
  refine ev_aload_n dX7_readRoom_0 rfl (by decide) ?_
  refine ev_getf (j := 10) (t := 0) (x := (σ (10 : Int) 10)) dX7_readRoom_1 cf_X0 wf_X7_126 sp10 (by decide) (by decide) rfl (by decide) rfl ?_
  refine ev_bipush dX7_readRoom_4 (by decide) (by decide) ?_
  refine ev_icmp_lt (tgt := 14) dX7_readRoom_6 rfl h (fun cb h => ?_) (fun cb h => ?_)
  · refine ev_aload_n dX7_readRoom_14 rfl (by decide) ?_
    refine ev_iconst dX7_readRoom_15 (by decide) ?_
    refine ev_bipush dX7_readRoom_16 (by decide) (by decide) ?_
    obtain ⟨v1, hc2, h⟩ := bind_of h
    refine ev_invV_v (k := (28 : Int)) (av := [(0, (1 : Int)), (0, (9 : Int))]) (st := []) (v := (0, v1.1)) (τ := v1.2) dX7_readRoom_18 ml_X7_96 mv_X7_number (T := TX7) (ci := 6) rfl sp28 (by decide) (by decide) rfl ⟨Nat.le_of_ble_eq_true rfl, Nat.le_of_ble_eq_true rfl⟩ (Nat.le_of_ble_eq_true rfl) (c_X7_number hc2) ?_
    refine ev_istore_nG dX7_readRoom_21 h rfl (by decide) (fun v3 h => ?_)
    show Ev _ _ _ _ 22 _ _ _ [(2, (28 : Int)), (2, (10 : Int)), (0, v3)] _
    refine ev_iload_n dX7_readRoom_22 rfl ?_
    refine ev_iconst dX7_readRoom_23 (by decide) ?_
    refine ev_icmp_eq (tgt := 40) dX7_readRoom_24 rfl h (fun cb h => ?_) (fun cb h => ?_)
    · refine ev_iconst dX7_readRoom_40 (by decide) ?_
      obtain rfl := Option.some.inj h
      exact ev_zret dX7_readRoom_41 rfl (chk_pos (.inl rfl))
    refine ev_aload_n dX7_readRoom_27 rfl (by decide) ?_
    refine ev_iload_n dX7_readRoom_28 rfl ?_
    obtain ⟨v4, hc5, h⟩ := bind_of h
    refine ev_invV_v (k := (10 : Int)) (av := [(0, v3)]) (st := []) (v := (0, v4.1)) (τ := v4.2) dX7_readRoom_29 ml_X7_129 mv_X0_addRoom (T := TX0) (ci := 0) rfl sp10 (by decide) (by decide) rfl ⟨Nat.le_of_ble_eq_true rfl, Nat.le_of_ble_eq_true rfl⟩ (Nat.le_of_ble_eq_true rfl) (c_X0_addRoom hB10 hc5) ?_
    refine ev_iconst dX7_readRoom_32 (by decide) ?_
    refine ev_icmp_eq (tgt := 40) dX7_readRoom_33 rfl h (fun cb h => ?_) (fun cb h => ?_)
    · refine ev_iconst dX7_readRoom_40 (by decide) ?_
      obtain rfl := Option.some.inj h
      exact ev_zret dX7_readRoom_41 rfl (chk_pos (.inl rfl))
    refine ev_iconst dX7_readRoom_36 (by decide) ?_
    refine ev_goto (tgt := 41) dX7_readRoom_37 rfl ?_
    obtain rfl := Option.some.inj h
    exact ev_zret dX7_readRoom_41 rfl (chk_pos (.inr rfl))
  refine ev_aload_n dX7_readRoom_9 rfl (by decide) ?_
  obtain ⟨v6, hc7, h⟩ := bind_of h
  refine ev_invV_v (k := (28 : Int)) (av := []) (st := []) (v := (0, v6.1)) (τ := v6.2) dX7_readRoom_10 ml_X7_87 mv_X7_faultHere (T := TX7) (ci := 6) rfl sp28 (by decide) (by decide) rfl ⟨Nat.le_of_ble_eq_true rfl, Nat.le_of_ble_eq_true rfl⟩ (Nat.le_of_ble_eq_true rfl) (c_X7_faultHere hc7) ?_
  obtain ⟨hz, h⟩ := chk_of h
  obtain rfl := Option.some.inj h
  exact ev_zret dX7_readRoom_13 rfl (chk_pos hz)
set_option maxHeartbeats 4000000 in
set_option maxRecDepth 20000 in
theorem c_X7_readHours {σ : Mem}  {q : (Int × Mem)} (h : f_X7_readHours σ  = some q) : Ms yX7_readHours M_X7_readHours 218 218 [(2, (28 : Int)), (2, (10 : Int))] rho σ (some (0, q.1), rho, q.2) := by
  refine Ms.of 1 (by decide +kernel) rfl (fun z => absurd z (by decide)) (fun _ _ _ => trivial) rfl rfl ?_
  unfold f_X7_readHours at h
  show Ev M_X7_readHours 218 218 _ 0 218 rho σ [(2, (28 : Int)), (2, (10 : Int)), (9, 0)] []
  refine ev_aload_n dX7_readHours_0 rfl (by decide) ?_
  refine ev_bipush dX7_readHours_1 (by decide) (by decide) ?_
  refine ev_bipush dX7_readHours_3 (by decide) (by decide) ?_
  obtain ⟨v1, hc2, h⟩ := bind_of h
  refine ev_invV_v (k := (28 : Int)) (av := [(0, (8 : Int)), (0, (40 : Int))]) (st := []) (v := (0, v1.1)) (τ := v1.2) dX7_readHours_5 ml_X7_96 mv_X7_number (T := TX7) (ci := 6) rfl sp28 (by decide) (by decide) rfl ⟨Nat.le_of_ble_eq_true rfl, Nat.le_of_ble_eq_true rfl⟩ (Nat.le_of_ble_eq_true rfl) (c_X7_number hc2) ?_
  refine ev_istore_nG dX7_readHours_8 h rfl (by decide) (fun v3 h => ?_)
  show Ev _ _ _ _ 9 _ _ _ [(2, (28 : Int)), (2, (10 : Int)), (0, v3)] _
  refine ev_iload_n dX7_readHours_9 rfl ?_
  refine ev_iconst dX7_readHours_10 (by decide) ?_
  refine ev_icmp_ne (tgt := 16) dX7_readHours_11 rfl h (fun cb h => ?_) (fun cb h => ?_)
  · refine ev_aload_n dX7_readHours_16 rfl (by decide) ?_
    refine ev_iload_n dX7_readHours_17 rfl ?_
    refine ev_putfG (j := 11) (t := 0) dX7_readHours_18 cf_X0 wf_X7_132 sp10 (by decide) (by decide) rfl (by decide) (by decide) rfl (fun z => absurd z (by decide +kernel)) h (fun σ4 h => ?_)
    refine ev_iconst dX7_readHours_21 (by decide) ?_
    obtain rfl := Option.some.inj h
    exact ev_zret dX7_readHours_22 rfl (chk_pos (.inr rfl))
  refine ev_iconst dX7_readHours_14 (by decide) ?_
  obtain rfl := Option.some.inj h
  exact ev_zret dX7_readHours_15 rfl (chk_pos (.inl rfl))
set_option maxHeartbeats 4000000 in
set_option maxRecDepth 20000 in
theorem c_X7_readTurn {σ : Mem}  {q : (Int × Mem)} (h : f_X7_readTurn σ  = some q) : Ms yX7_readTurn M_X7_readTurn 218 218 [(2, (28 : Int)), (2, (10 : Int))] rho σ (some (0, q.1), rho, q.2) := by
  refine Ms.of 1 (by decide +kernel) rfl (fun z => absurd z (by decide)) (fun _ _ _ => trivial) rfl rfl ?_
  unfold f_X7_readTurn at h
  show Ev M_X7_readTurn 218 218 _ 0 218 rho σ [(2, (28 : Int)), (2, (10 : Int)), (9, 0)] []
  refine ev_aload_n dX7_readTurn_0 rfl (by decide) ?_
  refine ev_iconst dX7_readTurn_1 (by decide) ?_
  refine ev_bipush dX7_readTurn_2 (by decide) (by decide) ?_
  obtain ⟨v1, hc2, h⟩ := bind_of h
  refine ev_invV_v (k := (28 : Int)) (av := [(0, (0 : Int)), (0, (8 : Int))]) (st := []) (v := (0, v1.1)) (τ := v1.2) dX7_readTurn_4 ml_X7_96 mv_X7_number (T := TX7) (ci := 6) rfl sp28 (by decide) (by decide) rfl ⟨Nat.le_of_ble_eq_true rfl, Nat.le_of_ble_eq_true rfl⟩ (Nat.le_of_ble_eq_true rfl) (c_X7_number hc2) ?_
  refine ev_istore_nG dX7_readTurn_7 h rfl (by decide) (fun v3 h => ?_)
  show Ev _ _ _ _ 8 _ _ _ [(2, (28 : Int)), (2, (10 : Int)), (0, v3)] _
  refine ev_iload_n dX7_readTurn_8 rfl ?_
  refine ev_iconst dX7_readTurn_9 (by decide) ?_
  refine ev_icmp_ne (tgt := 15) dX7_readTurn_10 rfl h (fun cb h => ?_) (fun cb h => ?_)
  · refine ev_aload_n dX7_readTurn_15 rfl (by decide) ?_
    refine ev_iload_n dX7_readTurn_16 rfl ?_
    refine ev_putfG (j := 12) (t := 0) dX7_readTurn_17 cf_X0 wf_X7_134 sp10 (by decide) (by decide) rfl (by decide) (by decide) rfl (fun z => absurd z (by decide +kernel)) h (fun σ4 h => ?_)
    refine ev_iconst dX7_readTurn_20 (by decide) ?_
    obtain rfl := Option.some.inj h
    exact ev_zret dX7_readTurn_21 rfl (chk_pos (.inr rfl))
  refine ev_iconst dX7_readTurn_13 (by decide) ?_
  obtain rfl := Option.some.inj h
  exact ev_zret dX7_readTurn_14 rfl (chk_pos (.inl rfl))
def K_X7_statement_14 (r : Option V × Mem × Mem) : (Int × Mem) ⊕ ((Mem)) → Prop := Sum.elim (fun a => Ev M_X7_statement 218 218 r 14 218 rho a.2 [(2, (28 : Int)), (2, (10 : Int)), (0, a.1)] []) (fun e => Ev M_X7_statement 218 218 r 51 218 rho e [(2, (28 : Int)), (2, (10 : Int)), (9, 0)] [])
set_option maxHeartbeats 4000000 in
set_option maxRecDepth 20000 in
theorem e_X7_statement_51 (σ : Mem)  {q : (Int × Mem)} (h : f_X7_statement_51 σ  = some q) : Ev M_X7_statement 218 218 (some (0, q.1), rho, q.2) 51 218 rho σ [(2, (28 : Int)), (2, (10 : Int)), (9, 0)] [] := by
  unfold f_X7_statement_51 at h
  refine ev_aload_n dX7_statement_51 rfl (by decide) ?_
  refine ev_ldcS (i := 0) dX7_statement_52 rfl (by decide) rfl ?_
  obtain ⟨v10, hc11, h⟩ := bind_of h
  refine ev_invV_v (k := (28 : Int)) (av := [(3, (0 : Int))]) (st := []) (v := (0, v10)) (τ := σ) dX7_statement_54 ml_X7_45 mv_X7_isWord (T := TX7) (ci := 6) rfl sp28 (by decide) (by decide) rfl ⟨Nat.le_of_ble_eq_true rfl, Nat.le_of_ble_eq_true rfl⟩ (Nat.le_of_ble_eq_true rfl) (c_X7_isWord hS0 hc11) ?_
  refine ev_if_eq (tgt := 66) dX7_statement_57 rfl h (fun cb h => ?_) (fun cb h => ?_)
  · refine ev_aload_n dX7_statement_66 rfl (by decide) ?_
    refine ev_ldcS (i := 1) dX7_statement_67 rfl (by decide) rfl ?_
    obtain ⟨v12, hc13, h⟩ := bind_of h
    refine ev_invV_v (k := (28 : Int)) (av := [(3, (1 : Int))]) (st := []) (v := (0, v12)) (τ := σ) dX7_statement_69 ml_X7_45 mv_X7_isWord (T := TX7) (ci := 6) rfl sp28 (by decide) (by decide) rfl ⟨Nat.le_of_ble_eq_true rfl, Nat.le_of_ble_eq_true rfl⟩ (Nat.le_of_ble_eq_true rfl) (c_X7_isWord hS1 hc13) ?_
    refine ev_if_eq (tgt := 81) dX7_statement_72 rfl h (fun cb h => ?_) (fun cb h => ?_)
    · refine ev_aload_n dX7_statement_81 rfl (by decide) ?_
      refine ev_ldcS (i := 2) dX7_statement_82 rfl (by decide) rfl ?_
      obtain ⟨v14, hc15, h⟩ := bind_of h
      refine ev_invV_v (k := (28 : Int)) (av := [(3, (2 : Int))]) (st := []) (v := (0, v14)) (τ := σ) dX7_statement_84 ml_X7_45 mv_X7_isWord (T := TX7) (ci := 6) rfl sp28 (by decide) (by decide) rfl ⟨Nat.le_of_ble_eq_true rfl, Nat.le_of_ble_eq_true rfl⟩ (Nat.le_of_ble_eq_true rfl) (c_X7_isWord hS2 hc15) ?_
      refine ev_if_eq (tgt := 96) dX7_statement_87 rfl h (fun cb h => ?_) (fun cb h => ?_)
      · refine ev_aload_n dX7_statement_96 rfl (by decide) ?_
        refine ev_ldcS (i := 3) dX7_statement_97 rfl (by decide) rfl ?_
        obtain ⟨v16, hc17, h⟩ := bind_of h
        refine ev_invV_v (k := (28 : Int)) (av := [(3, (3 : Int))]) (st := []) (v := (0, v16)) (τ := σ) dX7_statement_99 ml_X7_45 mv_X7_isWord (T := TX7) (ci := 6) rfl sp28 (by decide) (by decide) rfl ⟨Nat.le_of_ble_eq_true rfl, Nat.le_of_ble_eq_true rfl⟩ (Nat.le_of_ble_eq_true rfl) (c_X7_isWord hS3 hc17) ?_
        refine ev_if_eq (tgt := 111) dX7_statement_102 rfl h (fun cb h => ?_) (fun cb h => ?_)
        · refine ev_aload_n dX7_statement_111 rfl (by decide) ?_
          refine ev_ldcS (i := 4) dX7_statement_112 rfl (by decide) rfl ?_
          obtain ⟨v18, hc19, h⟩ := bind_of h
          refine ev_invV_v (k := (28 : Int)) (av := [(3, (4 : Int))]) (st := []) (v := (0, v18)) (τ := σ) dX7_statement_114 ml_X7_45 mv_X7_isWord (T := TX7) (ci := 6) rfl sp28 (by decide) (by decide) rfl ⟨Nat.le_of_ble_eq_true rfl, Nat.le_of_ble_eq_true rfl⟩ (Nat.le_of_ble_eq_true rfl) (c_X7_isWord hS4 hc19) ?_
          refine ev_if_eq (tgt := 126) dX7_statement_117 rfl h (fun cb h => ?_) (fun cb h => ?_)
          · refine ev_aload_n dX7_statement_126 rfl (by decide) ?_
            refine ev_ldcS (i := 5) dX7_statement_127 rfl (by decide) rfl ?_
            obtain ⟨v20, hc21, h⟩ := bind_of h
            refine ev_invV_v (k := (28 : Int)) (av := [(3, (5 : Int))]) (st := []) (v := (0, v20)) (τ := σ) dX7_statement_129 ml_X7_45 mv_X7_isWord (T := TX7) (ci := 6) rfl sp28 (by decide) (by decide) rfl ⟨Nat.le_of_ble_eq_true rfl, Nat.le_of_ble_eq_true rfl⟩ (Nat.le_of_ble_eq_true rfl) (c_X7_isWord hS5 hc21) ?_
            refine ev_if_eq (tgt := 141) dX7_statement_132 rfl h (fun cb h => ?_) (fun cb h => ?_)
            · refine ev_aload_n dX7_statement_141 rfl (by decide) ?_
              refine ev_ldcS (i := 6) dX7_statement_142 rfl (by decide) rfl ?_
              obtain ⟨v22, hc23, h⟩ := bind_of h
              refine ev_invV_v (k := (28 : Int)) (av := [(3, (6 : Int))]) (st := []) (v := (0, v22)) (τ := σ) dX7_statement_144 ml_X7_45 mv_X7_isWord (T := TX7) (ci := 6) rfl sp28 (by decide) (by decide) rfl ⟨Nat.le_of_ble_eq_true rfl, Nat.le_of_ble_eq_true rfl⟩ (Nat.le_of_ble_eq_true rfl) (c_X7_isWord hS6 hc23) ?_
              refine ev_if_eq (tgt := 156) dX7_statement_147 rfl h (fun cb h => ?_) (fun cb h => ?_)
              · refine ev_aload_n dX7_statement_156 rfl (by decide) ?_
                refine ev_ldcS (i := 7) dX7_statement_157 rfl (by decide) rfl ?_
                obtain ⟨v24, hc25, h⟩ := bind_of h
                refine ev_invV_v (k := (28 : Int)) (av := [(3, (7 : Int))]) (st := []) (v := (0, v24)) (τ := σ) dX7_statement_159 ml_X7_45 mv_X7_isWord (T := TX7) (ci := 6) rfl sp28 (by decide) (by decide) rfl ⟨Nat.le_of_ble_eq_true rfl, Nat.le_of_ble_eq_true rfl⟩ (Nat.le_of_ble_eq_true rfl) (c_X7_isWord hS7 hc25) ?_
                refine ev_if_eq (tgt := 171) dX7_statement_162 rfl h (fun cb h => ?_) (fun cb h => ?_)
                · refine ev_aload_n dX7_statement_171 rfl (by decide) ?_
                  obtain ⟨v26, hc27, h⟩ := bind_of h
                  refine ev_invV_v (k := (28 : Int)) (av := []) (st := []) (v := (0, v26.1)) (τ := v26.2) dX7_statement_172 ml_X7_87 mv_X7_faultHere (T := TX7) (ci := 6) rfl sp28 (by decide) (by decide) rfl ⟨Nat.le_of_ble_eq_true rfl, Nat.le_of_ble_eq_true rfl⟩ (Nat.le_of_ble_eq_true rfl) (c_X7_faultHere hc27) ?_
                  obtain ⟨hz, h⟩ := chk_of h
                  obtain rfl := Option.some.inj h
                  exact ev_zret dX7_statement_175 rfl (chk_pos hz)
                refine ev_aload_n dX7_statement_165 rfl (by decide) ?_
                refine ev_aload_n dX7_statement_166 rfl (by decide) ?_
                obtain ⟨v28, hc29, h⟩ := bind_of h
                refine ev_invV_v (k := (28 : Int)) (av := [(2, (10 : Int))]) (st := []) (v := (0, v28.1)) (τ := v28.2) dX7_statement_167 ml_X7_84 mv_X7_readTurn (T := TX7) (ci := 6) rfl sp28 (by decide) (by decide) rfl ⟨Nat.le_of_ble_eq_true rfl, Nat.le_of_ble_eq_true rfl⟩ (Nat.le_of_ble_eq_true rfl) (c_X7_readTurn hc29) ?_
                obtain ⟨hz, h⟩ := chk_of h
                obtain rfl := Option.some.inj h
                exact ev_zret dX7_statement_170 rfl (chk_pos hz)
              refine ev_aload_n dX7_statement_150 rfl (by decide) ?_
              refine ev_aload_n dX7_statement_151 rfl (by decide) ?_
              obtain ⟨v30, hc31, h⟩ := bind_of h
              refine ev_invV_v (k := (28 : Int)) (av := [(2, (10 : Int))]) (st := []) (v := (0, v30.1)) (τ := v30.2) dX7_statement_152 ml_X7_79 mv_X7_readHours (T := TX7) (ci := 6) rfl sp28 (by decide) (by decide) rfl ⟨Nat.le_of_ble_eq_true rfl, Nat.le_of_ble_eq_true rfl⟩ (Nat.le_of_ble_eq_true rfl) (c_X7_readHours hc31) ?_
              obtain ⟨hz, h⟩ := chk_of h
              obtain rfl := Option.some.inj h
              exact ev_zret dX7_statement_155 rfl (chk_pos hz)
            refine ev_aload_n dX7_statement_135 rfl (by decide) ?_
            refine ev_aload_n dX7_statement_136 rfl (by decide) ?_
            obtain ⟨v32, hc33, h⟩ := bind_of h
            refine ev_invV_v (k := (28 : Int)) (av := [(2, (10 : Int))]) (st := []) (v := (0, v32.1)) (τ := v32.2) dX7_statement_137 ml_X7_74 mv_X7_readRoom (T := TX7) (ci := 6) rfl sp28 (by decide) (by decide) rfl ⟨Nat.le_of_ble_eq_true rfl, Nat.le_of_ble_eq_true rfl⟩ (Nat.le_of_ble_eq_true rfl) (c_X7_readRoom hc33) ?_
            obtain ⟨hz, h⟩ := chk_of h
            obtain rfl := Option.some.inj h
            exact ev_zret dX7_statement_140 rfl (chk_pos hz)
          refine ev_aload_n dX7_statement_120 rfl (by decide) ?_
          refine ev_aload_n dX7_statement_121 rfl (by decide) ?_
          obtain ⟨v34, hc35, h⟩ := bind_of h
          refine ev_invV_v (k := (28 : Int)) (av := [(2, (10 : Int))]) (st := []) (v := (0, v34.1)) (τ := v34.2) dX7_statement_122 ml_X7_69 mv_X7_readNight (T := TX7) (ci := 6) rfl sp28 (by decide) (by decide) rfl ⟨Nat.le_of_ble_eq_true rfl, Nat.le_of_ble_eq_true rfl⟩ (Nat.le_of_ble_eq_true rfl) (c_X7_readNight hc35) ?_
          obtain ⟨hz, h⟩ := chk_of h
          obtain rfl := Option.some.inj h
          exact ev_zret dX7_statement_125 rfl (chk_pos hz)
        refine ev_aload_n dX7_statement_105 rfl (by decide) ?_
        refine ev_aload_n dX7_statement_106 rfl (by decide) ?_
        obtain ⟨v36, hc37, h⟩ := bind_of h
        refine ev_invV_v (k := (28 : Int)) (av := [(2, (10 : Int))]) (st := []) (v := (0, v36.1)) (τ := v36.2) dX7_statement_107 ml_X7_64 mv_X7_readDrops (T := TX7) (ci := 6) rfl sp28 (by decide) (by decide) rfl ⟨Nat.le_of_ble_eq_true rfl, Nat.le_of_ble_eq_true rfl⟩ (Nat.le_of_ble_eq_true rfl) (c_X7_readDrops hc37) ?_
        obtain ⟨hz, h⟩ := chk_of h
        obtain rfl := Option.some.inj h
        exact ev_zret dX7_statement_110 rfl (chk_pos hz)
      refine ev_aload_n dX7_statement_90 rfl (by decide) ?_
      refine ev_aload_n dX7_statement_91 rfl (by decide) ?_
      obtain ⟨v38, hc39, h⟩ := bind_of h
      refine ev_invV_v (k := (28 : Int)) (av := [(2, (10 : Int))]) (st := []) (v := (0, v38.1)) (τ := v38.2) dX7_statement_92 ml_X7_59 mv_X7_readTakes (T := TX7) (ci := 6) rfl sp28 (by decide) (by decide) rfl ⟨Nat.le_of_ble_eq_true rfl, Nat.le_of_ble_eq_true rfl⟩ (Nat.le_of_ble_eq_true rfl) (c_X7_readTakes hc39) ?_
      obtain ⟨hz, h⟩ := chk_of h
      obtain rfl := Option.some.inj h
      exact ev_zret dX7_statement_95 rfl (chk_pos hz)
    refine ev_aload_n dX7_statement_75 rfl (by decide) ?_
    refine ev_aload_n dX7_statement_76 rfl (by decide) ?_
    obtain ⟨v40, hc41, h⟩ := bind_of h
    refine ev_invV_v (k := (28 : Int)) (av := [(2, (10 : Int))]) (st := []) (v := (0, v40.1)) (τ := v40.2) dX7_statement_77 ml_X7_54 mv_X7_readCand (T := TX7) (ci := 6) rfl sp28 (by decide) (by decide) rfl ⟨Nat.le_of_ble_eq_true rfl, Nat.le_of_ble_eq_true rfl⟩ (Nat.le_of_ble_eq_true rfl) (c_X7_readCand hc41) ?_
    obtain ⟨hz, h⟩ := chk_of h
    obtain rfl := Option.some.inj h
    exact ev_zret dX7_statement_80 rfl (chk_pos hz)
  refine ev_aload_n dX7_statement_60 rfl (by decide) ?_
  refine ev_aload_n dX7_statement_61 rfl (by decide) ?_
  obtain ⟨v42, hc43, h⟩ := bind_of h
  refine ev_invV_v (k := (28 : Int)) (av := [(2, (10 : Int))]) (st := []) (v := (0, v42.1)) (τ := v42.2) dX7_statement_62 ml_X7_49 mv_X7_readPaper (T := TX7) (ci := 6) rfl sp28 (by decide) (by decide) rfl ⟨Nat.le_of_ble_eq_true rfl, Nat.le_of_ble_eq_true rfl⟩ (Nat.le_of_ble_eq_true rfl) (c_X7_readPaper hc43) ?_
  obtain ⟨hz, h⟩ := chk_of h
  obtain rfl := Option.some.inj h
  exact ev_zret dX7_statement_65 rfl (chk_pos hz)
set_option maxHeartbeats 4000000 in
set_option maxRecDepth 20000 in
theorem b_X7_statement_14  {r : Option V × Mem × Mem} : ∀ a x, f_X7_statement_14B  a = some x → K_X7_statement_14  r x → K_X7_statement_14  r (.inl a) := by
  intro a x h K
  obtain ⟨x2, σ⟩ := a
  have h : f_X7_statement_14C  x2 σ = some x := h
  unfold f_X7_statement_14C at h
  show Ev M_X7_statement 218 218 r 14 218 rho σ [(2, (28 : Int)), (2, (10 : Int)), (0, x2)] []
  refine ev_iload_n dX7_statement_14 rfl ?_
  refine ev_sipush dX7_statement_15 (by decide) (by decide) ?_
  refine ev_icmp_ge (tgt := 51) dX7_statement_18 rfl h (fun cb h => ?_) (fun cb h => ?_)
  · obtain rfl := Option.some.inj h
    exact ev_sub (L2 := [(2, (28 : Int)), (2, (10 : Int)), (9, 0)]) K ⟨.inr rfl, .inr rfl, .inl rfl, trivial⟩
  refine ev_aload_n dX7_statement_21 rfl (by decide) ?_
  refine ev_aload_n dX7_statement_22 rfl (by decide) ?_
  refine ev_getf (j := 2) (t := 0) (x := (σ (28 : Int) 2)) dX7_statement_23 cf_X7 wf_X7_22 sp28 (by decide) (by decide) rfl (by decide) rfl ?_
  obtain ⟨v4, hc5, h⟩ := bind_of h
  refine ev_invV_v (k := (28 : Int)) (av := [(0, (σ (28 : Int) 2))]) (st := []) (v := (0, v4)) (τ := σ) dX7_statement_26 ml_X7_32 mv_X7_byteAt (T := TX7) (ci := 6) rfl sp28 (by decide) (by decide) rfl ⟨Nat.le_of_ble_eq_true rfl, Nat.le_of_ble_eq_true rfl⟩ (Nat.le_of_ble_eq_true rfl) (c_X7_byteAt hc5) ?_
  obtain ⟨v6, hc7, h⟩ := bind_of h
  refine ev_invS_v (av := [(0, v4)]) (st := []) (v := (0, v6)) (τ := σ) dX7_statement_29 ml_X7_39 mt_X7_isLetter rfl ⟨Nat.le_of_ble_eq_true rfl, Nat.le_of_ble_eq_true rfl⟩ (Nat.le_of_ble_eq_true rfl) (c_X7_isLetter hc7) ?_
  refine ev_if_eq (tgt := 51) dX7_statement_32 rfl h (fun cb h => ?_) (fun cb h => ?_)
  · obtain rfl := Option.some.inj h
    exact ev_sub (L2 := [(2, (28 : Int)), (2, (10 : Int)), (9, 0)]) K ⟨.inr rfl, .inr rfl, .inl rfl, trivial⟩
  refine ev_aload_n dX7_statement_35 rfl (by decide) ?_
  refine ev_dup dX7_statement_36 (show (2 : Nat) ≠ 1 by decide) ?_
  refine ev_getf (j := 2) (t := 0) (x := (σ (28 : Int) 2)) dX7_statement_37 cf_X7 wf_X7_22 sp28 (by decide) (by decide) rfl (by decide) rfl ?_
  refine ev_iconst dX7_statement_40 (by decide) ?_
  refine ev_iadd dX7_statement_41 ?_
  refine ev_putfG (j := 2) (t := 0) dX7_statement_42 cf_X7 wf_X7_22 sp28 (by decide) (by decide) rfl (by decide) (by decide) rfl (fun z => absurd z (by decide +kernel)) h (fun σ8 h => ?_)
  refine ev_iincG dX7_statement_45 rfl h rfl (fun v9 h => ?_)
  show Ev _ _ _ _ 48 _ _ _ [(2, (28 : Int)), (2, (10 : Int)), (0, v9)] _
  refine ev_goto (tgt := 14) dX7_statement_48 rfl ?_
  obtain rfl := Option.some.inj h
  exact ev_sub (L2 := [(2, (28 : Int)), (2, (10 : Int)), (0, v9)]) K ⟨.inr rfl, .inr rfl, .inr rfl, trivial⟩
set_option maxHeartbeats 4000000 in
set_option maxRecDepth 20000 in
theorem e_X7_statement_14 (σ : Mem) (x2 : Int)  {q : (Int × Mem)} (h : f_X7_statement_14 σ x2 = some q) : Ev M_X7_statement 218 218 (some (0, q.1), rho, q.2) 14 218 rho σ [(2, (28 : Int)), (2, (10 : Int)), (0, x2)] [] := by
  unfold f_X7_statement_14 at h
  obtain ⟨e, hl, h⟩ := bind_of h
  refine loop_ev (K := K_X7_statement_14  (some (0, q.1), rho, q.2)) (b_X7_statement_14 ) FU (x2, σ) e hl ?_
  show Ev M_X7_statement 218 218 _ 51 218 rho e [(2, (28 : Int)), (2, (10 : Int)), (9, 0)] []
  replace h : f_X7_statement_51 e = some q := h
  exact ev_sub (L2 := [(2, (28 : Int)), (2, (10 : Int)), (9, 0)]) (e_X7_statement_51 e h) ⟨.inr rfl, .inr rfl, .inl rfl, trivial⟩
set_option maxHeartbeats 4000000 in
set_option maxRecDepth 20000 in
theorem c_X7_statement {σ : Mem}  {q : (Int × Mem)} (h : f_X7_statement σ  = some q) : Ms yX7_statement M_X7_statement 218 218 [(2, (28 : Int)), (2, (10 : Int))] rho σ (some (0, q.1), rho, q.2) := by
  refine Ms.of 1 (by decide +kernel) rfl (fun z => absurd z (by decide)) (fun _ _ _ => trivial) rfl rfl ?_
  unfold f_X7_statement at h
  show Ev M_X7_statement 218 218 _ 0 218 rho σ [(2, (28 : Int)), (2, (10 : Int)), (9, 0)] []
  refine ev_aload_n dX7_statement_0 rfl (by decide) ?_
  obtain ⟨σ1, hc2, h⟩ := bind_of h
  refine ev_invV_n (k := (28 : Int)) (av := []) (st := []) (τ := σ1) dX7_statement_1 ml_X7_29 mv_X7_skipBlanks (T := TX7) (ci := 6) rfl sp28 (by decide) (by decide) rfl ⟨Nat.le_of_ble_eq_true rfl, Nat.le_of_ble_eq_true rfl⟩ (Nat.le_of_ble_eq_true rfl) (c_X7_skipBlanks hc2) ?_
  refine ev_aload_n dX7_statement_4 rfl (by decide) ?_
  refine ev_aload_n dX7_statement_5 rfl (by decide) ?_
  refine ev_getf (j := 2) (t := 0) (x := (σ1 (28 : Int) 2)) dX7_statement_6 cf_X7 wf_X7_22 sp28 (by decide) (by decide) rfl (by decide) rfl ?_
  refine ev_putfG (j := 3) (t := 0) dX7_statement_9 cf_X7 wf_X7_36 sp28 (by decide) (by decide) rfl (by decide) (by decide) rfl (fun z => absurd z (by decide +kernel)) h (fun σ3 h => ?_)
  refine ev_iconst dX7_statement_12 (by decide) ?_
  refine ev_istore_n dX7_statement_13 rfl (by decide) ?_
  show Ev _ _ _ _ 14 _ _ _ [(2, (28 : Int)), (2, (10 : Int)), (0, (0 : Int))] _
  exact ev_sub (L2 := [(2, (28 : Int)), (2, (10 : Int)), (0, (0 : Int))]) (e_X7_statement_14 σ3 (0 : Int) h) ⟨.inr rfl, .inr rfl, .inr rfl, trivial⟩
def K_X7_readInto_9 (r : Option V × Mem × Mem) : (Int × Int × Mem) ⊕ ((Mem) ⊕ (Int × Mem) ⊕ (Mem) ⊕ (Mem)) → Prop := Sum.elim (fun a => Ev M_X7_readInto 218 218 r 9 218 rho a.2.2 [(2, (28 : Int)), (2, (10 : Int)), (0, a.1), (0, a.2.1)] []) (Sum.elim (fun e => Ev M_X7_readInto 218 218 r 24 218 rho e [(9, 0), (9, 0), (9, 0), (9, 0)] []) (Sum.elim (fun e => Ev M_X7_readInto 218 218 r 44 218 rho e.2 [(9, 0), (9, 0), (0, e.1), (9, 0)] []) (Sum.elim (fun e => Ev M_X7_readInto 218 218 r 59 218 rho e [(2, (28 : Int)), (9, 0), (9, 0), (9, 0)] []) (fun e => Ev M_X7_readInto 218 218 r 85 218 rho e [(9, 0), (9, 0), (9, 0), (9, 0)] []))))
set_option maxHeartbeats 4000000 in
set_option maxRecDepth 20000 in
theorem e_X7_readInto_59 (σ : Mem)  {q : (Int × Mem)} (h : f_X7_readInto_59 σ  = some q) : Ev M_X7_readInto 218 218 (some (0, q.1), rho, q.2) 59 218 rho σ [(2, (28 : Int)), (9, 0), (9, 0), (9, 0)] [] := by
  unfold f_X7_readInto_59 at h
  refine ev_aload_n dX7_readInto_59 rfl (by decide) ?_
  refine ev_aload_n dX7_readInto_60 rfl (by decide) ?_
  refine ev_getf (j := 2) (t := 0) (x := (σ (28 : Int) 2)) dX7_readInto_61 cf_X7 wf_X7_22 sp28 (by decide) (by decide) rfl (by decide) rfl ?_
  refine ev_putfG (j := 4) (t := 0) dX7_readInto_64 cf_X7 wf_X7_19 sp28 (by decide) (by decide) rfl (by decide) (by decide) rfl (fun z => absurd z (by decide +kernel)) h (fun σ11 h => ?_)
  refine ev_iconst dX7_readInto_67 (by decide) ?_
  obtain rfl := Option.some.inj h
  dsimp only
  exact ev_iret dX7_readInto_68 rfl rfl
set_option maxHeartbeats 4000000 in
set_option maxRecDepth 20000 in
theorem b_X7_readInto_9  {r : Option V × Mem × Mem} : ∀ a x, f_X7_readInto_9B  a = some x → K_X7_readInto_9  r x → K_X7_readInto_9  r (.inl a) := by
  intro a x h K
  obtain ⟨x2, x3, σ⟩ := a
  have h : f_X7_readInto_9C  x2 x3 σ = some x := h
  unfold f_X7_readInto_9C at h
  show Ev M_X7_readInto 218 218 r 9 218 rho σ [(2, (28 : Int)), (2, (10 : Int)), (0, x2), (0, x3)] []
  refine ev_iload_n dX7_readInto_9 rfl ?_
  refine ev_sipush dX7_readInto_10 (by decide) (by decide) ?_
  refine ev_icmp_gt (tgt := 85) dX7_readInto_13 rfl h (fun cb h => ?_) (fun cb h => ?_)
  · obtain rfl := Option.some.inj h
    exact ev_sub (L2 := [(9, 0), (9, 0), (9, 0), (9, 0)]) K ⟨.inl rfl, .inl rfl, .inl rfl, .inl rfl, trivial⟩
  refine ev_aload_n dX7_readInto_16 rfl (by decide) ?_
  refine ev_aload_n dX7_readInto_17 rfl (by decide) ?_
  obtain ⟨v2, hc3, h⟩ := bind_of h
  refine ev_invV_v (k := (28 : Int)) (av := [(2, (10 : Int))]) (st := []) (v := (0, v2.1)) (τ := v2.2) dX7_readInto_18 ml_X7_25 mv_X7_statement (T := TX7) (ci := 6) rfl sp28 (by decide) (by decide) rfl ⟨Nat.le_of_ble_eq_true rfl, Nat.le_of_ble_eq_true rfl⟩ (Nat.le_of_ble_eq_true rfl) (c_X7_statement hc3) ?_
  refine ev_if_ne (tgt := 26) dX7_readInto_21 rfl h (fun cb h => ?_) (fun cb h => ?_)
  · refine ev_iincG dX7_readInto_26 rfl h rfl (fun v4 h => ?_)
    show Ev _ _ _ _ 29 _ _ _ [(2, (28 : Int)), (2, (10 : Int)), (0, v4), (0, x3)] _
    refine ev_aload_n dX7_readInto_29 rfl (by decide) ?_
    obtain ⟨σ5, hc6, h⟩ := bind_of h
    refine ev_invV_n (k := (28 : Int)) (av := []) (st := []) (τ := σ5) dX7_readInto_30 ml_X7_29 mv_X7_skipBlanks (T := TX7) (ci := 6) rfl sp28 (by decide) (by decide) rfl ⟨Nat.le_of_ble_eq_true rfl, Nat.le_of_ble_eq_true rfl⟩ (Nat.le_of_ble_eq_true rfl) (c_X7_skipBlanks hc6) ?_
    refine ev_aload_n dX7_readInto_33 rfl (by decide) ?_
    refine ev_getf (j := 2) (t := 0) (x := (σ5 (28 : Int) 2)) dX7_readInto_34 cf_X7 wf_X7_22 sp28 (by decide) (by decide) rfl (by decide) rfl ?_
    refine ev_aload_n dX7_readInto_37 rfl (by decide) ?_
    refine ev_getf (j := 1) (t := 0) (x := (σ5 (28 : Int) 1)) dX7_readInto_38 cf_X7 wf_X7_15 sp28 (by decide) (by decide) rfl (by decide) rfl ?_
    refine ev_icmp_lt (tgt := 46) dX7_readInto_41 rfl h (fun cb h => ?_) (fun cb h => ?_)
    · refine ev_aload_n dX7_readInto_46 rfl (by decide) ?_
      refine ev_aload_n dX7_readInto_47 rfl (by decide) ?_
      refine ev_getf (j := 2) (t := 0) (x := (σ5 (28 : Int) 2)) dX7_readInto_48 cf_X7 wf_X7_22 sp28 (by decide) (by decide) rfl (by decide) rfl ?_
      obtain ⟨v7, hc8, h⟩ := bind_of h
      refine ev_invV_v (k := (28 : Int)) (av := [(0, (σ5 (28 : Int) 2))]) (st := []) (v := (0, v7)) (τ := σ5) dX7_readInto_51 ml_X7_32 mv_X7_byteAt (T := TX7) (ci := 6) rfl sp28 (by decide) (by decide) rfl ⟨Nat.le_of_ble_eq_true rfl, Nat.le_of_ble_eq_true rfl⟩ (Nat.le_of_ble_eq_true rfl) (c_X7_byteAt hc8) ?_
      refine ev_bipush dX7_readInto_54 (by decide) (by decide) ?_
      refine ev_icmp_eq (tgt := 69) dX7_readInto_56 rfl h (fun cb h => ?_) (fun cb h => ?_)
      · refine ev_aload_n dX7_readInto_69 rfl (by decide) ?_
        refine ev_dup dX7_readInto_70 (show (2 : Nat) ≠ 1 by decide) ?_
        refine ev_getf (j := 2) (t := 0) (x := (σ5 (28 : Int) 2)) dX7_readInto_71 cf_X7 wf_X7_22 sp28 (by decide) (by decide) rfl (by decide) rfl ?_
        refine ev_iconst dX7_readInto_74 (by decide) ?_
        refine ev_iadd dX7_readInto_75 ?_
        refine ev_putfG (j := 2) (t := 0) dX7_readInto_76 cf_X7 wf_X7_22 sp28 (by decide) (by decide) rfl (by decide) (by decide) rfl (fun z => absurd z (by decide +kernel)) h (fun σ9 h => ?_)
        refine ev_iincG dX7_readInto_79 rfl h rfl (fun v10 h => ?_)
        show Ev _ _ _ _ 82 _ _ _ [(2, (28 : Int)), (2, (10 : Int)), (0, v4), (0, v10)] _
        refine ev_goto (tgt := 9) dX7_readInto_82 rfl ?_
        obtain rfl := Option.some.inj h
        exact ev_sub (L2 := [(2, (28 : Int)), (2, (10 : Int)), (0, v4), (0, v10)]) K ⟨.inr rfl, .inr rfl, .inr rfl, .inr rfl, trivial⟩
      obtain rfl := Option.some.inj h
      exact ev_sub (L2 := [(2, (28 : Int)), (9, 0), (9, 0), (9, 0)]) K ⟨.inr rfl, .inl rfl, .inl rfl, .inl rfl, trivial⟩
    obtain rfl := Option.some.inj h
    exact ev_sub (L2 := [(9, 0), (9, 0), (0, v4), (9, 0)]) K ⟨.inl rfl, .inl rfl, .inr rfl, .inl rfl, trivial⟩
  obtain rfl := Option.some.inj h
  exact ev_sub (L2 := [(9, 0), (9, 0), (9, 0), (9, 0)]) K ⟨.inl rfl, .inl rfl, .inl rfl, .inl rfl, trivial⟩
set_option maxHeartbeats 4000000 in
set_option maxRecDepth 20000 in
theorem e_X7_readInto_9 (σ : Mem) (x2 x3 : Int)  {q : (Int × Mem)} (h : f_X7_readInto_9 σ x2 x3 = some q) : Ev M_X7_readInto 218 218 (some (0, q.1), rho, q.2) 9 218 rho σ [(2, (28 : Int)), (2, (10 : Int)), (0, x2), (0, x3)] [] := by
  unfold f_X7_readInto_9 at h
  obtain ⟨e, hl, h⟩ := bind_of h
  refine loop_ev (K := K_X7_readInto_9  (some (0, q.1), rho, q.2)) (b_X7_readInto_9 ) FU (x2, x3, σ) e hl ?_
  rcases e with e | e
  · show Ev M_X7_readInto 218 218 _ 24 218 rho e [(9, 0), (9, 0), (9, 0), (9, 0)] []
    replace h : some ((-1 : Int), e) = some q := h
    refine ev_iconst dX7_readInto_24 (by decide) ?_
    obtain rfl := Option.some.inj h
    dsimp only
    exact ev_iret dX7_readInto_25 rfl rfl
  rcases e with e | e
  · show Ev M_X7_readInto 218 218 _ 44 218 rho e.2 [(9, 0), (9, 0), (0, e.1), (9, 0)] []
    replace h : some (e.1, e.2) = some q := h
    refine ev_iload_n dX7_readInto_44 rfl ?_
    obtain rfl := Option.some.inj h
    dsimp only
    exact ev_iret dX7_readInto_45 rfl rfl
  rcases e with e | e
  · show Ev M_X7_readInto 218 218 _ 59 218 rho e [(2, (28 : Int)), (9, 0), (9, 0), (9, 0)] []
    replace h : f_X7_readInto_59 e = some q := h
    exact ev_sub (L2 := [(2, (28 : Int)), (9, 0), (9, 0), (9, 0)]) (e_X7_readInto_59 e h) ⟨.inr rfl, .inl rfl, .inl rfl, .inl rfl, trivial⟩
  · show Ev M_X7_readInto 218 218 _ 85 218 rho e [(9, 0), (9, 0), (9, 0), (9, 0)] []
    replace h : some ((-1 : Int), e) = some q := h
    refine ev_iconst dX7_readInto_85 (by decide) ?_
    obtain rfl := Option.some.inj h
    dsimp only
    exact ev_iret dX7_readInto_86 rfl rfl
set_option maxHeartbeats 4000000 in
set_option maxRecDepth 20000 in
theorem c_X7_readInto {σ : Mem}  {q : (Int × Mem)} (h : f_X7_readInto σ  = some q) : Ms yX7_readInto M_X7_readInto 218 218 [(2, (28 : Int)), (2, (10 : Int))] rho σ (some (0, q.1), rho, q.2) := by
  refine Ms.of 2 (by decide +kernel) rfl (fun z => absurd z (by decide)) (fun _ _ _ => trivial) rfl rfl ?_
  unfold f_X7_readInto at h
  show Ev M_X7_readInto 218 218 _ 0 218 rho σ [(2, (28 : Int)), (2, (10 : Int)), (9, 0), (9, 0)] []
  refine ev_aload_n dX7_readInto_0 rfl (by decide) ?_
  refine ev_iconst dX7_readInto_1 (by decide) ?_
  refine ev_putfG (j := 2) (t := 0) dX7_readInto_2 cf_X7 wf_X7_22 sp28 (by decide) (by decide) rfl (by decide) (by decide) rfl (fun z => absurd z (by decide +kernel)) h (fun σ1 h => ?_)
  refine ev_iconst dX7_readInto_5 (by decide) ?_
  refine ev_istore_n dX7_readInto_6 rfl (by decide) ?_
  show Ev _ _ _ _ 7 _ _ _ [(2, (28 : Int)), (2, (10 : Int)), (0, (0 : Int)), (9, 0)] _
  refine ev_iconst dX7_readInto_7 (by decide) ?_
  refine ev_istore_n dX7_readInto_8 rfl (by decide) ?_
  show Ev _ _ _ _ 9 _ _ _ [(2, (28 : Int)), (2, (10 : Int)), (0, (0 : Int)), (0, (0 : Int))] _
  exact ev_sub (L2 := [(2, (28 : Int)), (2, (10 : Int)), (0, (0 : Int)), (0, (0 : Int))]) (e_X7_readInto_9 σ1 (0 : Int) (0 : Int) h) ⟨.inr rfl, .inr rfl, .inr rfl, .inr rfl, trivial⟩
def K_X8_become_2 (x0 x1 : Int) (r : Option V × Mem × Mem) : (Int × Mem) ⊕ ((Mem)) → Prop := Sum.elim (fun a => Ev M_X8_become 218 218 r 2 218 rho a.2 [(2, x0), (2, x1), (0, a.1)] []) (fun e => Ev M_X8_become 218 218 r 25 218 rho e [(2, x0), (2, x1), (9, 0)] [])
set_option maxHeartbeats 4000000 in
set_option maxRecDepth 20000 in
theorem e_X8_become_25 (σ : Mem) (x0 x1 : Int) (hx0 : isW x0) (hx1 : isW x1) {q : Mem} (h : f_X8_become_25 σ x0 x1 = some q) : Ev M_X8_become 218 218 (none, rho, q) 25 218 rho σ [(2, x0), (2, x1), (9, 0)] [] := by
  unfold f_X8_become_25 at h
  refine ev_aload_n dX8_become_25 rfl (pW hx1).1 ?_
  refine ev_getf (j := 1) (t := 2) (x := (x1 + 2)) dX8_become_26 cf_X8 wf_X8_15 (sW hx1) (pW hx1).1 (pW hx1).2 rfl (by decide) (rW1 _ hx1) ?_
  refine ev_iconst dX8_become_29 (by decide) ?_
  refine ev_aload_n dX8_become_30 rfl (pW hx0).1 ?_
  refine ev_getf (j := 1) (t := 2) (x := (x0 + 2)) dX8_become_31 cf_X8 wf_X8_15 (sW hx0) (pW hx0).1 (pW hx0).2 rfl (by decide) (rW1 _ hx0) ?_
  refine ev_iconst dX8_become_34 (by decide) ?_
  refine ev_iconst dX8_become_35 (by decide) ?_
  refine ev_copyiG dX8_become_36 wa_X8_41 wa_words (sW1 hx1) (pW1 hx1).1 (pW1 hx1).2 (sW1 hx0) (pW1 hx0).1 (pW1 hx0).2 (by decide) (Nat.le_of_ble_eq_true rfl) h (fun σ3 h => ?_)
  refine ev_aload_n dX8_become_39 rfl (pW hx1).1 ?_
  refine ev_getf (j := 2) (t := 2) (x := (x1 + 3)) dX8_become_40 cf_X8 wf_X8_19 (sW hx1) (pW hx1).1 (pW hx1).2 rfl (by decide) (rW2 _ hx1) ?_
  refine ev_iconst dX8_become_43 (by decide) ?_
  show Ev _ _ _ _ 44 _ _ _ _ _
  refine ev_aload_n dX8_become_44 rfl (pW hx0).1 ?_
  refine ev_getf (j := 2) (t := 2) (x := (x0 + 3)) dX8_become_45 cf_X8 wf_X8_19 (sW hx0) (pW hx0).1 (pW hx0).2 rfl (by decide) (rW2 _ hx0) ?_
  refine ev_iconst dX8_become_48 (by decide) ?_
  refine ev_iconst dX8_become_49 (by decide) ?_
  refine ev_copyiG dX8_become_50 wa_X8_41 wa_words (sW2 hx1) (pW2 hx1).1 (pW2 hx1).2 (sW2 hx0) (pW2 hx0).1 (pW2 hx0).2 (by decide) (Nat.le_of_ble_eq_true rfl) h (fun σ4 h => ?_)
  refine ev_aload_n dX8_become_53 rfl (pW hx1).1 ?_
  refine ev_getf (j := 3) (t := 2) (x := (x1 + 4)) dX8_become_54 cf_X8 wf_X8_22 (sW hx1) (pW hx1).1 (pW hx1).2 rfl (by decide) (rW3 _ hx1) ?_
  refine ev_iconst dX8_become_57 (by decide) ?_
  refine ev_aload_n dX8_become_58 rfl (pW hx0).1 ?_
  refine ev_getf (j := 3) (t := 2) (x := (x0 + 4)) dX8_become_59 cf_X8 wf_X8_22 (sW hx0) (pW hx0).1 (pW hx0).2 rfl (by decide) (rW3 _ hx0) ?_
  refine ev_iconst dX8_become_62 (by decide) ?_
  refine ev_iconst dX8_become_63 (by decide) ?_
  show Ev _ _ _ _ 64 _ _ _ _ _
  refine ev_copyiG dX8_become_64 wa_X8_41 wa_words (sW3 hx1) (pW3 hx1).1 (pW3 hx1).2 (sW3 hx0) (pW3 hx0).1 (pW3 hx0).2 (by decide) (Nat.le_of_ble_eq_true rfl) h (fun σ5 h => ?_)
  refine ev_aload_n dX8_become_67 rfl (pW hx1).1 ?_
  refine ev_getf (j := 4) (t := 2) (x := (x1 + 5)) dX8_become_68 cf_X8 wf_X8_25 (sW hx1) (pW hx1).1 (pW hx1).2 rfl (by decide) (rW4 _ hx1) ?_
  refine ev_iconst dX8_become_71 (by decide) ?_
  refine ev_aload_n dX8_become_72 rfl (pW hx0).1 ?_
  refine ev_getf (j := 4) (t := 2) (x := (x0 + 5)) dX8_become_73 cf_X8 wf_X8_25 (sW hx0) (pW hx0).1 (pW hx0).2 rfl (by decide) (rW4 _ hx0) ?_
  refine ev_iconst dX8_become_76 (by decide) ?_
  refine ev_iconst dX8_become_77 (by decide) ?_
  refine ev_copyiG dX8_become_78 wa_X8_41 wa_words (sW4 hx1) (pW4 hx1).1 (pW4 hx1).2 (sW4 hx0) (pW4 hx0).1 (pW4 hx0).2 (by decide) (Nat.le_of_ble_eq_true rfl) h (fun σ6 h => ?_)
  refine ev_aload_n dX8_become_81 rfl (pW hx1).1 ?_
  refine ev_getf (j := 5) (t := 2) (x := (x1 + 6)) dX8_become_82 cf_X8 wf_X8_28 (sW hx1) (pW hx1).1 (pW hx1).2 rfl (by decide) (rW5 _ hx1) ?_
  refine ev_iconst dX8_become_85 (by decide) ?_
  show Ev _ _ _ _ 86 _ _ _ _ _
  refine ev_aload_n dX8_become_86 rfl (pW hx0).1 ?_
  refine ev_getf (j := 5) (t := 2) (x := (x0 + 6)) dX8_become_87 cf_X8 wf_X8_28 (sW hx0) (pW hx0).1 (pW hx0).2 rfl (by decide) (rW5 _ hx0) ?_
  refine ev_iconst dX8_become_90 (by decide) ?_
  refine ev_iconst dX8_become_91 (by decide) ?_
  refine ev_copylG dX8_become_92 wa_X8_41 wa_words (sW5 hx1) (pW5 hx1).1 (pW5 hx1).2 (sW5 hx0) (pW5 hx0).1 (pW5 hx0).2 (by decide) (Nat.le_of_ble_eq_true rfl) h (fun σ7 h => ?_)
  refine ev_aload_n dX8_become_95 rfl (pW hx1).1 ?_
  refine ev_getf (j := 6) (t := 2) (x := (x1 + 7)) dX8_become_96 cf_X8 wf_X8_32 (sW hx1) (pW hx1).1 (pW hx1).2 rfl (by decide) (rW6 _ hx1) ?_
  refine ev_iconst dX8_become_99 (by decide) ?_
  refine ev_aload_n dX8_become_100 rfl (pW hx0).1 ?_
  refine ev_getf (j := 6) (t := 2) (x := (x0 + 7)) dX8_become_101 cf_X8 wf_X8_32 (sW hx0) (pW hx0).1 (pW hx0).2 rfl (by decide) (rW6 _ hx0) ?_
  refine ev_iconst dX8_become_104 (by decide) ?_
  refine ev_bipush dX8_become_105 (by decide) (by decide) ?_
  show Ev _ _ _ _ 107 _ _ _ _ _
  refine ev_copyiG dX8_become_107 wa_X8_41 wa_words (sW6 hx1) (pW6 hx1).1 (pW6 hx1).2 (sW6 hx0) (pW6 hx0).1 (pW6 hx0).2 (by decide) (Nat.le_of_ble_eq_true rfl) h (fun σ8 h => ?_)
  refine ev_aload_n dX8_become_110 rfl (pW hx1).1 ?_
  refine ev_getf (j := 7) (t := 2) (x := (x1 + 8)) dX8_become_111 cf_X8 wf_X8_35 (sW hx1) (pW hx1).1 (pW hx1).2 rfl (by decide) (rW7 _ hx1) ?_
  refine ev_iconst dX8_become_114 (by decide) ?_
  refine ev_aload_n dX8_become_115 rfl (pW hx0).1 ?_
  refine ev_getf (j := 7) (t := 2) (x := (x0 + 8)) dX8_become_116 cf_X8 wf_X8_35 (sW hx0) (pW hx0).1 (pW hx0).2 rfl (by decide) (rW7 _ hx0) ?_
  refine ev_iconst dX8_become_119 (by decide) ?_
  refine ev_bipush dX8_become_120 (by decide) (by decide) ?_
  refine ev_copyiG dX8_become_122 wa_X8_41 wa_words (sW7 hx1) (pW7 hx1).1 (pW7 hx1).2 (sW7 hx0) (pW7 hx0).1 (pW7 hx0).2 (by decide) (Nat.le_of_ble_eq_true rfl) h (fun σ9 h => ?_)
  refine ev_aload_n dX8_become_125 rfl (pW hx1).1 ?_
  refine ev_getf (j := 8) (t := 2) (x := (x1 + 9)) dX8_become_126 cf_X8 wf_X8_38 (sW hx1) (pW hx1).1 (pW hx1).2 rfl (by decide) (rW8 _ hx1) ?_
  refine ev_iconst dX8_become_129 (by decide) ?_
  show Ev _ _ _ _ 130 _ _ _ _ _
  refine ev_aload_n dX8_become_130 rfl (pW hx0).1 ?_
  refine ev_getf (j := 8) (t := 2) (x := (x0 + 9)) dX8_become_131 cf_X8 wf_X8_38 (sW hx0) (pW hx0).1 (pW hx0).2 rfl (by decide) (rW8 _ hx0) ?_
  refine ev_iconst dX8_become_134 (by decide) ?_
  refine ev_bipush dX8_become_135 (by decide) (by decide) ?_
  refine ev_copyiG dX8_become_137 wa_X8_41 wa_words (sW8 hx1) (pW8 hx1).1 (pW8 hx1).2 (sW8 hx0) (pW8 hx0).1 (pW8 hx0).2 (by decide) (Nat.le_of_ble_eq_true rfl) h (fun σ10 h => ?_)
  obtain rfl := Option.some.inj h
  exact ev_vret dX8_become_140 rfl rfl
set_option maxHeartbeats 4000000 in
set_option maxRecDepth 20000 in
theorem b_X8_become_2 (x0 x1 : Int) (hx0 : isW x0) (hx1 : isW x1) {r : Option V × Mem × Mem} : ∀ a x, f_X8_become_2B x0 x1 a = some x → K_X8_become_2 x0 x1 r x → K_X8_become_2 x0 x1 r (.inl a) := by
  intro a x h K
  obtain ⟨x2, σ⟩ := a
  have h : f_X8_become_2C x0 x1 x2 σ = some x := h
  unfold f_X8_become_2C at h
  show Ev M_X8_become 218 218 r 2 218 rho σ [(2, x0), (2, x1), (0, x2)] []
  refine ev_iload_n dX8_become_2 rfl ?_
  refine ev_iconst dX8_become_3 (by decide) ?_
  refine ev_icmp_ge (tgt := 25) dX8_become_4 rfl h (fun cb h => ?_) (fun cb h => ?_)
  · obtain rfl := Option.some.inj h
    exact ev_sub (L2 := [(2, x0), (2, x1), (9, 0)]) K ⟨.inr rfl, .inr rfl, .inl rfl, trivial⟩
  refine ev_aload_n dX8_become_7 rfl (pW hx0).1 ?_
  refine ev_getf (j := 0) (t := 2) (x := (x0 + 1)) dX8_become_8 cf_X8 wf_X8_9 (sW hx0) (pW hx0).1 (pW hx0).2 rfl (by decide) (rW0 _ hx0) ?_
  refine ev_iload_n dX8_become_11 rfl ?_
  refine ev_aload_n dX8_become_12 rfl (pW hx1).1 ?_
  refine ev_getf (j := 0) (t := 2) (x := (x1 + 1)) dX8_become_13 cf_X8 wf_X8_9 (sW hx1) (pW hx1).1 (pW hx1).2 rfl (by decide) (rW0 _ hx1) ?_
  refine ev_iload_n dX8_become_16 rfl ?_
  refine ev_zald dX8_become_17 (sW0 hx1) (pW0 hx1).1 (pW0 hx1).2 h (fun h => ?_)
  refine ev_zastG dX8_become_18 (sW0 hx0) (pW0 hx0).1 (pW0 hx0).2 h (fun σ1 h => ?_)
  refine ev_iincG dX8_become_19 rfl h rfl (fun v2 h => ?_)
  show Ev _ _ _ _ 22 _ _ _ [(2, x0), (2, x1), (0, v2)] _
  refine ev_goto (tgt := 2) dX8_become_22 rfl ?_
  obtain rfl := Option.some.inj h
  exact ev_sub (L2 := [(2, x0), (2, x1), (0, v2)]) K ⟨.inr rfl, .inr rfl, .inr rfl, trivial⟩
set_option maxHeartbeats 4000000 in
set_option maxRecDepth 20000 in
theorem e_X8_become_2 (σ : Mem) (x0 x1 x2 : Int) (hx0 : isW x0) (hx1 : isW x1) {q : Mem} (h : f_X8_become_2 σ x0 x1 x2 = some q) : Ev M_X8_become 218 218 (none, rho, q) 2 218 rho σ [(2, x0), (2, x1), (0, x2)] [] := by
  unfold f_X8_become_2 at h
  obtain ⟨e, hl, h⟩ := bind_of h
  refine loop_ev (K := K_X8_become_2 x0 x1 (none, rho, q)) (b_X8_become_2 x0 x1 hx0 hx1) FU (x2, σ) e hl ?_
  show Ev M_X8_become 218 218 _ 25 218 rho e [(2, x0), (2, x1), (9, 0)] []
  replace h : f_X8_become_25 e x0 x1 = some q := h
  exact ev_sub (L2 := [(2, x0), (2, x1), (9, 0)]) (e_X8_become_25 e x0 x1 hx0 hx1 h) ⟨.inr rfl, .inr rfl, .inl rfl, trivial⟩
set_option maxHeartbeats 4000000 in
set_option maxRecDepth 20000 in
theorem c_X8_become {σ : Mem} {x0 x1 : Int} (hx0 : isW x0) (hx1 : isW x1) {q : Mem} (h : f_X8_become σ x0 x1 = some q) : Ms yX8_become M_X8_become 218 218 [(2, x0), (2, x1)] rho σ (none, rho, q) := by
  refine Ms.of 1 (by decide +kernel) rfl (fun z => absurd z (by decide)) (fun _ _ _ => trivial) rfl rfl ?_
  unfold f_X8_become at h
  show Ev M_X8_become 218 218 _ 0 218 rho σ [(2, x0), (2, x1), (9, 0)] []
  refine ev_iconst dX8_become_0 (by decide) ?_
  refine ev_istore_n dX8_become_1 rfl (by decide) ?_
  show Ev _ _ _ _ 2 _ _ _ [(2, x0), (2, x1), (0, (0 : Int))] _
  exact ev_sub (L2 := [(2, x0), (2, x1), (0, (0 : Int))]) (e_X8_become_2 σ x0 x1 (0 : Int) hx0 hx1 h) ⟨.inr rfl, .inr rfl, .inr rfl, trivial⟩
def K_X8_cants_4 (σ : Mem) (x0 : Int) (r : Option V × Mem × Mem) : (Int × Int) ⊕ ((Int)) → Prop := Sum.elim (fun a => Ev M_X8_cants 218 218 r 4 218 rho σ [(2, x0), (0, a.1), (0, a.2)] []) (fun e => Ev M_X8_cants 218 218 r 27 218 rho σ [(9, 0), (0, e), (9, 0)] [])
set_option maxHeartbeats 4000000 in
set_option maxRecDepth 20000 in
theorem e_X8_cants_21 (σ : Mem) (x0 x1 x2 : Int) (hx0 : isW x0) {q : ((Int × Int) ⊕ ((Int)))} (h : f_X8_cants_21 σ x0 x1 x2 = some q) {r : Option V × Mem × Mem} (K : K_X8_cants_4 σ x0 r q) : Ev M_X8_cants 218 218 r 21 218 rho σ [(2, x0), (0, x1), (0, x2)] [] := by
  unfold f_X8_cants_21 at h
  refine ev_iincG dX8_cants_21 rfl h rfl (fun v2 h => ?_)
  show Ev _ _ _ _ 24 _ _ _ [(2, x0), (0, x1), (0, v2)] _
  refine ev_goto (tgt := 4) dX8_cants_24 rfl ?_
  obtain rfl := Option.some.inj h
  exact ev_sub (L2 := [(2, x0), (0, x1), (0, v2)]) K ⟨.inr rfl, .inr rfl, .inr rfl, trivial⟩
set_option maxHeartbeats 4000000 in
set_option maxRecDepth 20000 in
theorem b_X8_cants_4 (σ : Mem) (x0 : Int) (hx0 : isW x0) {r : Option V × Mem × Mem} : ∀ a x, f_X8_cants_4B σ x0 a = some x → K_X8_cants_4 σ x0 r x → K_X8_cants_4 σ x0 r (.inl a) := by
  intro a x h K
  obtain ⟨x1, x2⟩ := a
  have h : f_X8_cants_4C σ x0 x1 x2 = some x := h
  unfold f_X8_cants_4C at h
  show Ev M_X8_cants 218 218 r 4 218 rho σ [(2, x0), (0, x1), (0, x2)] []
  refine ev_iload_n dX8_cants_4 rfl ?_
  refine ev_iconst dX8_cants_5 (by decide) ?_
  refine ev_icmp_ge (tgt := 27) dX8_cants_6 rfl h (fun cb h => ?_) (fun cb h => ?_)
  · obtain rfl := Option.some.inj h
    exact ev_sub (L2 := [(9, 0), (0, x1), (9, 0)]) K ⟨.inl rfl, .inr rfl, .inl rfl, trivial⟩
  refine ev_aload_n dX8_cants_9 rfl (pW hx0).1 ?_
  refine ev_getf (j := 0) (t := 2) (x := (x0 + 1)) dX8_cants_10 cf_X8 wf_X8_9 (sW hx0) (pW hx0).1 (pW hx0).2 rfl (by decide) (rW0 _ hx0) ?_
  refine ev_iload_n dX8_cants_13 rfl ?_
  refine ev_zald dX8_cants_14 (sW0 hx0) (pW0 hx0).1 (pW0 hx0).2 h (fun h => ?_)
  refine ev_if_ne (tgt := 21) dX8_cants_15 rfl h (fun cb h => ?_) (fun cb h => ?_)
  · exact ev_sub (L2 := [(2, x0), (0, x1), (0, x2)]) (e_X8_cants_21 σ x0 x1 x2 hx0 h K) ⟨.inr rfl, .inr rfl, .inr rfl, trivial⟩
  refine ev_iincG dX8_cants_18 rfl h rfl (fun v1 h => ?_)
  show Ev _ _ _ _ 21 _ _ _ [(2, x0), (0, v1), (0, x2)] _
  exact ev_sub (L2 := [(2, x0), (0, v1), (0, x2)]) (e_X8_cants_21 σ x0 v1 x2 hx0 h K) ⟨.inr rfl, .inr rfl, .inr rfl, trivial⟩
set_option maxHeartbeats 4000000 in
set_option maxRecDepth 20000 in
theorem e_X8_cants_4 (σ : Mem) (x0 x1 x2 : Int) (hx0 : isW x0) {q : Int} (h : f_X8_cants_4 σ x0 x1 x2 = some q) : Ev M_X8_cants 218 218 (some (0, q), rho, σ) 4 218 rho σ [(2, x0), (0, x1), (0, x2)] [] := by
  unfold f_X8_cants_4 at h
  obtain ⟨e, hl, h⟩ := bind_of h
  refine loop_ev (K := K_X8_cants_4 σ x0 (some (0, q), rho, σ)) (b_X8_cants_4 σ x0 hx0) FU (x1, x2) e hl ?_
  show Ev M_X8_cants 218 218 _ 27 218 rho σ [(9, 0), (0, e), (9, 0)] []
  replace h : some e = some q := h
  refine ev_iload_n dX8_cants_27 rfl ?_
  obtain rfl := Option.some.inj h
  exact ev_iret dX8_cants_28 rfl rfl
set_option maxHeartbeats 4000000 in
set_option maxRecDepth 20000 in
theorem c_X8_cants {σ : Mem} {x0 : Int} (hx0 : isW x0) {q : Int} (h : f_X8_cants σ x0 = some q) : Ms yX8_cants M_X8_cants 218 218 [(2, x0)] rho σ (some (0, q), rho, σ) := by
  refine Ms.of 2 (by decide +kernel) rfl (fun z => absurd z (by decide)) (fun _ _ _ => trivial) rfl rfl ?_
  unfold f_X8_cants at h
  show Ev M_X8_cants 218 218 _ 0 218 rho σ [(2, x0), (9, 0), (9, 0)] []
  refine ev_iconst dX8_cants_0 (by decide) ?_
  refine ev_istore_n dX8_cants_1 rfl (by decide) ?_
  show Ev _ _ _ _ 2 _ _ _ [(2, x0), (0, (0 : Int)), (9, 0)] _
  refine ev_iconst dX8_cants_2 (by decide) ?_
  refine ev_istore_n dX8_cants_3 rfl (by decide) ?_
  show Ev _ _ _ _ 4 _ _ _ [(2, x0), (0, (0 : Int)), (0, (0 : Int))] _
  exact ev_sub (L2 := [(2, x0), (0, (0 : Int)), (0, (0 : Int))]) (e_X8_cants_4 σ x0 (0 : Int) (0 : Int) hx0 h) ⟨.inr rfl, .inr rfl, .inr rfl, trivial⟩
def K_X8_keptSlots_4 (σ : Mem) (x0 : Int) (r : Option V × Mem × Mem) : (Int × Int) ⊕ ((Int)) → Prop := Sum.elim (fun a => Ev M_X8_keptSlots 218 218 r 4 218 rho σ [(2, x0), (0, a.1), (0, a.2)] []) (fun e => Ev M_X8_keptSlots 218 218 r 27 218 rho σ [(9, 0), (0, e), (9, 0)] [])
set_option maxHeartbeats 4000000 in
set_option maxRecDepth 20000 in
theorem b_X8_keptSlots_4 (σ : Mem) (x0 : Int) (hx0 : isW x0) {r : Option V × Mem × Mem} : ∀ a x, f_X8_keptSlots_4B σ x0 a = some x → K_X8_keptSlots_4 σ x0 r x → K_X8_keptSlots_4 σ x0 r (.inl a) := by
  intro a x h K
  obtain ⟨x1, x2⟩ := a
  have h : f_X8_keptSlots_4C σ x0 x1 x2 = some x := h
  unfold f_X8_keptSlots_4C at h
  show Ev M_X8_keptSlots 218 218 r 4 218 rho σ [(2, x0), (0, x1), (0, x2)] []
  refine ev_iload_n dX8_keptSlots_4 rfl ?_
  refine ev_iconst dX8_keptSlots_5 (by decide) ?_
  refine ev_icmp_ge (tgt := 27) dX8_keptSlots_6 rfl h (fun cb h => ?_) (fun cb h => ?_)
  · obtain rfl := Option.some.inj h
    exact ev_sub (L2 := [(9, 0), (0, x1), (9, 0)]) K ⟨.inl rfl, .inr rfl, .inl rfl, trivial⟩
  refine ev_iload_n dX8_keptSlots_9 rfl ?_
  refine ev_aload_n dX8_keptSlots_10 rfl (pW hx0).1 ?_
  refine ev_getf (j := 5) (t := 2) (x := (x0 + 6)) dX8_keptSlots_11 cf_X8 wf_X8_28 (sW hx0) (pW hx0).1 (pW hx0).2 rfl (by decide) (rW5 _ hx0) ?_
  refine ev_iload_n dX8_keptSlots_14 rfl ?_
  refine ev_lald dX8_keptSlots_15 (sW5 hx0) (pW5 hx0).1 (pW5 hx0).2 h (fun h => ?_)
  obtain ⟨v1, hc2, h⟩ := bind_of h
  refine ev_invS_v (av := [(1, (σ (x0 + 6) x2))]) (st := [(0, x1)]) (v := (0, v1)) (τ := σ) dX8_keptSlots_16 ml_X8_66 mt_J13_bitCount_95d88 rfl ⟨Nat.le_of_ble_eq_true rfl, Nat.le_of_ble_eq_true rfl⟩ (Nat.le_of_ble_eq_true rfl) (c_J13_bitCount_95d88 hc2) ?_
  refine ev_iadd dX8_keptSlots_19 ?_
  refine ev_istore_nG dX8_keptSlots_20 h rfl (by decide) (fun v3 h => ?_)
  show Ev _ _ _ _ 21 _ _ _ [(2, x0), (0, v3), (0, x2)] _
  refine ev_iincG dX8_keptSlots_21 rfl h rfl (fun v4 h => ?_)
  show Ev _ _ _ _ 24 _ _ _ [(2, x0), (0, v3), (0, v4)] _
  refine ev_goto (tgt := 4) dX8_keptSlots_24 rfl ?_
  obtain rfl := Option.some.inj h
  exact ev_sub (L2 := [(2, x0), (0, v3), (0, v4)]) K ⟨.inr rfl, .inr rfl, .inr rfl, trivial⟩
set_option maxHeartbeats 4000000 in
set_option maxRecDepth 20000 in
theorem e_X8_keptSlots_4 (σ : Mem) (x0 x1 x2 : Int) (hx0 : isW x0) {q : Int} (h : f_X8_keptSlots_4 σ x0 x1 x2 = some q) : Ev M_X8_keptSlots 218 218 (some (0, q), rho, σ) 4 218 rho σ [(2, x0), (0, x1), (0, x2)] [] := by
  unfold f_X8_keptSlots_4 at h
  obtain ⟨e, hl, h⟩ := bind_of h
  refine loop_ev (K := K_X8_keptSlots_4 σ x0 (some (0, q), rho, σ)) (b_X8_keptSlots_4 σ x0 hx0) FU (x1, x2) e hl ?_
  show Ev M_X8_keptSlots 218 218 _ 27 218 rho σ [(9, 0), (0, e), (9, 0)] []
  replace h : some e = some q := h
  refine ev_iload_n dX8_keptSlots_27 rfl ?_
  obtain rfl := Option.some.inj h
  exact ev_iret dX8_keptSlots_28 rfl rfl
set_option maxHeartbeats 4000000 in
set_option maxRecDepth 20000 in
theorem c_X8_keptSlots {σ : Mem} {x0 : Int} (hx0 : isW x0) {q : Int} (h : f_X8_keptSlots σ x0 = some q) : Ms yX8_keptSlots M_X8_keptSlots 218 218 [(2, x0)] rho σ (some (0, q), rho, σ) := by
  refine Ms.of 2 (by decide +kernel) rfl (fun z => absurd z (by decide)) (fun _ _ _ => trivial) rfl rfl ?_
  unfold f_X8_keptSlots at h
  show Ev M_X8_keptSlots 218 218 _ 0 218 rho σ [(2, x0), (9, 0), (9, 0)] []
  refine ev_iconst dX8_keptSlots_0 (by decide) ?_
  refine ev_istore_n dX8_keptSlots_1 rfl (by decide) ?_
  show Ev _ _ _ _ 2 _ _ _ [(2, x0), (0, (0 : Int)), (9, 0)] _
  refine ev_iconst dX8_keptSlots_2 (by decide) ?_
  refine ev_istore_n dX8_keptSlots_3 rfl (by decide) ?_
  show Ev _ _ _ _ 4 _ _ _ [(2, x0), (0, (0 : Int)), (0, (0 : Int))] _
  exact ev_sub (L2 := [(2, x0), (0, (0 : Int)), (0, (0 : Int))]) (e_X8_keptSlots_4 σ x0 (0 : Int) (0 : Int) hx0 h) ⟨.inr rfl, .inr rfl, .inr rfl, trivial⟩
def K_X8_deed_18 (σ : Mem) (x0 x1 x2 : Int) (r : Option V × Mem × Mem) : (Int) ⊕ ((Int) ⊕ (Unit)) → Prop := Sum.elim (fun a => Ev M_X8_deed 218 218 r 18 218 rho σ [(2, x0), (0, x1), (0, x2), (0, a), (9, 0)] []) (Sum.elim (fun e => Ev M_X8_deed 218 218 r 57 218 rho σ [(2, x0), (9, 0), (9, 0), (9, 0), (0, e)] []) (fun e => Ev M_X8_deed 218 218 r 71 218 rho σ [(2, x0), (0, x1), (0, x2), (9, 0), (9, 0)] []))
set_option maxHeartbeats 4000000 in
set_option maxRecDepth 20000 in
theorem e_X8_deed_57 (σ : Mem) (x0 x4 : Int) (hx0 : isW x0) {q : Int} (h : f_X8_deed_57 σ x0 x4 = some q) : Ev M_X8_deed 218 218 (some (0, q), rho, σ) 57 218 rho σ [(2, x0), (9, 0), (9, 0), (9, 0), (0, x4)] [] := by
  unfold f_X8_deed_57 at h
  refine ev_aload_n dX8_deed_57 rfl (pW hx0).1 ?_
  refine ev_getf (j := 6) (t := 2) (x := (x0 + 7)) dX8_deed_58 cf_X8 wf_X8_32 (sW hx0) (pW hx0).1 (pW hx0).2 rfl (by decide) (rW6 _ hx0) ?_
  refine ev_iload dX8_deed_61 rfl ?_
  refine ev_iald dX8_deed_63 (sW6 hx0) (pW6 hx0).1 (pW6 hx0).2 h (fun h => ?_)
  obtain rfl := Option.some.inj h
  exact ev_iret dX8_deed_64 rfl rfl
set_option maxHeartbeats 4000000 in
set_option maxRecDepth 20000 in
theorem e_X8_deed_65 (σ : Mem) (x0 x1 x2 x3 : Int) (hx0 : isW x0) {q : ((Int) ⊕ ((Int) ⊕ (Unit)))} (h : f_X8_deed_65 σ x0 x1 x2 x3 = some q) {r : Option V × Mem × Mem} (K : K_X8_deed_18 σ x0 x1 x2 r q) : Ev M_X8_deed 218 218 r 65 218 rho σ [(2, x0), (0, x1), (0, x2), (0, x3), (9, 0)] [] := by
  unfold f_X8_deed_65 at h
  refine ev_iincG dX8_deed_65 rfl h rfl (fun v4 h => ?_)
  show Ev _ _ _ _ 68 _ _ _ [(2, x0), (0, x1), (0, x2), (0, v4), (9, 0)] _
  refine ev_goto (tgt := 18) dX8_deed_68 rfl ?_
  obtain rfl := Option.some.inj h
  exact ev_sub (L2 := [(2, x0), (0, x1), (0, x2), (0, v4), (9, 0)]) K ⟨.inr rfl, .inr rfl, .inr rfl, .inr rfl, .inl rfl, trivial⟩
set_option maxHeartbeats 4000000 in
set_option maxRecDepth 20000 in
theorem e_X8_deed_71 (σ : Mem) (x0 x1 x2 : Int) (hx0 : isW x0) {q : Int} (h : f_X8_deed_71 σ x0 x1 x2 = some q) : Ev M_X8_deed 218 218 (some (0, q), rho, σ) 71 218 rho σ [(2, x0), (0, x1), (0, x2), (9, 0), (9, 0)] [] := by
  unfold f_X8_deed_71 at h
  refine ev_aload_n dX8_deed_71 rfl (pW hx0).1 ?_
  refine ev_getf (j := 5) (t := 2) (x := (x0 + 6)) dX8_deed_72 cf_X8 wf_X8_28 (sW hx0) (pW hx0).1 (pW hx0).2 rfl (by decide) (rW5 _ hx0) ?_
  refine ev_iload_n dX8_deed_75 rfl ?_
  refine ev_lald dX8_deed_76 (sW5 hx0) (pW5 hx0).1 (pW5 hx0).2 h (fun h => ?_)
  refine ev_iload_n dX8_deed_77 rfl ?_
  obtain ⟨v5, hc6, h⟩ := bind_of h
  refine ev_invSN_v (av := [(1, (σ (x0 + 6) x1)), (0, x2)]) (st := []) (v := (0, v5)) (τ := σ) dX8_deed_78 ml_X8_75 mt_X10_hasSlot rfl ⟨Nat.le_of_ble_eq_true rfl, Nat.le_of_ble_eq_true rfl⟩ (Nat.le_of_ble_eq_true rfl) (c_X10_hasSlot hc6) ?_
  refine ev_if_eq (tgt := 89) dX8_deed_81 rfl h (fun cb h => ?_) (fun cb h => ?_)
  · refine ev_iconst dX8_deed_89 (by decide) ?_
    obtain rfl := Option.some.inj h
    exact ev_iret dX8_deed_90 rfl rfl
  refine ev_bipush dX8_deed_84 (by decide) (by decide) ?_
  refine ev_goto (tgt := 90) dX8_deed_86 rfl ?_
  obtain rfl := Option.some.inj h
  exact ev_iret dX8_deed_90 rfl rfl
set_option maxHeartbeats 4000000 in
set_option maxRecDepth 20000 in
theorem b_X8_deed_18 (σ : Mem) (x0 x1 x2 : Int) (hx0 : isW x0) {r : Option V × Mem × Mem} : ∀ a x, f_X8_deed_18B σ x0 x1 x2 a = some x → K_X8_deed_18 σ x0 x1 x2 r x → K_X8_deed_18 σ x0 x1 x2 r (.inl a) := by
  intro a x h K
  have ⟨x3, ea⟩ : ∃ z, z = a := ⟨_, rfl⟩
  subst ea
  have h : f_X8_deed_18C σ x0 x1 x2 x3 = some x := h
  unfold f_X8_deed_18C at h
  show Ev M_X8_deed 218 218 r 18 218 rho σ [(2, x0), (0, x1), (0, x2), (0, x3), (9, 0)] []
  refine ev_iload_n dX8_deed_18 rfl ?_
  refine ev_aload_n dX8_deed_19 rfl (pW hx0).1 ?_
  refine ev_getf (j := 4) (t := 2) (x := (x0 + 5)) dX8_deed_20 cf_X8 wf_X8_25 (sW hx0) (pW hx0).1 (pW hx0).2 rfl (by decide) (rW4 _ hx0) ?_
  refine ev_iload_n dX8_deed_23 rfl ?_
  refine ev_iald dX8_deed_24 (sW4 hx0) (pW4 hx0).1 (pW4 hx0).2 h (fun h => ?_)
  refine ev_icmp_ge (tgt := 71) dX8_deed_25 rfl h (fun cb h => ?_) (fun cb h => ?_)
  · obtain rfl := Option.some.inj h
    exact ev_sub (L2 := [(2, x0), (0, x1), (0, x2), (9, 0), (9, 0)]) K ⟨.inr rfl, .inr rfl, .inr rfl, .inl rfl, .inl rfl, trivial⟩
  refine ev_iload_n dX8_deed_28 rfl ?_
  refine ev_iconst dX8_deed_29 (by decide) ?_
  refine ev_imul dX8_deed_30 ?_
  refine ev_iload_n dX8_deed_31 rfl ?_
  refine ev_iadd dX8_deed_32 ?_
  refine ev_istoreG dX8_deed_33 h rfl (by decide) (fun v3 h => ?_)
  show Ev _ _ _ _ 35 _ _ _ [(2, x0), (0, x1), (0, x2), (0, x3), (0, v3)] _
  refine ev_aload_n dX8_deed_35 rfl (pW hx0).1 ?_
  refine ev_getf (j := 7) (t := 2) (x := (x0 + 8)) dX8_deed_36 cf_X8 wf_X8_35 (sW hx0) (pW hx0).1 (pW hx0).2 rfl (by decide) (rW7 _ hx0) ?_
  refine ev_iload dX8_deed_39 rfl ?_
  refine ev_iald dX8_deed_41 (sW7 hx0) (pW7 hx0).1 (pW7 hx0).2 h (fun h => ?_)
  refine ev_iload_n dX8_deed_42 rfl ?_
  show Ev _ _ _ _ 43 _ _ _ _ _
  refine ev_icmp_gt (tgt := 65) dX8_deed_43 rfl h (fun cb h => ?_) (fun cb h => ?_)
  · exact ev_sub (L2 := [(2, x0), (0, x1), (0, x2), (0, x3), (9, 0)]) (e_X8_deed_65 σ x0 x1 x2 x3 hx0 h K) ⟨.inr rfl, .inr rfl, .inr rfl, .inr rfl, .inl rfl, trivial⟩
  refine ev_iload_n dX8_deed_46 rfl ?_
  refine ev_aload_n dX8_deed_47 rfl (pW hx0).1 ?_
  refine ev_getf (j := 8) (t := 2) (x := (x0 + 9)) dX8_deed_48 cf_X8 wf_X8_38 (sW hx0) (pW hx0).1 (pW hx0).2 rfl (by decide) (rW8 _ hx0) ?_
  refine ev_iload dX8_deed_51 rfl ?_
  refine ev_iald dX8_deed_53 (sW8 hx0) (pW8 hx0).1 (pW8 hx0).2 h (fun h => ?_)
  refine ev_icmp_ge (tgt := 65) dX8_deed_54 rfl h (fun cb h => ?_) (fun cb h => ?_)
  · exact ev_sub (L2 := [(2, x0), (0, x1), (0, x2), (0, x3), (9, 0)]) (e_X8_deed_65 σ x0 x1 x2 x3 hx0 h K) ⟨.inr rfl, .inr rfl, .inr rfl, .inr rfl, .inl rfl, trivial⟩
  obtain rfl := Option.some.inj h
  exact ev_sub (L2 := [(2, x0), (9, 0), (9, 0), (9, 0), (0, v3)]) K ⟨.inr rfl, .inl rfl, .inl rfl, .inl rfl, .inr rfl, trivial⟩
set_option maxHeartbeats 4000000 in
set_option maxRecDepth 20000 in
theorem e_X8_deed_18 (σ : Mem) (x0 x1 x2 x3 : Int) (hx0 : isW x0) {q : Int} (h : f_X8_deed_18 σ x0 x1 x2 x3 = some q) : Ev M_X8_deed 218 218 (some (0, q), rho, σ) 18 218 rho σ [(2, x0), (0, x1), (0, x2), (0, x3), (9, 0)] [] := by
  unfold f_X8_deed_18 at h
  obtain ⟨e, hl, h⟩ := bind_of h
  refine loop_ev (K := K_X8_deed_18 σ x0 x1 x2 (some (0, q), rho, σ)) (b_X8_deed_18 σ x0 x1 x2 hx0) FU x3 e hl ?_
  rcases e with e | e
  · show Ev M_X8_deed 218 218 _ 57 218 rho σ [(2, x0), (9, 0), (9, 0), (9, 0), (0, e)] []
    replace h : f_X8_deed_57 σ x0 e = some q := h
    exact ev_sub (L2 := [(2, x0), (9, 0), (9, 0), (9, 0), (0, e)]) (e_X8_deed_57 σ x0 e hx0 h) ⟨.inr rfl, .inl rfl, .inl rfl, .inl rfl, .inr rfl, trivial⟩
  · show Ev M_X8_deed 218 218 _ 71 218 rho σ [(2, x0), (0, x1), (0, x2), (9, 0), (9, 0)] []
    replace h : f_X8_deed_71 σ x0 x1 x2 = some q := h
    exact ev_sub (L2 := [(2, x0), (0, x1), (0, x2), (9, 0), (9, 0)]) (e_X8_deed_71 σ x0 x1 x2 hx0 h) ⟨.inr rfl, .inr rfl, .inr rfl, .inl rfl, .inl rfl, trivial⟩
set_option maxHeartbeats 4000000 in
set_option maxRecDepth 20000 in
theorem c_X8_deed {σ : Mem} {x0 x1 x2 : Int} (hx0 : isW x0) {q : Int} (h : f_X8_deed σ x0 x1 x2 = some q) : Ms yX8_deed M_X8_deed 218 218 [(2, x0), (0, x1), (0, x2)] rho σ (some (0, q), rho, σ) := by
  refine Ms.of 2 (by decide +kernel) rfl (fun z => absurd z (by decide)) (fun _ _ _ => trivial) rfl rfl ?_
  unfold f_X8_deed at h
  show Ev M_X8_deed 218 218 _ 0 218 rho σ [(2, x0), (0, x1), (0, x2), (9, 0), (9, 0)] []
  refine ev_iload_n dX8_deed_0 rfl ?_
  refine ev_aload_n dX8_deed_1 rfl (pW hx0).1 ?_
  refine ev_getf (j := 3) (t := 2) (x := (x0 + 4)) dX8_deed_2 cf_X8 wf_X8_22 (sW hx0) (pW hx0).1 (pW hx0).2 rfl (by decide) (rW3 _ hx0) ?_
  refine ev_iload_n dX8_deed_5 rfl ?_
  refine ev_iald dX8_deed_6 (sW3 hx0) (pW3 hx0).1 (pW3 hx0).2 h (fun h => ?_)
  refine ev_icmp_ge (tgt := 16) dX8_deed_7 rfl h (fun cb h => ?_) (fun cb h => ?_)
  · refine ev_iconst dX8_deed_16 (by decide) ?_
    refine ev_istore_n dX8_deed_17 rfl (by decide) ?_
    show Ev _ _ _ _ 18 _ _ _ [(2, x0), (0, x1), (0, x2), (0, (0 : Int)), (9, 0)] _
    exact ev_sub (L2 := [(2, x0), (0, x1), (0, x2), (0, (0 : Int)), (9, 0)]) (e_X8_deed_18 σ x0 x1 x2 (0 : Int) hx0 h) ⟨.inr rfl, .inr rfl, .inr rfl, .inr rfl, .inl rfl, trivial⟩
  refine ev_aload_n dX8_deed_10 rfl (pW hx0).1 ?_
  refine ev_iload_n dX8_deed_11 rfl ?_
  obtain ⟨v1, hc2, h⟩ := bind_of h
  refine ev_invV_v (k := x0) (av := [(0, x1)]) (st := []) (v := (0, v1)) (τ := σ) dX8_deed_12 ml_X8_72 mv_X8_cameTo (T := TX8) (ci := 7) rfl (sW hx0) (pW hx0).1 (pW hx0).2 rfl ⟨Nat.le_of_ble_eq_true rfl, Nat.le_of_ble_eq_true rfl⟩ (Nat.le_of_ble_eq_true rfl) (c_X8_cameTo hx0 hc2) ?_
  obtain rfl := Option.some.inj h
  exact ev_iret dX8_deed_15 rfl rfl
def K_X8_measured_20 (σ : Mem) (x0 x1 x2 x3 : Int) (r : Option V × Mem × Mem) : (Int × Int) ⊕ ((Int)) → Prop := Sum.elim (fun a => Ev M_X8_measured 218 218 r 20 218 rho σ [(2, x0), (2, x1), (0, x2), (0, x3), (0, a.1), (0, a.2), (9, 0)] []) (fun e => Ev M_X8_measured 218 218 r 80 218 rho σ [(9, 0), (9, 0), (9, 0), (9, 0), (0, e), (9, 0), (9, 0)] [])
set_option maxHeartbeats 4000000 in
set_option maxRecDepth 20000 in
theorem b_X8_measured_20 (σ : Mem) (x0 x1 x2 x3 : Int) (hx0 : isW x0) (hx1 : isB x1) {r : Option V × Mem × Mem} : ∀ a x, f_X8_measured_20B σ x0 x1 x2 x3 a = some x → K_X8_measured_20 σ x0 x1 x2 x3 r x → K_X8_measured_20 σ x0 x1 x2 x3 r (.inl a) := by
  intro a x h K
  obtain ⟨x4, x5⟩ := a
  have h : f_X8_measured_20C σ x0 x1 x2 x3 x4 x5 = some x := h
  unfold f_X8_measured_20C at h
  show Ev M_X8_measured 218 218 r 20 218 rho σ [(2, x0), (2, x1), (0, x2), (0, x3), (0, x4), (0, x5), (9, 0)] []
  refine ev_iload dX8_measured_20 rfl ?_
  refine ev_aload_n dX8_measured_22 rfl (pW hx0).1 ?_
  refine ev_getf (j := 4) (t := 2) (x := (x0 + 5)) dX8_measured_23 cf_X8 wf_X8_25 (sW hx0) (pW hx0).1 (pW hx0).2 rfl (by decide) (rW4 _ hx0) ?_
  refine ev_iload_n dX8_measured_26 rfl ?_
  refine ev_iald dX8_measured_27 (sW4 hx0) (pW4 hx0).1 (pW4 hx0).2 h (fun h => ?_)
  refine ev_icmp_ge (tgt := 80) dX8_measured_28 rfl h (fun cb h => ?_) (fun cb h => ?_)
  · obtain rfl := Option.some.inj h
    exact ev_sub (L2 := [(9, 0), (9, 0), (9, 0), (9, 0), (0, x4), (9, 0), (9, 0)]) K ⟨.inl rfl, .inl rfl, .inl rfl, .inl rfl, .inr rfl, .inl rfl, .inl rfl, trivial⟩
  refine ev_iload_n dX8_measured_31 rfl ?_
  refine ev_iconst dX8_measured_32 (by decide) ?_
  refine ev_imul dX8_measured_33 ?_
  refine ev_iload dX8_measured_34 rfl ?_
  refine ev_iadd dX8_measured_36 ?_
  refine ev_istoreG dX8_measured_37 h rfl (by decide) (fun v3 h => ?_)
  show Ev _ _ _ _ 39 _ _ _ [(2, x0), (2, x1), (0, x2), (0, x3), (0, x4), (0, x5), (0, v3)] _
  refine ev_iload_n dX8_measured_39 rfl ?_
  refine ev_iload dX8_measured_40 rfl ?_
  refine ev_aload_n dX8_measured_42 rfl (pW hx0).1 ?_
  refine ev_getf (j := 7) (t := 2) (x := (x0 + 8)) dX8_measured_43 cf_X8 wf_X8_35 (sW hx0) (pW hx0).1 (pW hx0).2 rfl (by decide) (rW7 _ hx0) ?_
  refine ev_iload dX8_measured_46 rfl ?_
  show Ev _ _ _ _ 48 _ _ _ _ _
  refine ev_iald dX8_measured_48 (sW7 hx0) (pW7 hx0).1 (pW7 hx0).2 h (fun h => ?_)
  refine ev_aload_n dX8_measured_49 rfl (pB hx1).1 ?_
  refine ev_getf (j := 1) (t := 2) (x := (x1 + 2)) dX8_measured_50 cf_X0 wf_X8_79 (sB hx1) (pB hx1).1 (pB hx1).2 rfl (by decide) (rB1 _ hx1) ?_
  refine ev_aload_n dX8_measured_53 rfl (pW hx0).1 ?_
  refine ev_getf (j := 6) (t := 2) (x := (x0 + 7)) dX8_measured_54 cf_X8 wf_X8_32 (sW hx0) (pW hx0).1 (pW hx0).2 rfl (by decide) (rW6 _ hx0) ?_
  refine ev_iload dX8_measured_57 rfl ?_
  refine ev_iald dX8_measured_59 (sW6 hx0) (pW6 hx0).1 (pW6 hx0).2 h (fun h => ?_)
  refine ev_iald dX8_measured_60 (sB1 hx1) (pB1 hx1).1 (pB1 hx1).2 h (fun h => ?_)
  refine ev_isub dX8_measured_61 ?_
  refine ev_aload_n dX8_measured_62 rfl (pW hx0).1 ?_
  refine ev_getf (j := 8) (t := 2) (x := (x0 + 9)) dX8_measured_63 cf_X8 wf_X8_38 (sW hx0) (pW hx0).1 (pW hx0).2 rfl (by decide) (rW8 _ hx0) ?_
  refine ev_iload dX8_measured_66 rfl ?_
  show Ev _ _ _ _ 68 _ _ _ _ _
  refine ev_iald dX8_measured_68 (sW8 hx0) (pW8 hx0).1 (pW8 hx0).2 h (fun h => ?_)
  obtain ⟨v4, hc5, h⟩ := bind_of h
  refine ev_invS_v (av := [(0, x3), (0, x4), (0, (jsub (σ (x0 + 8) v3) (σ (x1 + 2) (σ (x0 + 7) v3)))), (0, (σ (x0 + 9) v3))]) (st := []) (v := (0, v4)) (τ := σ) dX8_measured_69 ml_X8_84 mt_X3_join rfl ⟨Nat.le_of_ble_eq_true rfl, Nat.le_of_ble_eq_true rfl⟩ (Nat.le_of_ble_eq_true rfl) (c_X3_join hc5) ?_
  refine ev_istore dX8_measured_72 rfl (by decide) ?_
  show Ev _ _ _ _ 74 _ _ _ [(2, x0), (2, x1), (0, x2), (0, x3), (0, v4), (0, x5), (0, v3)] _
  refine ev_iincG dX8_measured_74 rfl h rfl (fun v6 h => ?_)
  show Ev _ _ _ _ 77 _ _ _ [(2, x0), (2, x1), (0, x2), (0, x3), (0, v4), (0, v6), (0, v3)] _
  refine ev_goto (tgt := 20) dX8_measured_77 rfl ?_
  obtain rfl := Option.some.inj h
  exact ev_sub (L2 := [(2, x0), (2, x1), (0, x2), (0, x3), (0, v4), (0, v6), (9, 0)]) K ⟨.inr rfl, .inr rfl, .inr rfl, .inr rfl, .inr rfl, .inr rfl, .inl rfl, trivial⟩
set_option maxHeartbeats 4000000 in
set_option maxRecDepth 20000 in
theorem e_X8_measured_20 (σ : Mem) (x0 x1 x2 x3 x4 x5 : Int) (hx0 : isW x0) (hx1 : isB x1) {q : Int} (h : f_X8_measured_20 σ x0 x1 x2 x3 x4 x5 = some q) : Ev M_X8_measured 218 218 (some (0, q), rho, σ) 20 218 rho σ [(2, x0), (2, x1), (0, x2), (0, x3), (0, x4), (0, x5), (9, 0)] [] := by
  unfold f_X8_measured_20 at h
  obtain ⟨e, hl, h⟩ := bind_of h
  refine loop_ev (K := K_X8_measured_20 σ x0 x1 x2 x3 (some (0, q), rho, σ)) (b_X8_measured_20 σ x0 x1 x2 x3 hx0 hx1) FU (x4, x5) e hl ?_
  show Ev M_X8_measured 218 218 _ 80 218 rho σ [(9, 0), (9, 0), (9, 0), (9, 0), (0, e), (9, 0), (9, 0)] []
  replace h : some e = some q := h
  refine ev_iload dX8_measured_80 rfl ?_
  obtain rfl := Option.some.inj h
  exact ev_iret dX8_measured_82 rfl rfl
set_option maxHeartbeats 4000000 in
set_option maxRecDepth 20000 in
theorem c_X8_measured {σ : Mem} {x0 x1 x2 x3 : Int} (hx0 : isW x0) (hx1 : isB x1) {q : Int} (h : f_X8_measured σ x0 x1 x2 x3 = some q) : Ms yX8_measured M_X8_measured 218 218 [(2, x0), (2, x1), (0, x2), (0, x3)] rho σ (some (0, q), rho, σ) := by
  refine Ms.of 3 (by decide +kernel) rfl (fun z => absurd z (by decide)) (fun _ _ _ => trivial) rfl rfl ?_
  unfold f_X8_measured at h
  show Ev M_X8_measured 218 218 _ 0 218 rho σ [(2, x0), (2, x1), (0, x2), (0, x3), (9, 0), (9, 0), (9, 0)] []
  refine ev_iload_n dX8_measured_0 rfl ?_
  refine ev_if_ne (tgt := 14) dX8_measured_1 rfl h (fun cb h => ?_) (fun cb h => ?_)
  · refine ev_iconst dX8_measured_14 (by decide) ?_
    refine ev_istore dX8_measured_15 rfl (by decide) ?_
    show Ev _ _ _ _ 17 _ _ _ [(2, x0), (2, x1), (0, x2), (0, x3), (0, (0 : Int)), (9, 0), (9, 0)] _
    refine ev_iconst dX8_measured_17 (by decide) ?_
    refine ev_istore dX8_measured_18 rfl (by decide) ?_
    show Ev _ _ _ _ 20 _ _ _ [(2, x0), (2, x1), (0, x2), (0, x3), (0, (0 : Int)), (0, (0 : Int)), (9, 0)] _
    exact ev_sub (L2 := [(2, x0), (2, x1), (0, x2), (0, x3), (0, (0 : Int)), (0, (0 : Int)), (9, 0)]) (e_X8_measured_20 σ x0 x1 x2 x3 (0 : Int) (0 : Int) hx0 hx1 h) ⟨.inr rfl, .inr rfl, .inr rfl, .inr rfl, .inr rfl, .inr rfl, .inl rfl, trivial⟩
  refine ev_aload_n dX8_measured_4 rfl (pW hx0).1 ?_
  refine ev_getf (j := 5) (t := 2) (x := (x0 + 6)) dX8_measured_5 cf_X8 wf_X8_28 (sW hx0) (pW hx0).1 (pW hx0).2 rfl (by decide) (rW5 _ hx0) ?_
  refine ev_iload_n dX8_measured_8 rfl ?_
  refine ev_lald dX8_measured_9 (sW5 hx0) (pW5 hx0).1 (pW5 hx0).2 h (fun h => ?_)
  obtain ⟨v1, hc2, h⟩ := bind_of h
  refine ev_invS_v (av := [(1, (σ (x0 + 6) x2))]) (st := []) (v := (0, v1)) (τ := σ) dX8_measured_10 ml_X8_66 mt_J13_bitCount_95d88 rfl ⟨Nat.le_of_ble_eq_true rfl, Nat.le_of_ble_eq_true rfl⟩ (Nat.le_of_ble_eq_true rfl) (c_J13_bitCount_95d88 hc2) ?_
  obtain rfl := Option.some.inj h
  exact ev_iret dX8_measured_13 rfl rfl
def K_X8_beginsLate_22 (σ : Mem) (x0 x1 x2 x3 : Int) (r : Option V × Mem × Mem) : (Int) ⊕ ((Int) ⊕ (Unit)) → Prop := Sum.elim (fun a => Ev M_X8_beginsLate 218 218 r 22 218 rho σ [(2, x0), (2, x1), (0, x2), (0, x3), (0, a), (9, 0)] []) (Sum.elim (fun e => Ev M_X8_beginsLate 218 218 r 52 218 rho σ [(2, x0), (2, x1), (0, x2), (9, 0), (9, 0), (0, e)] []) (fun e => Ev M_X8_beginsLate 218 218 r 80 218 rho σ [(9, 0), (9, 0), (9, 0), (9, 0), (9, 0), (9, 0)] []))
set_option maxHeartbeats 4000000 in
set_option maxRecDepth 20000 in
theorem e_X8_beginsLate_52 (σ : Mem) (x0 x1 x2 x5 : Int) (hx0 : isW x0) (hx1 : isB x1) {q : Int} (h : f_X8_beginsLate_52 σ x0 x1 x2 x5 = some q) : Ev M_X8_beginsLate 218 218 (some (0, q), rho, σ) 52 218 rho σ [(2, x0), (2, x1), (0, x2), (9, 0), (9, 0), (0, x5)] [] := by
  unfold f_X8_beginsLate_52 at h
  refine ev_aload_n dX8_beginsLate_52 rfl (pW hx0).1 ?_
  refine ev_getf (j := 7) (t := 2) (x := (x0 + 8)) dX8_beginsLate_53 cf_X8 wf_X8_35 (sW hx0) (pW hx0).1 (pW hx0).2 rfl (by decide) (rW7 _ hx0) ?_
  refine ev_iload dX8_beginsLate_56 rfl ?_
  refine ev_iald dX8_beginsLate_58 (sW7 hx0) (pW7 hx0).1 (pW7 hx0).2 h (fun h => ?_)
  refine ev_aload_n dX8_beginsLate_59 rfl (pB hx1).1 ?_
  refine ev_getf (j := 1) (t := 2) (x := (x1 + 2)) dX8_beginsLate_60 cf_X0 wf_X8_79 (sB hx1) (pB hx1).1 (pB hx1).2 rfl (by decide) (rB1 _ hx1) ?_
  refine ev_iload_n dX8_beginsLate_63 rfl ?_
  refine ev_iald dX8_beginsLate_64 (sB1 hx1) (pB1 hx1).1 (pB1 hx1).2 h (fun h => ?_)
  refine ev_icmp_eq (tgt := 72) dX8_beginsLate_65 rfl h (fun cb h => ?_) (fun cb h => ?_)
  · refine ev_iconst dX8_beginsLate_72 (by decide) ?_
    obtain rfl := Option.some.inj h
    exact ev_zret dX8_beginsLate_73 rfl (chk_pos (.inl rfl))
  refine ev_iconst dX8_beginsLate_68 (by decide) ?_
  refine ev_goto (tgt := 73) dX8_beginsLate_69 rfl ?_
  obtain rfl := Option.some.inj h
  exact ev_zret dX8_beginsLate_73 rfl (chk_pos (.inr rfl))
set_option maxHeartbeats 4000000 in
set_option maxRecDepth 20000 in
theorem b_X8_beginsLate_22 (σ : Mem) (x0 x1 x2 x3 : Int) (hx0 : isW x0) (hx1 : isB x1) {r : Option V × Mem × Mem} : ∀ a x, f_X8_beginsLate_22B σ x0 x1 x2 x3 a = some x → K_X8_beginsLate_22 σ x0 x1 x2 x3 r x → K_X8_beginsLate_22 σ x0 x1 x2 x3 r (.inl a) := by
  intro a x h K
  have ⟨x4, ea⟩ : ∃ z, z = a := ⟨_, rfl⟩
  subst ea
  have h : f_X8_beginsLate_22C σ x0 x1 x2 x3 x4 = some x := h
  unfold f_X8_beginsLate_22C at h
  show Ev M_X8_beginsLate 218 218 r 22 218 rho σ [(2, x0), (2, x1), (0, x2), (0, x3), (0, x4), (9, 0)] []
  refine ev_iload dX8_beginsLate_22 rfl ?_
  refine ev_aload_n dX8_beginsLate_24 rfl (pW hx0).1 ?_
  refine ev_getf (j := 4) (t := 2) (x := (x0 + 5)) dX8_beginsLate_25 cf_X8 wf_X8_25 (sW hx0) (pW hx0).1 (pW hx0).2 rfl (by decide) (rW4 _ hx0) ?_
  refine ev_iload_n dX8_beginsLate_28 rfl ?_
  refine ev_iald dX8_beginsLate_29 (sW4 hx0) (pW4 hx0).1 (pW4 hx0).2 h (fun h => ?_)
  refine ev_icmp_ge (tgt := 80) dX8_beginsLate_30 rfl h (fun cb h => ?_) (fun cb h => ?_)
  · obtain rfl := Option.some.inj h
    exact ev_sub (L2 := [(9, 0), (9, 0), (9, 0), (9, 0), (9, 0), (9, 0)]) K ⟨.inl rfl, .inl rfl, .inl rfl, .inl rfl, .inl rfl, .inl rfl, trivial⟩
  refine ev_iload_n dX8_beginsLate_33 rfl ?_
  refine ev_iconst dX8_beginsLate_34 (by decide) ?_
  refine ev_imul dX8_beginsLate_35 ?_
  refine ev_iload dX8_beginsLate_36 rfl ?_
  refine ev_iadd dX8_beginsLate_38 ?_
  refine ev_istoreG dX8_beginsLate_39 h rfl (by decide) (fun v2 h => ?_)
  show Ev _ _ _ _ 41 _ _ _ [(2, x0), (2, x1), (0, x2), (0, x3), (0, x4), (0, v2)] _
  refine ev_aload_n dX8_beginsLate_41 rfl (pW hx0).1 ?_
  refine ev_getf (j := 6) (t := 2) (x := (x0 + 7)) dX8_beginsLate_42 cf_X8 wf_X8_32 (sW hx0) (pW hx0).1 (pW hx0).2 rfl (by decide) (rW6 _ hx0) ?_
  refine ev_iload dX8_beginsLate_45 rfl ?_
  refine ev_iald dX8_beginsLate_47 (sW6 hx0) (pW6 hx0).1 (pW6 hx0).2 h (fun h => ?_)
  refine ev_iload_n dX8_beginsLate_48 rfl ?_
  show Ev _ _ _ _ 49 _ _ _ _ _
  refine ev_icmp_ne (tgt := 74) dX8_beginsLate_49 rfl h (fun cb h => ?_) (fun cb h => ?_)
  · refine ev_iincG dX8_beginsLate_74 rfl h rfl (fun v3 h => ?_)
    show Ev _ _ _ _ 77 _ _ _ [(2, x0), (2, x1), (0, x2), (0, x3), (0, v3), (0, v2)] _
    refine ev_goto (tgt := 22) dX8_beginsLate_77 rfl ?_
    obtain rfl := Option.some.inj h
    exact ev_sub (L2 := [(2, x0), (2, x1), (0, x2), (0, x3), (0, v3), (9, 0)]) K ⟨.inr rfl, .inr rfl, .inr rfl, .inr rfl, .inr rfl, .inl rfl, trivial⟩
  obtain rfl := Option.some.inj h
  exact ev_sub (L2 := [(2, x0), (2, x1), (0, x2), (9, 0), (9, 0), (0, v2)]) K ⟨.inr rfl, .inr rfl, .inr rfl, .inl rfl, .inl rfl, .inr rfl, trivial⟩
set_option maxHeartbeats 4000000 in
set_option maxRecDepth 20000 in
theorem e_X8_beginsLate_22 (σ : Mem) (x0 x1 x2 x3 x4 : Int) (hx0 : isW x0) (hx1 : isB x1) {q : Int} (h : f_X8_beginsLate_22 σ x0 x1 x2 x3 x4 = some q) : Ev M_X8_beginsLate 218 218 (some (0, q), rho, σ) 22 218 rho σ [(2, x0), (2, x1), (0, x2), (0, x3), (0, x4), (9, 0)] [] := by
  unfold f_X8_beginsLate_22 at h
  obtain ⟨e, hl, h⟩ := bind_of h
  refine loop_ev (K := K_X8_beginsLate_22 σ x0 x1 x2 x3 (some (0, q), rho, σ)) (b_X8_beginsLate_22 σ x0 x1 x2 x3 hx0 hx1) FU x4 e hl ?_
  rcases e with e | e
  · show Ev M_X8_beginsLate 218 218 _ 52 218 rho σ [(2, x0), (2, x1), (0, x2), (9, 0), (9, 0), (0, e)] []
    replace h : f_X8_beginsLate_52 σ x0 x1 x2 e = some q := h
    exact ev_sub (L2 := [(2, x0), (2, x1), (0, x2), (9, 0), (9, 0), (0, e)]) (e_X8_beginsLate_52 σ x0 x1 x2 e hx0 hx1 h) ⟨.inr rfl, .inr rfl, .inr rfl, .inl rfl, .inl rfl, .inr rfl, trivial⟩
  · show Ev M_X8_beginsLate 218 218 _ 80 218 rho σ [(9, 0), (9, 0), (9, 0), (9, 0), (9, 0), (9, 0)] []
    replace h : some (0 : Int) = some q := h
    refine ev_iconst dX8_beginsLate_80 (by decide) ?_
    obtain rfl := Option.some.inj h
    exact ev_zret dX8_beginsLate_81 rfl (chk_pos (.inl rfl))
set_option maxHeartbeats 4000000 in
set_option maxRecDepth 20000 in
theorem c_X8_beginsLate {σ : Mem} {x0 x1 x2 : Int} (hx0 : isW x0) (hx1 : isB x1) {q : Int} (h : f_X8_beginsLate σ x0 x1 x2 = some q) : Ms yX8_beginsLate M_X8_beginsLate 218 218 [(2, x0), (2, x1), (0, x2)] rho σ (some (0, q), rho, σ) := by
  refine Ms.of 3 (by decide +kernel) rfl (fun z => absurd z (by decide)) (fun _ _ _ => trivial) rfl rfl ?_
  unfold f_X8_beginsLate at h
  show Ev M_X8_beginsLate 218 218 _ 0 218 rho σ [(2, x0), (2, x1), (0, x2), (9, 0), (9, 0), (9, 0)] []
  refine ev_aload_n dX8_beginsLate_0 rfl (pB hx1).1 ?_
  refine ev_getf (j := 0) (t := 2) (x := (x1 + 1)) dX8_beginsLate_1 cf_X0 wf_X8_88 (sB hx1) (pB hx1).1 (pB hx1).2 rfl (by decide) (rB0 _ hx1) ?_
  refine ev_iload_n dX8_beginsLate_4 rfl ?_
  refine ev_iald dX8_beginsLate_5 (sB0 hx1) (pB0 hx1).1 (pB0 hx1).2 h (fun h => ?_)
  refine ev_istore_nG dX8_beginsLate_6 h rfl (by decide) (fun v1 h => ?_)
  show Ev _ _ _ _ 7 _ _ _ [(2, x0), (2, x1), (0, x2), (0, v1), (9, 0), (9, 0)] _
  refine ev_aload_n dX8_beginsLate_7 rfl (pW hx0).1 ?_
  refine ev_getf (j := 1) (t := 2) (x := (x0 + 2)) dX8_beginsLate_8 cf_X8 wf_X8_15 (sW hx0) (pW hx0).1 (pW hx0).2 rfl (by decide) (rW1 _ hx0) ?_
  refine ev_iload_n dX8_beginsLate_11 rfl ?_
  refine ev_iald dX8_beginsLate_12 (sW1 hx0) (pW1 hx0).1 (pW1 hx0).2 h (fun h => ?_)
  refine ev_iload_n dX8_beginsLate_13 rfl ?_
  refine ev_icmp_ne (tgt := 19) dX8_beginsLate_14 rfl h (fun cb h => ?_) (fun cb h => ?_)
  · refine ev_iconst dX8_beginsLate_19 (by decide) ?_
    refine ev_istore dX8_beginsLate_20 rfl (by decide) ?_
    show Ev _ _ _ _ 22 _ _ _ [(2, x0), (2, x1), (0, x2), (0, v1), (0, (0 : Int)), (9, 0)] _
    exact ev_sub (L2 := [(2, x0), (2, x1), (0, x2), (0, v1), (0, (0 : Int)), (9, 0)]) (e_X8_beginsLate_22 σ x0 x1 x2 v1 (0 : Int) hx0 hx1 h) ⟨.inr rfl, .inr rfl, .inr rfl, .inr rfl, .inr rfl, .inl rfl, trivial⟩
  refine ev_iconst dX8_beginsLate_17 (by decide) ?_
  obtain rfl := Option.some.inj h
  exact ev_zret dX8_beginsLate_18 rfl (chk_pos (.inr rfl))
set_option maxHeartbeats 4000000 in
set_option maxRecDepth 20000 in
theorem c_X9_forgetOthers {σ : Mem}  {q : Mem} (h : f_X9_forgetOthers σ  = some q) : Ms yX9_forgetOthers M_X9_forgetOthers 218 218 [(2, (43 : Int))] rho σ (none, rho, q) := by
  refine Ms.of 0 (by decide +kernel) rfl (fun z => absurd z (by decide)) (fun _ _ _ => trivial) rfl rfl ?_
  unfold f_X9_forgetOthers at h
  show Ev M_X9_forgetOthers 218 218 _ 0 218 rho σ [(2, (43 : Int))] []
  refine ev_aload_n dX9_forgetOthers_0 rfl (by decide) ?_
  refine ev_dup dX9_forgetOthers_1 (show (2 : Nat) ≠ 1 by decide) ?_
  refine ev_getf (j := 3) (t := 0) (x := (σ (43 : Int) 3)) dX9_forgetOthers_2 cf_X9 wf_X9_28 sp43 (by decide) (by decide) rfl (by decide) rfl ?_
  refine ev_iconst dX9_forgetOthers_5 (by decide) ?_
  refine ev_iadd dX9_forgetOthers_6 ?_
  refine ev_putfG (j := 3) (t := 0) dX9_forgetOthers_7 cf_X9 wf_X9_28 sp43 (by decide) (by decide) rfl (by decide) (by decide) rfl (fun z => absurd z (by decide +kernel)) h (fun σ1 h => ?_)
  obtain rfl := Option.some.inj h
  exact ev_vret dX9_forgetOthers_10 rfl rfl
set_option maxHeartbeats 4000000 in
set_option maxRecDepth 20000 in
theorem c_X9_forget {σ : Mem} {x1 : Int}  {q : Mem} (h : f_X9_forget σ x1 = some q) : Ms yX9_forget M_X9_forget 218 218 [(2, (43 : Int)), (0, x1)] rho σ (none, rho, q) := by
  refine Ms.of 0 (by decide +kernel) rfl (fun z => absurd z (by decide)) (fun _ _ _ => trivial) rfl rfl ?_
  unfold f_X9_forget at h
  show Ev M_X9_forget 218 218 _ 0 218 rho σ [(2, (43 : Int)), (0, x1)] []
  refine ev_aload_n dX9_forget_0 rfl (by decide) ?_
  refine ev_getf (j := 2) (t := 2) (x := (53 : Int)) dX9_forget_1 cf_X9 wf_X9_24 sp43 (by decide) (by decide) rfl (by decide) (rp43_2 _) ?_
  refine ev_iload_n dX9_forget_4 rfl ?_
  refine ev_iconst dX9_forget_5 (by decide) ?_
  refine ev_zastG dX9_forget_6 sp53 (by decide) (by decide) h (fun σ1 h => ?_)
  refine ev_aload_n dX9_forget_7 rfl (by decide) ?_
  refine ev_dup dX9_forget_8 (show (2 : Nat) ≠ 1 by decide) ?_
  refine ev_getf (j := 3) (t := 0) (x := (σ1 (43 : Int) 3)) dX9_forget_9 cf_X9 wf_X9_28 sp43 (by decide) (by decide) rfl (by decide) rfl ?_
  refine ev_iconst dX9_forget_12 (by decide) ?_
  refine ev_iadd dX9_forget_13 ?_
  refine ev_putfG (j := 3) (t := 0) dX9_forget_14 cf_X9 wf_X9_28 sp43 (by decide) (by decide) rfl (by decide) (by decide) rfl (fun z => absurd z (by decide +kernel)) h (fun σ2 h => ?_)
  show Ev _ _ _ _ 17 _ _ _ _ _
  obtain rfl := Option.some.inj h
  exact ev_vret dX9_forget_17 rfl rfl
def K_X9_forgetAll_2 (r : Option V × Mem × Mem) : (Int × Mem) ⊕ ((Mem)) → Prop := Sum.elim (fun a => Ev M_X9_forgetAll 218 218 r 2 218 rho a.2 [(2, (43 : Int)), (0, a.1)] []) (fun e => Ev M_X9_forgetAll 218 218 r 21 218 rho e [(2, (43 : Int)), (9, 0)] [])
set_option maxHeartbeats 4000000 in
set_option maxRecDepth 20000 in
theorem e_X9_forgetAll_21 (σ : Mem)  {q : Mem} (h : f_X9_forgetAll_21 σ  = some q) : Ev M_X9_forgetAll 218 218 (none, rho, q) 21 218 rho σ [(2, (43 : Int)), (9, 0)] [] := by
  unfold f_X9_forgetAll_21 at h
  refine ev_aload_n dX9_forgetAll_21 rfl (by decide) ?_
  refine ev_dup dX9_forgetAll_22 (show (2 : Nat) ≠ 1 by decide) ?_
  refine ev_getf (j := 3) (t := 0) (x := (σ (43 : Int) 3)) dX9_forgetAll_23 cf_X9 wf_X9_28 sp43 (by decide) (by decide) rfl (by decide) rfl ?_
  refine ev_iconst dX9_forgetAll_26 (by decide) ?_
  refine ev_iadd dX9_forgetAll_27 ?_
  refine ev_putfG (j := 3) (t := 0) dX9_forgetAll_28 cf_X9 wf_X9_28 sp43 (by decide) (by decide) rfl (by decide) (by decide) rfl (fun z => absurd z (by decide +kernel)) h (fun σ3 h => ?_)
  obtain rfl := Option.some.inj h
  exact ev_vret dX9_forgetAll_31 rfl rfl
set_option maxHeartbeats 4000000 in
set_option maxRecDepth 20000 in
theorem b_X9_forgetAll_2  {r : Option V × Mem × Mem} : ∀ a x, f_X9_forgetAll_2B  a = some x → K_X9_forgetAll_2  r x → K_X9_forgetAll_2  r (.inl a) := by
  intro a x h K
  obtain ⟨x1, σ⟩ := a
  have h : f_X9_forgetAll_2C  x1 σ = some x := h
  unfold f_X9_forgetAll_2C at h
  show Ev M_X9_forgetAll 218 218 r 2 218 rho σ [(2, (43 : Int)), (0, x1)] []
  refine ev_iload_n dX9_forgetAll_2 rfl ?_
  refine ev_bipush dX9_forgetAll_3 (by decide) (by decide) ?_
  refine ev_icmp_ge (tgt := 21) dX9_forgetAll_5 rfl h (fun cb h => ?_) (fun cb h => ?_)
  · obtain rfl := Option.some.inj h
    exact ev_sub (L2 := [(2, (43 : Int)), (9, 0)]) K ⟨.inr rfl, .inl rfl, trivial⟩
  refine ev_aload_n dX9_forgetAll_8 rfl (by decide) ?_
  refine ev_getf (j := 2) (t := 2) (x := (53 : Int)) dX9_forgetAll_9 cf_X9 wf_X9_24 sp43 (by decide) (by decide) rfl (by decide) (rp43_2 _) ?_
  refine ev_iload_n dX9_forgetAll_12 rfl ?_
  refine ev_iconst dX9_forgetAll_13 (by decide) ?_
  refine ev_zastG dX9_forgetAll_14 sp53 (by decide) (by decide) h (fun σ1 h => ?_)
  refine ev_iincG dX9_forgetAll_15 rfl h rfl (fun v2 h => ?_)
  show Ev _ _ _ _ 18 _ _ _ [(2, (43 : Int)), (0, v2)] _
  refine ev_goto (tgt := 2) dX9_forgetAll_18 rfl ?_
  obtain rfl := Option.some.inj h
  exact ev_sub (L2 := [(2, (43 : Int)), (0, v2)]) K ⟨.inr rfl, .inr rfl, trivial⟩
set_option maxHeartbeats 4000000 in
set_option maxRecDepth 20000 in
theorem e_X9_forgetAll_2 (σ : Mem) (x1 : Int)  {q : Mem} (h : f_X9_forgetAll_2 σ x1 = some q) : Ev M_X9_forgetAll 218 218 (none, rho, q) 2 218 rho σ [(2, (43 : Int)), (0, x1)] [] := by
  unfold f_X9_forgetAll_2 at h
  obtain ⟨e, hl, h⟩ := bind_of h
  refine loop_ev (K := K_X9_forgetAll_2  (none, rho, q)) (b_X9_forgetAll_2 ) FU (x1, σ) e hl ?_
  show Ev M_X9_forgetAll 218 218 _ 21 218 rho e [(2, (43 : Int)), (9, 0)] []
  replace h : f_X9_forgetAll_21 e = some q := h
  exact ev_sub (L2 := [(2, (43 : Int)), (9, 0)]) (e_X9_forgetAll_21 e h) ⟨.inr rfl, .inl rfl, trivial⟩
set_option maxHeartbeats 4000000 in
set_option maxRecDepth 20000 in
theorem c_X9_forgetAll {σ : Mem}  {q : Mem} (h : f_X9_forgetAll σ  = some q) : Ms yX9_forgetAll M_X9_forgetAll 218 218 [(2, (43 : Int))] rho σ (none, rho, q) := by
  refine Ms.of 1 (by decide +kernel) rfl (fun z => absurd z (by decide)) (fun _ _ _ => trivial) rfl rfl ?_
  unfold f_X9_forgetAll at h
  show Ev M_X9_forgetAll 218 218 _ 0 218 rho σ [(2, (43 : Int)), (9, 0)] []
  refine ev_iconst dX9_forgetAll_0 (by decide) ?_
  refine ev_istore_n dX9_forgetAll_1 rfl (by decide) ?_
  show Ev _ _ _ _ 2 _ _ _ [(2, (43 : Int)), (0, (0 : Int))] _
  exact ev_sub (L2 := [(2, (43 : Int)), (0, (0 : Int))]) (e_X9_forgetAll_2 σ (0 : Int) h) ⟨.inr rfl, .inr rfl, trivial⟩
set_option maxHeartbeats 4000000 in
set_option maxRecDepth 20000 in
theorem c_X10_refuse {σ : Mem} {x1 : Int}  {q : (Int × Mem)} (h : f_X10_refuse σ x1 = some q) : Ms yX10_refuse M_X10_refuse 218 218 [(2, (0 : Int)), (0, x1)] rho σ (some (0, q.1), rho, q.2) := by
  refine Ms.of 1 (by decide +kernel) rfl (fun z => absurd z (by decide)) (fun _ _ _ => trivial) rfl rfl ?_
  unfold f_X10_refuse at h
  show Ev M_X10_refuse 218 218 _ 0 218 rho σ [(2, (0 : Int)), (0, x1), (9, 0)] []
  refine ev_bipush dX10_refuse_0 (by decide) (by decide) ?_
  refine ev_iload_n dX10_refuse_2 rfl ?_
  refine ev_isub dX10_refuse_3 ?_
  refine ev_istore_nG dX10_refuse_4 h rfl (by decide) (fun v1 h => ?_)
  show Ev _ _ _ _ 5 _ _ _ [(2, (0 : Int)), (0, x1), (0, v1)] _
  refine ev_iload_n dX10_refuse_5 rfl ?_
  refine ev_if_lt (tgt := 24) dX10_refuse_6 rfl h (fun cb h => ?_) (fun cb h => ?_)
  · refine ev_iload_n dX10_refuse_24 rfl ?_
    obtain rfl := Option.some.inj h
    dsimp only
    exact ev_iret dX10_refuse_25 rfl rfl
  refine ev_iload_n dX10_refuse_9 rfl ?_
  refine ev_iconst dX10_refuse_10 (by decide) ?_
  refine ev_icmp_ge (tgt := 24) dX10_refuse_11 rfl h (fun cb h => ?_) (fun cb h => ?_)
  · refine ev_iload_n dX10_refuse_24 rfl ?_
    obtain rfl := Option.some.inj h
    dsimp only
    exact ev_iret dX10_refuse_25 rfl rfl
  refine ev_aload_n dX10_refuse_14 rfl (by decide) ?_
  refine ev_getf (j := 6) (t := 2) (x := (34 : Int)) dX10_refuse_15 cf_X10 wf_X10_36 sp0 (by decide) (by decide) rfl (by decide) (rp0_6 _) ?_
  refine ev_iload_n dX10_refuse_18 rfl ?_
  refine ev_dup2 dX10_refuse_19 (show (0 : Nat) ≠ 1 by decide) (show (2 : Nat) ≠ 1 by decide) ?_
  refine ev_iald dX10_refuse_20 sp34 (by decide) (by decide) h (fun h => ?_)
  refine ev_iconst dX10_refuse_21 (by decide) ?_
  refine ev_iadd dX10_refuse_22 ?_
  refine ev_iastG dX10_refuse_23 sp34 (by decide) (by decide) h (fun σ2 h => ?_)
  refine ev_iload_n dX10_refuse_24 rfl ?_
  obtain rfl := Option.some.inj h
  dsimp only
  exact ev_iret dX10_refuse_25 rfl rfl
set_option maxHeartbeats 4000000 in
set_option maxRecDepth 20000 in
theorem e_X10_row_24 (σ : Mem)  {q : (Int × Mem)} (h : f_X10_row_24 σ  = some q) : Ev M_X10_row 218 218 (some (0, q.1), rho, q.2) 24 218 rho σ [(2, (0 : Int)), (9, 0), (9, 0), (9, 0)] [] := by
  unfold f_X10_row_24 at h
  refine ev_aload_n dX10_row_24 rfl (by decide) ?_
  refine ev_bipush dX10_row_25 (by decide) (by decide) ?_
  obtain ⟨v7, hc8, h⟩ := bind_of h
  refine ev_invV_v (k := (0 : Int)) (av := [(0, (-52 : Int))]) (st := []) (v := (0, v7.1)) (τ := v7.2) dX10_row_27 ml_X10_88 mv_X10_refuse (T := TX10) (ci := 9) rfl sp0 (by decide) (by decide) rfl ⟨Nat.le_of_ble_eq_true rfl, Nat.le_of_ble_eq_true rfl⟩ (Nat.le_of_ble_eq_true rfl) (c_X10_refuse hc8) ?_
  obtain rfl := Option.some.inj h
  dsimp only
  exact ev_iret dX10_row_30 rfl rfl
set_option maxHeartbeats 4000000 in
set_option maxRecDepth 20000 in
theorem c_X10_row {σ : Mem} {x1 x2 x3 : Int}  {q : (Int × Mem)} (h : f_X10_row σ x1 x2 x3 = some q) : Ms yX10_row M_X10_row 218 218 [(2, (0 : Int)), (0, x1), (0, x2), (0, x3)] rho σ (some (0, q.1), rho, q.2) := by
  refine Ms.of 0 (by decide +kernel) rfl (fun z => absurd z (by decide)) (fun _ _ _ => trivial) rfl rfl ?_
  unfold f_X10_row at h
  show Ev M_X10_row 218 218 _ 0 218 rho σ [(2, (0 : Int)), (0, x1), (0, x2), (0, x3)] []
  refine ev_iload_n dX10_row_0 rfl ?_
  obtain ⟨v1, hc2, h⟩ := bind_of h
  refine ev_invS_v (av := [(0, x1)]) (st := []) (v := (0, v1)) (τ := σ) dX10_row_1 ml_X10_81 mt_X6_isShelf rfl ⟨Nat.le_of_ble_eq_true rfl, Nat.le_of_ble_eq_true rfl⟩ (Nat.le_of_ble_eq_true rfl) (c_X6_isShelf hc2) ?_
  refine ev_if_eq (tgt := 24) dX10_row_4 rfl h (fun cb h => ?_) (fun cb h => ?_)
  · exact ev_sub (L2 := [(2, (0 : Int)), (9, 0), (9, 0), (9, 0)]) (e_X10_row_24 σ h) ⟨.inr rfl, .inl rfl, .inl rfl, .inl rfl, trivial⟩
  refine ev_iload_n dX10_row_7 rfl ?_
  obtain ⟨v3, hc4, h⟩ := bind_of h
  refine ev_invS_v (av := [(0, x2)]) (st := []) (v := (0, v3)) (τ := σ) dX10_row_8 ml_X10_85 mt_X6_isSort rfl ⟨Nat.le_of_ble_eq_true rfl, Nat.le_of_ble_eq_true rfl⟩ (Nat.le_of_ble_eq_true rfl) (c_X6_isSort hc4) ?_
  refine ev_if_eq (tgt := 24) dX10_row_11 rfl h (fun cb h => ?_) (fun cb h => ?_)
  · exact ev_sub (L2 := [(2, (0 : Int)), (9, 0), (9, 0), (9, 0)]) (e_X10_row_24 σ h) ⟨.inr rfl, .inl rfl, .inl rfl, .inl rfl, trivial⟩
  refine ev_iload_n dX10_row_14 rfl ?_
  refine ev_if_lt (tgt := 24) dX10_row_15 rfl h (fun cb h => ?_) (fun cb h => ?_)
  · exact ev_sub (L2 := [(2, (0 : Int)), (9, 0), (9, 0), (9, 0)]) (e_X10_row_24 σ h) ⟨.inr rfl, .inl rfl, .inl rfl, .inl rfl, trivial⟩
  refine ev_iload_n dX10_row_18 rfl ?_
  refine ev_bipush dX10_row_19 (by decide) (by decide) ?_
  refine ev_icmp_le (tgt := 31) dX10_row_21 rfl h (fun cb h => ?_) (fun cb h => ?_)
  · refine ev_aload_n dX10_row_31 rfl (by decide) ?_
    refine ev_getf (j := 5) (t := 2) (x := (30 : Int)) dX10_row_32 cf_X10 wf_X10_32 sp0 (by decide) (by decide) rfl (by decide) (rp0_5 _) ?_
    refine ev_iload_n dX10_row_35 rfl ?_
    refine ev_iload_n dX10_row_36 rfl ?_
    refine ev_iload_n dX10_row_37 rfl ?_
    obtain ⟨σ5, hc6, h⟩ := bind_of h
    refine ev_invV_n (k := (30 : Int)) (av := [(0, x1), (0, x2), (0, x3)]) (st := []) (τ := σ5) dX10_row_38 ml_X10_92 mv_X6_putRow (T := TX6) (ci := 5) rfl sp30 (by decide) (by decide) rfl ⟨Nat.le_of_ble_eq_true rfl, Nat.le_of_ble_eq_true rfl⟩ (Nat.le_of_ble_eq_true rfl) (c_X6_putRow hc6) ?_
    refine ev_iconst dX10_row_41 (by decide) ?_
    obtain rfl := Option.some.inj h
    dsimp only
    exact ev_iret dX10_row_42 rfl rfl
  exact ev_sub (L2 := [(2, (0 : Int)), (9, 0), (9, 0), (9, 0)]) (e_X10_row_24 σ h) ⟨.inr rfl, .inl rfl, .inl rfl, .inl rfl, trivial⟩
set_option maxHeartbeats 4000000 in
set_option maxRecDepth 20000 in
theorem c_X10_set {σ : Mem} {x1 x2 x3 : Int}  {q : (Int × Mem)} (h : f_X10_set σ x1 x2 x3 = some q) : Ms yX10_set M_X10_set 218 218 [(2, (0 : Int)), (0, x1), (0, x2), (1, x3)] rho σ (some (0, q.1), rho, q.2) := by
  refine Ms.of 1 (by decide +kernel) rfl (fun z => absurd z (by decide)) (fun _ _ _ => trivial) rfl rfl ?_
  unfold f_X10_set at h
  show Ev M_X10_set 218 218 _ 0 218 rho σ [(2, (0 : Int)), (0, x1), (0, x2), (1, x3), (9, 0), (9, 0)] []
  refine ev_iload_n dX10_set_0 rfl ?_
  obtain ⟨v1, hc2, h⟩ := bind_of h
  refine ev_invS_v (av := [(0, x1)]) (st := []) (v := (0, v1)) (τ := σ) dX10_set_1 ml_X10_81 mt_X6_isShelf rfl ⟨Nat.le_of_ble_eq_true rfl, Nat.le_of_ble_eq_true rfl⟩ (Nat.le_of_ble_eq_true rfl) (c_X6_isShelf hc2) ?_
  refine ev_if_ne (tgt := 14) dX10_set_4 rfl h (fun cb h => ?_) (fun cb h => ?_)
  · refine ev_aload_n dX10_set_14 rfl (by decide) ?_
    refine ev_getf (j := 5) (t := 2) (x := (30 : Int)) dX10_set_15 cf_X10 wf_X10_32 sp0 (by decide) (by decide) rfl (by decide) (rp0_5 _) ?_
    refine ev_iload_n dX10_set_18 rfl ?_
    obtain ⟨v3, hc4, h⟩ := bind_of h
    refine ev_invV_v (k := (30 : Int)) (av := [(0, x1)]) (st := []) (v := (0, v3)) (τ := σ) dX10_set_19 ml_X10_96 mv_X6_rowTrouble (T := TX6) (ci := 5) rfl sp30 (by decide) (by decide) rfl ⟨Nat.le_of_ble_eq_true rfl, Nat.le_of_ble_eq_true rfl⟩ (Nat.le_of_ble_eq_true rfl) (c_X6_rowTrouble hc4) ?_
    refine ev_istore dX10_set_22 rfl (by decide) ?_
    show Ev _ _ _ _ 24 _ _ _ [(2, (0 : Int)), (0, x1), (0, x2), (1, x3), (9, 0), (0, v3)] _
    refine ev_iload dX10_set_24 rfl ?_
    refine ev_if_eq (tgt := 36) dX10_set_26 rfl h (fun cb h => ?_) (fun cb h => ?_)
    · refine ev_aload_n dX10_set_36 rfl (by decide) ?_
      refine ev_getf (j := 5) (t := 2) (x := (30 : Int)) dX10_set_37 cf_X10 wf_X10_32 sp0 (by decide) (by decide) rfl (by decide) (rp0_5 _) ?_
      refine ev_iload_n dX10_set_40 rfl ?_
      refine ev_iload_n dX10_set_41 rfl ?_
      obtain ⟨v5, hc6, h⟩ := bind_of h
      refine ev_invV_v (k := (30 : Int)) (av := [(0, x1), (0, x2)]) (st := []) (v := (0, v5)) (τ := σ) dX10_set_42 ml_X10_99 mv_X6_hasElement (T := TX6) (ci := 5) rfl sp30 (by decide) (by decide) rfl ⟨Nat.le_of_ble_eq_true rfl, Nat.le_of_ble_eq_true rfl⟩ (Nat.le_of_ble_eq_true rfl) (c_X6_hasElement hc6) ?_
      refine ev_if_ne (tgt := 55) dX10_set_45 rfl h (fun cb h => ?_) (fun cb h => ?_)
      · refine ev_aload_n dX10_set_55 rfl (by decide) ?_
        refine ev_getf (j := 5) (t := 2) (x := (30 : Int)) dX10_set_56 cf_X10 wf_X10_32 sp0 (by decide) (by decide) rfl (by decide) (rp0_5 _) ?_
        refine ev_iload_n dX10_set_59 rfl ?_
        refine ev_iload_n dX10_set_60 rfl ?_
        refine ev_lload_n dX10_set_61 rfl ?_
        obtain ⟨σ7, hc8, h⟩ := bind_of h
        refine ev_invV_n (k := (30 : Int)) (av := [(0, x1), (0, x2), (1, x3)]) (st := []) (τ := σ7) dX10_set_62 ml_X10_103 mv_X6_putElement (T := TX6) (ci := 5) rfl sp30 (by decide) (by decide) rfl ⟨Nat.le_of_ble_eq_true rfl, Nat.le_of_ble_eq_true rfl⟩ (Nat.le_of_ble_eq_true rfl) (c_X6_putElement hc8) ?_
        refine ev_iconst dX10_set_65 (by decide) ?_
        obtain rfl := Option.some.inj h
        dsimp only
        exact ev_iret dX10_set_66 rfl rfl
      refine ev_aload_n dX10_set_48 rfl (by decide) ?_
      refine ev_bipush dX10_set_49 (by decide) (by decide) ?_
      obtain ⟨v9, hc10, h⟩ := bind_of h
      refine ev_invV_v (k := (0 : Int)) (av := [(0, (-52 : Int))]) (st := []) (v := (0, v9.1)) (τ := v9.2) dX10_set_51 ml_X10_88 mv_X10_refuse (T := TX10) (ci := 9) rfl sp0 (by decide) (by decide) rfl ⟨Nat.le_of_ble_eq_true rfl, Nat.le_of_ble_eq_true rfl⟩ (Nat.le_of_ble_eq_true rfl) (c_X10_refuse hc10) ?_
      obtain rfl := Option.some.inj h
      dsimp only
      exact ev_iret dX10_set_54 rfl rfl
    refine ev_aload_n dX10_set_29 rfl (by decide) ?_
    refine ev_iload dX10_set_30 rfl ?_
    obtain ⟨v11, hc12, h⟩ := bind_of h
    refine ev_invV_v (k := (0 : Int)) (av := [(0, v3)]) (st := []) (v := (0, v11.1)) (τ := v11.2) dX10_set_32 ml_X10_88 mv_X10_refuse (T := TX10) (ci := 9) rfl sp0 (by decide) (by decide) rfl ⟨Nat.le_of_ble_eq_true rfl, Nat.le_of_ble_eq_true rfl⟩ (Nat.le_of_ble_eq_true rfl) (c_X10_refuse hc12) ?_
    obtain rfl := Option.some.inj h
    dsimp only
    exact ev_iret dX10_set_35 rfl rfl
  refine ev_aload_n dX10_set_7 rfl (by decide) ?_
  refine ev_bipush dX10_set_8 (by decide) (by decide) ?_
  obtain ⟨v13, hc14, h⟩ := bind_of h
  refine ev_invV_v (k := (0 : Int)) (av := [(0, (-52 : Int))]) (st := []) (v := (0, v13.1)) (τ := v13.2) dX10_set_10 ml_X10_88 mv_X10_refuse (T := TX10) (ci := 9) rfl sp0 (by decide) (by decide) rfl ⟨Nat.le_of_ble_eq_true rfl, Nat.le_of_ble_eq_true rfl⟩ (Nat.le_of_ble_eq_true rfl) (c_X10_refuse hc14) ?_
  obtain rfl := Option.some.inj h
  dsimp only
  exact ev_iret dX10_set_13 rfl rfl
set_option maxHeartbeats 4000000 in
set_option maxRecDepth 20000 in
theorem e_X10_copy_14 (σ : Mem)  {q : (Int × Mem)} (h : f_X10_copy_14 σ  = some q) : Ev M_X10_copy 218 218 (some (0, q.1), rho, q.2) 14 218 rho σ [(2, (0 : Int)), (9, 0), (9, 0), (9, 0), (9, 0), (9, 0), (9, 0), (9, 0)] [] := by
  unfold f_X10_copy_14 at h
  refine ev_aload_n dX10_copy_14 rfl (by decide) ?_
  refine ev_bipush dX10_copy_15 (by decide) (by decide) ?_
  obtain ⟨v21, hc22, h⟩ := bind_of h
  refine ev_invV_v (k := (0 : Int)) (av := [(0, (-52 : Int))]) (st := []) (v := (0, v21.1)) (τ := v21.2) dX10_copy_17 ml_X10_88 mv_X10_refuse (T := TX10) (ci := 9) rfl sp0 (by decide) (by decide) rfl ⟨Nat.le_of_ble_eq_true rfl, Nat.le_of_ble_eq_true rfl⟩ (Nat.le_of_ble_eq_true rfl) (c_X10_refuse hc22) ?_
  obtain rfl := Option.some.inj h
  dsimp only
  exact ev_iret dX10_copy_20 rfl rfl
set_option maxHeartbeats 4000000 in
set_option maxRecDepth 20000 in
theorem e_X10_copy_55 (σ : Mem)  {q : (Int × Mem)} (h : f_X10_copy_55 σ  = some q) : Ev M_X10_copy 218 218 (some (0, q.1), rho, q.2) 55 218 rho σ [(2, (0 : Int)), (9, 0), (9, 0), (9, 0), (9, 0), (9, 0), (9, 0), (9, 0)] [] := by
  unfold f_X10_copy_55 at h
  refine ev_aload_n dX10_copy_55 rfl (by decide) ?_
  refine ev_bipush dX10_copy_56 (by decide) (by decide) ?_
  obtain ⟨v23, hc24, h⟩ := bind_of h
  refine ev_invV_v (k := (0 : Int)) (av := [(0, (-53 : Int))]) (st := []) (v := (0, v23.1)) (τ := v23.2) dX10_copy_58 ml_X10_88 mv_X10_refuse (T := TX10) (ci := 9) rfl sp0 (by decide) (by decide) rfl ⟨Nat.le_of_ble_eq_true rfl, Nat.le_of_ble_eq_true rfl⟩ (Nat.le_of_ble_eq_true rfl) (c_X10_refuse hc24) ?_
  obtain rfl := Option.some.inj h
  dsimp only
  exact ev_iret dX10_copy_61 rfl rfl
set_option maxHeartbeats 4000000 in
set_option maxRecDepth 20000 in
theorem e_X10_copy_76 (σ : Mem)  {q : (Int × Mem)} (h : f_X10_copy_76 σ  = some q) : Ev M_X10_copy 218 218 (some (0, q.1), rho, q.2) 76 218 rho σ [(2, (0 : Int)), (9, 0), (9, 0), (9, 0), (9, 0), (9, 0), (9, 0), (9, 0)] [] := by
  unfold f_X10_copy_76 at h
  refine ev_aload_n dX10_copy_76 rfl (by decide) ?_
  refine ev_bipush dX10_copy_77 (by decide) (by decide) ?_
  obtain ⟨v25, hc26, h⟩ := bind_of h
  refine ev_invV_v (k := (0 : Int)) (av := [(0, (-54 : Int))]) (st := []) (v := (0, v25.1)) (τ := v25.2) dX10_copy_79 ml_X10_88 mv_X10_refuse (T := TX10) (ci := 9) rfl sp0 (by decide) (by decide) rfl ⟨Nat.le_of_ble_eq_true rfl, Nat.le_of_ble_eq_true rfl⟩ (Nat.le_of_ble_eq_true rfl) (c_X10_refuse hc26) ?_
  obtain rfl := Option.some.inj h
  dsimp only
  exact ev_iret dX10_copy_82 rfl rfl
set_option maxHeartbeats 4000000 in
set_option maxRecDepth 20000 in
theorem e_X10_copy_138 (σ : Mem)  {q : (Int × Mem)} (h : f_X10_copy_138 σ  = some q) : Ev M_X10_copy 218 218 (some (0, q.1), rho, q.2) 138 218 rho σ [(2, (0 : Int)), (9, 0), (9, 0), (9, 0), (9, 0), (9, 0), (9, 0), (9, 0)] [] := by
  unfold f_X10_copy_138 at h
  refine ev_aload_n dX10_copy_138 rfl (by decide) ?_
  refine ev_bipush dX10_copy_139 (by decide) (by decide) ?_
  obtain ⟨v27, hc28, h⟩ := bind_of h
  refine ev_invV_v (k := (0 : Int)) (av := [(0, (-52 : Int))]) (st := []) (v := (0, v27.1)) (τ := v27.2) dX10_copy_141 ml_X10_88 mv_X10_refuse (T := TX10) (ci := 9) rfl sp0 (by decide) (by decide) rfl ⟨Nat.le_of_ble_eq_true rfl, Nat.le_of_ble_eq_true rfl⟩ (Nat.le_of_ble_eq_true rfl) (c_X10_refuse hc28) ?_
  obtain rfl := Option.some.inj h
  dsimp only
  exact ev_iret dX10_copy_144 rfl rfl
set_option maxHeartbeats 4000000 in
set_option maxRecDepth 20000 in
theorem c_X10_copy {σ : Mem} {x1 x2 x3 x4 x5 : Int}  {q : (Int × Mem)} (h : f_X10_copy σ x1 x2 x3 x4 x5 = some q) : Ms yX10_copy M_X10_copy 218 218 [(2, (0 : Int)), (0, x1), (0, x2), (0, x3), (0, x4), (0, x5)] rho σ (some (0, q.1), rho, q.2) := by
  refine Ms.of 2 (by decide +kernel) rfl (fun z => absurd z (by decide)) (fun _ _ _ => trivial) rfl rfl ?_
  unfold f_X10_copy at h
  show Ev M_X10_copy 218 218 _ 0 218 rho σ [(2, (0 : Int)), (0, x1), (0, x2), (0, x3), (0, x4), (0, x5), (9, 0), (9, 0)] []
  refine ev_iload_n dX10_copy_0 rfl ?_
  obtain ⟨v1, hc2, h⟩ := bind_of h
  refine ev_invS_v (av := [(0, x1)]) (st := []) (v := (0, v1)) (τ := σ) dX10_copy_1 ml_X10_81 mt_X6_isShelf rfl ⟨Nat.le_of_ble_eq_true rfl, Nat.le_of_ble_eq_true rfl⟩ (Nat.le_of_ble_eq_true rfl) (c_X6_isShelf hc2) ?_
  refine ev_if_eq (tgt := 14) dX10_copy_4 rfl h (fun cb h => ?_) (fun cb h => ?_)
  · exact ev_sub (L2 := [(2, (0 : Int)), (9, 0), (9, 0), (9, 0), (9, 0), (9, 0), (9, 0), (9, 0)]) (e_X10_copy_14 σ h) ⟨.inr rfl, .inl rfl, .inl rfl, .inl rfl, .inl rfl, .inl rfl, .inl rfl, .inl rfl, trivial⟩
  refine ev_iload_n dX10_copy_7 rfl ?_
  obtain ⟨v3, hc4, h⟩ := bind_of h
  refine ev_invS_v (av := [(0, x2)]) (st := []) (v := (0, v3)) (τ := σ) dX10_copy_8 ml_X10_81 mt_X6_isShelf rfl ⟨Nat.le_of_ble_eq_true rfl, Nat.le_of_ble_eq_true rfl⟩ (Nat.le_of_ble_eq_true rfl) (c_X6_isShelf hc4) ?_
  refine ev_if_ne (tgt := 21) dX10_copy_11 rfl h (fun cb h => ?_) (fun cb h => ?_)
  · refine ev_aload_n dX10_copy_21 rfl (by decide) ?_
    refine ev_getf (j := 5) (t := 2) (x := (30 : Int)) dX10_copy_22 cf_X10 wf_X10_32 sp0 (by decide) (by decide) rfl (by decide) (rp0_5 _) ?_
    refine ev_iload_n dX10_copy_25 rfl ?_
    obtain ⟨v5, hc6, h⟩ := bind_of h
    refine ev_invV_v (k := (30 : Int)) (av := [(0, x1)]) (st := []) (v := (0, v5)) (τ := σ) dX10_copy_26 ml_X10_96 mv_X6_rowTrouble (T := TX6) (ci := 5) rfl sp30 (by decide) (by decide) rfl ⟨Nat.le_of_ble_eq_true rfl, Nat.le_of_ble_eq_true rfl⟩ (Nat.le_of_ble_eq_true rfl) (c_X6_rowTrouble hc6) ?_
    refine ev_istore dX10_copy_29 rfl (by decide) ?_
    show Ev _ _ _ _ 31 _ _ _ [(2, (0 : Int)), (0, x1), (0, x2), (0, x3), (0, x4), (0, x5), (0, v5), (9, 0)] _
    refine ev_aload_n dX10_copy_31 rfl (by decide) ?_
    refine ev_getf (j := 5) (t := 2) (x := (30 : Int)) dX10_copy_32 cf_X10 wf_X10_32 sp0 (by decide) (by decide) rfl (by decide) (rp0_5 _) ?_
    refine ev_iload_n dX10_copy_35 rfl ?_
    obtain ⟨v7, hc8, h⟩ := bind_of h
    refine ev_invV_v (k := (30 : Int)) (av := [(0, x2)]) (st := []) (v := (0, v7)) (τ := σ) dX10_copy_36 ml_X10_96 mv_X6_rowTrouble (T := TX6) (ci := 5) rfl sp30 (by decide) (by decide) rfl ⟨Nat.le_of_ble_eq_true rfl, Nat.le_of_ble_eq_true rfl⟩ (Nat.le_of_ble_eq_true rfl) (c_X6_rowTrouble hc8) ?_
    refine ev_istore dX10_copy_39 rfl (by decide) ?_
    show Ev _ _ _ _ 41 _ _ _ [(2, (0 : Int)), (0, x1), (0, x2), (0, x3), (0, x4), (0, x5), (0, v5), (0, v7)] _
    refine ev_iload dX10_copy_41 rfl ?_
    show Ev _ _ _ _ 43 _ _ _ _ _
    refine ev_bipush dX10_copy_43 (by decide) (by decide) ?_
    refine ev_icmp_eq (tgt := 55) dX10_copy_45 rfl h (fun cb h => ?_) (fun cb h => ?_)
    · exact ev_sub (L2 := [(2, (0 : Int)), (9, 0), (9, 0), (9, 0), (9, 0), (9, 0), (9, 0), (9, 0)]) (e_X10_copy_55 σ h) ⟨.inr rfl, .inl rfl, .inl rfl, .inl rfl, .inl rfl, .inl rfl, .inl rfl, .inl rfl, trivial⟩
    refine ev_iload dX10_copy_48 rfl ?_
    refine ev_bipush dX10_copy_50 (by decide) (by decide) ?_
    refine ev_icmp_ne (tgt := 62) dX10_copy_52 rfl h (fun cb h => ?_) (fun cb h => ?_)
    · refine ev_iload dX10_copy_62 rfl ?_
      refine ev_bipush dX10_copy_64 (by decide) (by decide) ?_
      refine ev_icmp_eq (tgt := 76) dX10_copy_66 rfl h (fun cb h => ?_) (fun cb h => ?_)
      · exact ev_sub (L2 := [(2, (0 : Int)), (9, 0), (9, 0), (9, 0), (9, 0), (9, 0), (9, 0), (9, 0)]) (e_X10_copy_76 σ h) ⟨.inr rfl, .inl rfl, .inl rfl, .inl rfl, .inl rfl, .inl rfl, .inl rfl, .inl rfl, trivial⟩
      refine ev_iload dX10_copy_69 rfl ?_
      refine ev_bipush dX10_copy_71 (by decide) (by decide) ?_
      refine ev_icmp_ne (tgt := 83) dX10_copy_73 rfl h (fun cb h => ?_) (fun cb h => ?_)
      · refine ev_aload_n dX10_copy_83 rfl (by decide) ?_
        refine ev_getf (j := 5) (t := 2) (x := (30 : Int)) dX10_copy_84 cf_X10 wf_X10_32 sp0 (by decide) (by decide) rfl (by decide) (rp0_5 _) ?_
        refine ev_iload_n dX10_copy_87 rfl ?_
        obtain ⟨v9, hc10, h⟩ := bind_of h
        refine ev_invV_v (k := (30 : Int)) (av := [(0, x1)]) (st := []) (v := (0, v9)) (τ := σ) dX10_copy_88 ml_X10_107 mv_X6_holding (T := TX6) (ci := 5) rfl sp30 (by decide) (by decide) rfl ⟨Nat.le_of_ble_eq_true rfl, Nat.le_of_ble_eq_true rfl⟩ (Nat.le_of_ble_eq_true rfl) (c_X6_holding hc10) ?_
        refine ev_aload_n dX10_copy_91 rfl (by decide) ?_
        refine ev_getf (j := 5) (t := 2) (x := (30 : Int)) dX10_copy_92 cf_X10 wf_X10_32 sp0 (by decide) (by decide) rfl (by decide) (rp0_5 _) ?_
        refine ev_iload_n dX10_copy_95 rfl ?_
        obtain ⟨v11, hc12, h⟩ := bind_of h
        refine ev_invV_v (k := (30 : Int)) (av := [(0, x2)]) (st := [(0, v9)]) (v := (0, v11)) (τ := σ) dX10_copy_96 ml_X10_107 mv_X6_holding (T := TX6) (ci := 5) rfl sp30 (by decide) (by decide) rfl ⟨Nat.le_of_ble_eq_true rfl, Nat.le_of_ble_eq_true rfl⟩ (Nat.le_of_ble_eq_true rfl) (c_X6_holding hc12) ?_
        refine ev_icmp_eq (tgt := 109) dX10_copy_99 rfl h (fun cb h => ?_) (fun cb h => ?_)
        · refine ev_aload_n dX10_copy_109 rfl (by decide) ?_
          refine ev_getf (j := 5) (t := 2) (x := (30 : Int)) dX10_copy_110 cf_X10 wf_X10_32 sp0 (by decide) (by decide) rfl (by decide) (rp0_5 _) ?_
          refine ev_iload_n dX10_copy_113 rfl ?_
          refine ev_iload_n dX10_copy_114 rfl ?_
          refine ev_iload dX10_copy_115 rfl ?_
          obtain ⟨v13, hc14, h⟩ := bind_of h
          refine ev_invV_v (k := (30 : Int)) (av := [(0, x1), (0, x3), (0, x5)]) (st := []) (v := (0, v13)) (τ := σ) dX10_copy_117 ml_X10_110 mv_X6_hasElements (T := TX6) (ci := 5) rfl sp30 (by decide) (by decide) rfl ⟨Nat.le_of_ble_eq_true rfl, Nat.le_of_ble_eq_true rfl⟩ (Nat.le_of_ble_eq_true rfl) (c_X6_hasElements hc14) ?_
          refine ev_if_eq (tgt := 138) dX10_copy_120 rfl h (fun cb h => ?_) (fun cb h => ?_)
          · exact ev_sub (L2 := [(2, (0 : Int)), (9, 0), (9, 0), (9, 0), (9, 0), (9, 0), (9, 0), (9, 0)]) (e_X10_copy_138 σ h) ⟨.inr rfl, .inl rfl, .inl rfl, .inl rfl, .inl rfl, .inl rfl, .inl rfl, .inl rfl, trivial⟩
          refine ev_aload_n dX10_copy_123 rfl (by decide) ?_
          refine ev_getf (j := 5) (t := 2) (x := (30 : Int)) dX10_copy_124 cf_X10 wf_X10_32 sp0 (by decide) (by decide) rfl (by decide) (rp0_5 _) ?_
          refine ev_iload_n dX10_copy_127 rfl ?_
          refine ev_iload dX10_copy_128 rfl ?_
          refine ev_iload dX10_copy_130 rfl ?_
          obtain ⟨v15, hc16, h⟩ := bind_of h
          refine ev_invV_v (k := (30 : Int)) (av := [(0, x2), (0, x4), (0, x5)]) (st := []) (v := (0, v15)) (τ := σ) dX10_copy_132 ml_X10_110 mv_X6_hasElements (T := TX6) (ci := 5) rfl sp30 (by decide) (by decide) rfl ⟨Nat.le_of_ble_eq_true rfl, Nat.le_of_ble_eq_true rfl⟩ (Nat.le_of_ble_eq_true rfl) (c_X6_hasElements hc16) ?_
          refine ev_if_ne (tgt := 145) dX10_copy_135 rfl h (fun cb h => ?_) (fun cb h => ?_)
          · refine ev_aload_n dX10_copy_145 rfl (by decide) ?_
            refine ev_getf (j := 5) (t := 2) (x := (30 : Int)) dX10_copy_146 cf_X10 wf_X10_32 sp0 (by decide) (by decide) rfl (by decide) (rp0_5 _) ?_
            refine ev_iload_n dX10_copy_149 rfl ?_
            refine ev_iload_n dX10_copy_150 rfl ?_
            refine ev_iload_n dX10_copy_151 rfl ?_
            refine ev_iload dX10_copy_152 rfl ?_
            refine ev_iload dX10_copy_154 rfl ?_
            obtain ⟨σ17, hc18, h⟩ := bind_of h
            refine ev_invV_n (k := (30 : Int)) (av := [(0, x1), (0, x2), (0, x3), (0, x4), (0, x5)]) (st := []) (τ := σ17) dX10_copy_156 ml_X10_114 mv_X6_carry (T := TX6) (ci := 5) rfl sp30 (by decide) (by decide) rfl ⟨Nat.le_of_ble_eq_true rfl, Nat.le_of_ble_eq_true rfl⟩ (Nat.le_of_ble_eq_true rfl) (c_X6_carry hc18) ?_
            refine ev_iload dX10_copy_159 rfl ?_
            obtain rfl := Option.some.inj h
            dsimp only
            exact ev_iret dX10_copy_161 rfl rfl
          exact ev_sub (L2 := [(2, (0 : Int)), (9, 0), (9, 0), (9, 0), (9, 0), (9, 0), (9, 0), (9, 0)]) (e_X10_copy_138 σ h) ⟨.inr rfl, .inl rfl, .inl rfl, .inl rfl, .inl rfl, .inl rfl, .inl rfl, .inl rfl, trivial⟩
        refine ev_aload_n dX10_copy_102 rfl (by decide) ?_
        refine ev_bipush dX10_copy_103 (by decide) (by decide) ?_
        obtain ⟨v19, hc20, h⟩ := bind_of h
        refine ev_invV_v (k := (0 : Int)) (av := [(0, (-53 : Int))]) (st := []) (v := (0, v19.1)) (τ := v19.2) dX10_copy_105 ml_X10_88 mv_X10_refuse (T := TX10) (ci := 9) rfl sp0 (by decide) (by decide) rfl ⟨Nat.le_of_ble_eq_true rfl, Nat.le_of_ble_eq_true rfl⟩ (Nat.le_of_ble_eq_true rfl) (c_X10_refuse hc20) ?_
        obtain rfl := Option.some.inj h
        dsimp only
        exact ev_iret dX10_copy_108 rfl rfl
      exact ev_sub (L2 := [(2, (0 : Int)), (9, 0), (9, 0), (9, 0), (9, 0), (9, 0), (9, 0), (9, 0)]) (e_X10_copy_76 σ h) ⟨.inr rfl, .inl rfl, .inl rfl, .inl rfl, .inl rfl, .inl rfl, .inl rfl, .inl rfl, trivial⟩
    exact ev_sub (L2 := [(2, (0 : Int)), (9, 0), (9, 0), (9, 0), (9, 0), (9, 0), (9, 0), (9, 0)]) (e_X10_copy_55 σ h) ⟨.inr rfl, .inl rfl, .inl rfl, .inl rfl, .inl rfl, .inl rfl, .inl rfl, .inl rfl, trivial⟩
  exact ev_sub (L2 := [(2, (0 : Int)), (9, 0), (9, 0), (9, 0), (9, 0), (9, 0), (9, 0), (9, 0)]) (e_X10_copy_14 σ h) ⟨.inr rfl, .inl rfl, .inl rfl, .inl rfl, .inl rfl, .inl rfl, .inl rfl, .inl rfl, trivial⟩
set_option maxHeartbeats 4000000 in
set_option maxRecDepth 20000 in
theorem c_X10_element {σ : Mem} {x1 x2 : Int}  {q : Int} (h : f_X10_element σ x1 x2 = some q) : Ms yX10_element M_X10_element 218 218 [(2, (0 : Int)), (0, x1), (0, x2)] rho σ (some (1, q), rho, σ) := by
  refine Ms.of 0 (by decide +kernel) rfl (fun z => absurd z (by decide)) (fun _ _ _ => trivial) rfl rfl ?_
  unfold f_X10_element at h
  show Ev M_X10_element 218 218 _ 0 218 rho σ [(2, (0 : Int)), (0, x1), (0, x2)] []
  refine ev_aload_n dX10_element_0 rfl (by decide) ?_
  refine ev_getf (j := 5) (t := 2) (x := (30 : Int)) dX10_element_1 cf_X10 wf_X10_32 sp0 (by decide) (by decide) rfl (by decide) (rp0_5 _) ?_
  refine ev_iload_n dX10_element_4 rfl ?_
  refine ev_iload_n dX10_element_5 rfl ?_
  obtain ⟨v1, hc2, h⟩ := bind_of h
  refine ev_invV_v (k := (30 : Int)) (av := [(0, x1), (0, x2)]) (st := []) (v := (1, v1)) (τ := σ) dX10_element_6 ml_X10_118 mv_X6_elementAt (T := TX6) (ci := 5) rfl sp30 (by decide) (by decide) rfl ⟨Nat.le_of_ble_eq_true rfl, Nat.le_of_ble_eq_true rfl⟩ (Nat.le_of_ble_eq_true rfl) (c_X6_elementAt hc2) ?_
  obtain rfl := Option.some.inj h
  exact ev_lret dX10_element_9 rfl rfl
set_option maxHeartbeats 4000000 in
set_option maxRecDepth 20000 in
theorem c_X10_holds {σ : Mem} {x1 : Int}  {q : Int} (h : f_X10_holds σ x1 = some q) : Ms yX10_holds M_X10_holds 218 218 [(2, (0 : Int)), (0, x1)] rho σ (some (0, q), rho, σ) := by
  refine Ms.of 0 (by decide +kernel) rfl (fun z => absurd z (by decide)) (fun _ _ _ => trivial) rfl rfl ?_
  unfold f_X10_holds at h
  show Ev M_X10_holds 218 218 _ 0 218 rho σ [(2, (0 : Int)), (0, x1)] []
  refine ev_aload_n dX10_holds_0 rfl (by decide) ?_
  refine ev_getf (j := 5) (t := 2) (x := (30 : Int)) dX10_holds_1 cf_X10 wf_X10_32 sp0 (by decide) (by decide) rfl (by decide) (rp0_5 _) ?_
  refine ev_iload_n dX10_holds_4 rfl ?_
  obtain ⟨v1, hc2, h⟩ := bind_of h
  refine ev_invV_v (k := (30 : Int)) (av := [(0, x1)]) (st := []) (v := (0, v1)) (τ := σ) dX10_holds_5 ml_X10_107 mv_X6_holding (T := TX6) (ci := 5) rfl sp30 (by decide) (by decide) rfl ⟨Nat.le_of_ble_eq_true rfl, Nat.le_of_ble_eq_true rfl⟩ (Nat.le_of_ble_eq_true rfl) (c_X6_holding hc2) ?_
  obtain rfl := Option.some.inj h
  exact ev_iret dX10_holds_8 rfl rfl
set_option maxHeartbeats 4000000 in
set_option maxRecDepth 20000 in
theorem e_X10_show_23 (σ : Mem)  {q : (Int × Mem)} (h : f_X10_show_23 σ  = some q) : Ev M_X10_show 218 218 (some (0, q.1), rho, q.2) 23 218 rho σ [(2, (0 : Int)), (9, 0), (9, 0)] [] := by
  unfold f_X10_show_23 at h
  refine ev_aload_n dX10_show_23 rfl (by decide) ?_
  refine ev_bipush dX10_show_24 (by decide) (by decide) ?_
  obtain ⟨v5, hc6, h⟩ := bind_of h
  refine ev_invV_v (k := (0 : Int)) (av := [(0, (-52 : Int))]) (st := []) (v := (0, v5.1)) (τ := v5.2) dX10_show_26 ml_X10_88 mv_X10_refuse (T := TX10) (ci := 9) rfl sp0 (by decide) (by decide) rfl ⟨Nat.le_of_ble_eq_true rfl, Nat.le_of_ble_eq_true rfl⟩ (Nat.le_of_ble_eq_true rfl) (c_X10_refuse hc6) ?_
  obtain rfl := Option.some.inj h
  dsimp only
  exact ev_iret dX10_show_29 rfl rfl
set_option maxHeartbeats 4000000 in
set_option maxRecDepth 20000 in
theorem e_X10_show_30 (σ : Mem) (x1 x2 : Int)  {q : (Int × Mem)} (h : f_X10_show_30 σ x1 x2 = some q) : Ev M_X10_show 218 218 (some (0, q.1), rho, q.2) 30 218 rho σ [(2, (0 : Int)), (0, x1), (0, x2)] [] := by
  unfold f_X10_show_30 at h
  refine ev_aload_n dX10_show_30 rfl (by decide) ?_
  refine ev_getf (j := 5) (t := 2) (x := (30 : Int)) dX10_show_31 cf_X10 wf_X10_32 sp0 (by decide) (by decide) rfl (by decide) (rp0_5 _) ?_
  refine ev_iload_n dX10_show_34 rfl ?_
  refine ev_iload_n dX10_show_35 rfl ?_
  obtain ⟨σ7, hc8, h⟩ := bind_of h
  refine ev_invV_n (k := (30 : Int)) (av := [(0, x1), (0, x2)]) (st := []) (τ := σ7) dX10_show_36 ml_X10_125 mv_X6_putCand (T := TX6) (ci := 5) rfl sp30 (by decide) (by decide) rfl ⟨Nat.le_of_ble_eq_true rfl, Nat.le_of_ble_eq_true rfl⟩ (Nat.le_of_ble_eq_true rfl) (c_X6_putCand hc8) ?_
  refine ev_iconst dX10_show_39 (by decide) ?_
  obtain rfl := Option.some.inj h
  dsimp only
  exact ev_iret dX10_show_40 rfl rfl
set_option maxHeartbeats 4000000 in
set_option maxRecDepth 20000 in
theorem c_X10_show {σ : Mem} {x1 x2 : Int}  {q : (Int × Mem)} (h : f_X10_show σ x1 x2 = some q) : Ms yX10_show M_X10_show 218 218 [(2, (0 : Int)), (0, x1), (0, x2)] rho σ (some (0, q.1), rho, q.2) := by
  refine Ms.of 0 (by decide +kernel) rfl (fun z => absurd z (by decide)) (fun _ _ _ => trivial) rfl rfl ?_
  unfold f_X10_show at h
  show Ev M_X10_show 218 218 _ 0 218 rho σ [(2, (0 : Int)), (0, x1), (0, x2)] []
  refine ev_iload_n dX10_show_0 rfl ?_
  obtain ⟨v1, hc2, h⟩ := bind_of h
  refine ev_invS_v (av := [(0, x1)]) (st := []) (v := (0, v1)) (τ := σ) dX10_show_1 ml_X10_81 mt_X6_isShelf rfl ⟨Nat.le_of_ble_eq_true rfl, Nat.le_of_ble_eq_true rfl⟩ (Nat.le_of_ble_eq_true rfl) (c_X6_isShelf hc2) ?_
  refine ev_if_eq (tgt := 23) dX10_show_4 rfl h (fun cb h => ?_) (fun cb h => ?_)
  · exact ev_sub (L2 := [(2, (0 : Int)), (9, 0), (9, 0)]) (e_X10_show_23 σ h) ⟨.inr rfl, .inl rfl, .inl rfl, trivial⟩
  refine ev_iload_n dX10_show_7 rfl ?_
  refine ev_iconst dX10_show_8 (by decide) ?_
  refine ev_icmp_eq (tgt := 30) dX10_show_9 rfl h (fun cb h => ?_) (fun cb h => ?_)
  · exact ev_sub (L2 := [(2, (0 : Int)), (0, x1), (0, x2)]) (e_X10_show_30 σ x1 x2 h) ⟨.inr rfl, .inr rfl, .inr rfl, trivial⟩
  refine ev_aload_n dX10_show_12 rfl (by decide) ?_
  refine ev_getf (j := 0) (t := 2) (x := (1 : Int)) dX10_show_13 cf_X10 wf_X10_12 sp0 (by decide) (by decide) rfl (by decide) (rp0_0 _) ?_
  refine ev_iload_n dX10_show_16 rfl ?_
  obtain ⟨v3, hc4, h⟩ := bind_of h
  refine ev_invV_v (k := (1 : Int)) (av := [(0, x2)]) (st := []) (v := (0, v3)) (τ := σ) dX10_show_17 ml_X10_122 mv_X0_hasCand (T := TX0) (ci := 0) rfl sp1 (by decide) (by decide) rfl ⟨Nat.le_of_ble_eq_true rfl, Nat.le_of_ble_eq_true rfl⟩ (Nat.le_of_ble_eq_true rfl) (c_X0_hasCand hB1 hc4) ?_
  refine ev_if_ne (tgt := 30) dX10_show_20 rfl h (fun cb h => ?_) (fun cb h => ?_)
  · exact ev_sub (L2 := [(2, (0 : Int)), (0, x1), (0, x2)]) (e_X10_show_30 σ x1 x2 h) ⟨.inr rfl, .inr rfl, .inr rfl, trivial⟩
  exact ev_sub (L2 := [(2, (0 : Int)), (9, 0), (9, 0)]) (e_X10_show_23 σ h) ⟨.inr rfl, .inl rfl, .inl rfl, trivial⟩
set_option maxHeartbeats 4000000 in
set_option maxRecDepth 20000 in
theorem e_X10_says_25 (σ : Mem)  {q : (Int × Mem)} (h : f_X10_says_25 σ  = some q) : Ev M_X10_says 218 218 (some (0, q.1), rho, q.2) 25 218 rho σ [(2, (0 : Int)), (9, 0), (9, 0), (9, 0), (9, 0)] [] := by
  unfold f_X10_says_25 at h
  refine ev_aload_n dX10_says_25 rfl (by decide) ?_
  refine ev_bipush dX10_says_26 (by decide) (by decide) ?_
  obtain ⟨v17, hc18, h⟩ := bind_of h
  refine ev_invV_v (k := (0 : Int)) (av := [(0, (-52 : Int))]) (st := []) (v := (0, v17.1)) (τ := v17.2) dX10_says_28 ml_X10_88 mv_X10_refuse (T := TX10) (ci := 9) rfl sp0 (by decide) (by decide) rfl ⟨Nat.le_of_ble_eq_true rfl, Nat.le_of_ble_eq_true rfl⟩ (Nat.le_of_ble_eq_true rfl) (c_X10_refuse hc18) ?_
  obtain rfl := Option.some.inj h
  dsimp only
  exact ev_iret dX10_says_31 rfl rfl
set_option maxHeartbeats 4000000 in
set_option maxRecDepth 20000 in
theorem e_X10_says_90 (σ : Mem)  {q : (Int × Mem)} (h : f_X10_says_90 σ  = some q) : Ev M_X10_says 218 218 (some (0, q.1), rho, q.2) 90 218 rho σ [(2, (0 : Int)), (9, 0), (9, 0), (9, 0), (9, 0)] [] := by
  unfold f_X10_says_90 at h
  refine ev_aload_n dX10_says_90 rfl (by decide) ?_
  refine ev_bipush dX10_says_91 (by decide) (by decide) ?_
  obtain ⟨v19, hc20, h⟩ := bind_of h
  refine ev_invV_v (k := (0 : Int)) (av := [(0, (-53 : Int))]) (st := []) (v := (0, v19.1)) (τ := v19.2) dX10_says_93 ml_X10_88 mv_X10_refuse (T := TX10) (ci := 9) rfl sp0 (by decide) (by decide) rfl ⟨Nat.le_of_ble_eq_true rfl, Nat.le_of_ble_eq_true rfl⟩ (Nat.le_of_ble_eq_true rfl) (c_X10_refuse hc20) ?_
  obtain rfl := Option.some.inj h
  dsimp only
  exact ev_iret dX10_says_96 rfl rfl
set_option maxHeartbeats 4000000 in
set_option maxRecDepth 20000 in
theorem c_X10_says {σ : Mem} {x1 x2 x3 : Int}  {q : (Int × Mem)} (h : f_X10_says σ x1 x2 x3 = some q) : Ms yX10_says M_X10_says 218 218 [(2, (0 : Int)), (0, x1), (0, x2), (0, x3)] rho σ (some (0, q.1), rho, q.2) := by
  refine Ms.of 1 (by decide +kernel) rfl (fun z => absurd z (by decide)) (fun _ _ _ => trivial) rfl rfl ?_
  unfold f_X10_says at h
  show Ev M_X10_says 218 218 _ 0 218 rho σ [(2, (0 : Int)), (0, x1), (0, x2), (0, x3), (9, 0)] []
  refine ev_iload_n dX10_says_0 rfl ?_
  obtain ⟨v1, hc2, h⟩ := bind_of h
  refine ev_invS_v (av := [(0, x1)]) (st := []) (v := (0, v1)) (τ := σ) dX10_says_1 ml_X10_81 mt_X6_isShelf rfl ⟨Nat.le_of_ble_eq_true rfl, Nat.le_of_ble_eq_true rfl⟩ (Nat.le_of_ble_eq_true rfl) (c_X6_isShelf hc2) ?_
  refine ev_if_eq (tgt := 25) dX10_says_4 rfl h (fun cb h => ?_) (fun cb h => ?_)
  · exact ev_sub (L2 := [(2, (0 : Int)), (9, 0), (9, 0), (9, 0), (9, 0)]) (e_X10_says_25 σ h) ⟨.inr rfl, .inl rfl, .inl rfl, .inl rfl, .inl rfl, trivial⟩
  refine ev_iload_n dX10_says_7 rfl ?_
  obtain ⟨v3, hc4, h⟩ := bind_of h
  refine ev_invS_v (av := [(0, x2)]) (st := []) (v := (0, v3)) (τ := σ) dX10_says_8 ml_X10_129 mt_X2_isKind rfl ⟨Nat.le_of_ble_eq_true rfl, Nat.le_of_ble_eq_true rfl⟩ (Nat.le_of_ble_eq_true rfl) (c_X2_isKind hc4) ?_
  refine ev_if_eq (tgt := 25) dX10_says_11 rfl h (fun cb h => ?_) (fun cb h => ?_)
  · exact ev_sub (L2 := [(2, (0 : Int)), (9, 0), (9, 0), (9, 0), (9, 0)]) (e_X10_says_25 σ h) ⟨.inr rfl, .inl rfl, .inl rfl, .inl rfl, .inl rfl, trivial⟩
  refine ev_iload_n dX10_says_14 rfl ?_
  refine ev_iconst dX10_says_15 (by decide) ?_
  refine ev_icmp_lt (tgt := 25) dX10_says_16 rfl h (fun cb h => ?_) (fun cb h => ?_)
  · exact ev_sub (L2 := [(2, (0 : Int)), (9, 0), (9, 0), (9, 0), (9, 0)]) (e_X10_says_25 σ h) ⟨.inr rfl, .inl rfl, .inl rfl, .inl rfl, .inl rfl, trivial⟩
  refine ev_iload_n dX10_says_19 rfl ?_
  refine ev_bipush dX10_says_20 (by decide) (by decide) ?_
  refine ev_icmp_le (tgt := 32) dX10_says_22 rfl h (fun cb h => ?_) (fun cb h => ?_)
  · refine ev_aload_n dX10_says_32 rfl (by decide) ?_
    refine ev_getf (j := 5) (t := 2) (x := (30 : Int)) dX10_says_33 cf_X10 wf_X10_32 sp0 (by decide) (by decide) rfl (by decide) (rp0_5 _) ?_
    refine ev_iload_n dX10_says_36 rfl ?_
    obtain ⟨v5, hc6, h⟩ := bind_of h
    refine ev_invV_v (k := (30 : Int)) (av := [(0, x1)]) (st := []) (v := (0, v5)) (τ := σ) dX10_says_37 ml_X10_107 mv_X6_holding (T := TX6) (ci := 5) rfl sp30 (by decide) (by decide) rfl ⟨Nat.le_of_ble_eq_true rfl, Nat.le_of_ble_eq_true rfl⟩ (Nat.le_of_ble_eq_true rfl) (c_X6_holding hc6) ?_
    refine ev_iconst dX10_says_40 (by decide) ?_
    refine ev_icmp_ne (tgt := 51) dX10_says_41 rfl h (fun cb h => ?_) (fun cb h => ?_)
    · refine ev_aload_n dX10_says_51 rfl (by decide) ?_
      refine ev_getf (j := 5) (t := 2) (x := (30 : Int)) dX10_says_52 cf_X10 wf_X10_32 sp0 (by decide) (by decide) rfl (by decide) (rp0_5 _) ?_
      refine ev_iload_n dX10_says_55 rfl ?_
      obtain ⟨v7, hc8, h⟩ := bind_of h
      refine ev_invV_v (k := (30 : Int)) (av := [(0, x1)]) (st := []) (v := (0, v7)) (τ := σ) dX10_says_56 ml_X10_134 mv_X6_candOn (T := TX6) (ci := 5) rfl sp30 (by decide) (by decide) rfl ⟨Nat.le_of_ble_eq_true rfl, Nat.le_of_ble_eq_true rfl⟩ (Nat.le_of_ble_eq_true rfl) (c_X6_candOn hc8) ?_
      refine ev_istore dX10_says_59 rfl (by decide) ?_
      show Ev _ _ _ _ 61 _ _ _ [(2, (0 : Int)), (0, x1), (0, x2), (0, x3), (0, v7)] _
      refine ev_aload_n dX10_says_61 rfl (by decide) ?_
      refine ev_getf (j := 0) (t := 2) (x := (1 : Int)) dX10_says_62 cf_X10 wf_X10_12 sp0 (by decide) (by decide) rfl (by decide) (rp0_0 _) ?_
      refine ev_iload dX10_says_65 rfl ?_
      obtain ⟨v9, hc10, h⟩ := bind_of h
      refine ev_invV_v (k := (1 : Int)) (av := [(0, v7)]) (st := []) (v := (0, v9)) (τ := σ) dX10_says_67 ml_X10_122 mv_X0_hasCand (T := TX0) (ci := 0) rfl sp1 (by decide) (by decide) rfl ⟨Nat.le_of_ble_eq_true rfl, Nat.le_of_ble_eq_true rfl⟩ (Nat.le_of_ble_eq_true rfl) (c_X0_hasCand hB1 hc10) ?_
      refine ev_if_eq (tgt := 90) dX10_says_70 rfl h (fun cb h => ?_) (fun cb h => ?_)
      · exact ev_sub (L2 := [(2, (0 : Int)), (9, 0), (9, 0), (9, 0), (9, 0)]) (e_X10_says_90 σ h) ⟨.inr rfl, .inl rfl, .inl rfl, .inl rfl, .inl rfl, trivial⟩
      refine ev_aload_n dX10_says_73 rfl (by decide) ?_
      refine ev_getf (j := 0) (t := 2) (x := (1 : Int)) dX10_says_74 cf_X10 wf_X10_12 sp0 (by decide) (by decide) rfl (by decide) (rp0_0 _) ?_
      refine ev_getf (j := 3) (t := 2) (x := (5 : Int)) dX10_says_77 cf_X0 wf_X10_137 sp1 (by decide) (by decide) rfl (by decide) (rp1_3 _) ?_
      refine ev_iload dX10_says_80 rfl ?_
      refine ev_iald dX10_says_82 sp5 (by decide) (by decide) h (fun h => ?_)
      refine ev_iload_n dX10_says_83 rfl ?_
      obtain ⟨v11, hc12, h⟩ := bind_of h
      refine ev_invS_v (av := [(0, (σ (5 : Int) v7)), (0, x2)]) (st := []) (v := (0, v11)) (τ := σ) dX10_says_84 ml_X10_140 mt_X2_isUnder rfl ⟨Nat.le_of_ble_eq_true rfl, Nat.le_of_ble_eq_true rfl⟩ (Nat.le_of_ble_eq_true rfl) (c_X2_isUnder hc12) ?_
      refine ev_if_ne (tgt := 97) dX10_says_87 rfl h (fun cb h => ?_) (fun cb h => ?_)
      · refine ev_iload_n dX10_says_97 rfl ?_
        refine ev_aload_n dX10_says_98 rfl (by decide) ?_
        refine ev_getf (j := 0) (t := 2) (x := (1 : Int)) dX10_says_99 cf_X10 wf_X10_12 sp0 (by decide) (by decide) rfl (by decide) (rp0_0 _) ?_
        refine ev_getf (j := 3) (t := 2) (x := (5 : Int)) dX10_says_102 cf_X0 wf_X10_137 sp1 (by decide) (by decide) rfl (by decide) (rp1_3 _) ?_
        refine ev_iload dX10_says_105 rfl ?_
        refine ev_iald dX10_says_107 sp5 (by decide) (by decide) h (fun h => ?_)
        refine ev_aload_n dX10_says_108 rfl (by decide) ?_
        refine ev_getf (j := 0) (t := 2) (x := (1 : Int)) dX10_says_109 cf_X10 wf_X10_12 sp0 (by decide) (by decide) rfl (by decide) (rp0_0 _) ?_
        refine ev_getf (j := 4) (t := 2) (x := (6 : Int)) dX10_says_112 cf_X0 wf_X10_143 sp1 (by decide) (by decide) rfl (by decide) (rp1_4 _) ?_
        refine ev_iload dX10_says_115 rfl ?_
        refine ev_iald dX10_says_117 sp6 (by decide) (by decide) h (fun h => ?_)
        show Ev _ _ _ _ 118 _ _ _ _ _
        refine ev_iload_n dX10_says_118 rfl ?_
        obtain ⟨v13, hc14, h⟩ := bind_of h
        refine ev_invS_v (av := [(0, x2), (0, (σ (5 : Int) v7)), (0, (σ (6 : Int) v7)), (0, x3)]) (st := []) (v := (0, v13)) (τ := σ) dX10_says_119 ml_X10_146 mt_X2_word rfl ⟨Nat.le_of_ble_eq_true rfl, Nat.le_of_ble_eq_true rfl⟩ (Nat.le_of_ble_eq_true rfl) (c_X2_word hc14) ?_
        obtain rfl := Option.some.inj h
        dsimp only
        exact ev_iret dX10_says_122 rfl rfl
      exact ev_sub (L2 := [(2, (0 : Int)), (9, 0), (9, 0), (9, 0), (9, 0)]) (e_X10_says_90 σ h) ⟨.inr rfl, .inl rfl, .inl rfl, .inl rfl, .inl rfl, trivial⟩
    refine ev_aload_n dX10_says_44 rfl (by decide) ?_
    refine ev_bipush dX10_says_45 (by decide) (by decide) ?_
    obtain ⟨v15, hc16, h⟩ := bind_of h
    refine ev_invV_v (k := (0 : Int)) (av := [(0, (-54 : Int))]) (st := []) (v := (0, v15.1)) (τ := v15.2) dX10_says_47 ml_X10_88 mv_X10_refuse (T := TX10) (ci := 9) rfl sp0 (by decide) (by decide) rfl ⟨Nat.le_of_ble_eq_true rfl, Nat.le_of_ble_eq_true rfl⟩ (Nat.le_of_ble_eq_true rfl) (c_X10_refuse hc16) ?_
    obtain rfl := Option.some.inj h
    dsimp only
    exact ev_iret dX10_says_50 rfl rfl
  exact ev_sub (L2 := [(2, (0 : Int)), (9, 0), (9, 0), (9, 0), (9, 0)]) (e_X10_says_25 σ h) ⟨.inr rfl, .inl rfl, .inl rfl, .inl rfl, .inl rfl, trivial⟩
set_option maxHeartbeats 4000000 in
set_option maxRecDepth 20000 in
theorem c_X10_isDay {σ : Mem} {x0 : Int}  {q : Int} (h : f_X10_isDay σ x0 = some q) : Ms yX10_isDay M_X10_isDay 218 218 [(0, x0)] rho σ (some (0, q), rho, σ) := by
  refine Ms.of 0 (by decide +kernel) rfl (fun z => absurd z (by decide)) (fun _ _ _ => trivial) rfl rfl ?_
  unfold f_X10_isDay at h
  show Ev M_X10_isDay 218 218 _ 0 218 rho σ [(0, x0)] []
  refine ev_iload_n dX10_isDay_0 rfl ?_
  refine ev_if_lt (tgt := 13) dX10_isDay_1 rfl h (fun cb h => ?_) (fun cb h => ?_)
  · refine ev_iconst dX10_isDay_13 (by decide) ?_
    obtain rfl := Option.some.inj h
    exact ev_zret dX10_isDay_14 rfl (chk_pos (.inl rfl))
  refine ev_iload_n dX10_isDay_4 rfl ?_
  refine ev_iconst dX10_isDay_5 (by decide) ?_
  refine ev_icmp_ge (tgt := 13) dX10_isDay_6 rfl h (fun cb h => ?_) (fun cb h => ?_)
  · refine ev_iconst dX10_isDay_13 (by decide) ?_
    obtain rfl := Option.some.inj h
    exact ev_zret dX10_isDay_14 rfl (chk_pos (.inl rfl))
  refine ev_iconst dX10_isDay_9 (by decide) ?_
  refine ev_goto (tgt := 14) dX10_isDay_10 rfl ?_
  obtain rfl := Option.some.inj h
  exact ev_zret dX10_isDay_14 rfl (chk_pos (.inr rfl))
set_option maxHeartbeats 4000000 in
set_option maxRecDepth 20000 in
theorem c_X10_isSlot {σ : Mem} {x0 : Int}  {q : Int} (h : f_X10_isSlot σ x0 = some q) : Ms yX10_isSlot M_X10_isSlot 218 218 [(0, x0)] rho σ (some (0, q), rho, σ) := by
  refine Ms.of 0 (by decide +kernel) rfl (fun z => absurd z (by decide)) (fun _ _ _ => trivial) rfl rfl ?_
  unfold f_X10_isSlot at h
  show Ev M_X10_isSlot 218 218 _ 0 218 rho σ [(0, x0)] []
  refine ev_iload_n dX10_isSlot_0 rfl ?_
  refine ev_if_lt (tgt := 14) dX10_isSlot_1 rfl h (fun cb h => ?_) (fun cb h => ?_)
  · refine ev_iconst dX10_isSlot_14 (by decide) ?_
    obtain rfl := Option.some.inj h
    exact ev_zret dX10_isSlot_15 rfl (chk_pos (.inl rfl))
  refine ev_iload_n dX10_isSlot_4 rfl ?_
  refine ev_bipush dX10_isSlot_5 (by decide) (by decide) ?_
  refine ev_icmp_ge (tgt := 14) dX10_isSlot_7 rfl h (fun cb h => ?_) (fun cb h => ?_)
  · refine ev_iconst dX10_isSlot_14 (by decide) ?_
    obtain rfl := Option.some.inj h
    exact ev_zret dX10_isSlot_15 rfl (chk_pos (.inl rfl))
  refine ev_iconst dX10_isSlot_10 (by decide) ?_
  refine ev_goto (tgt := 15) dX10_isSlot_11 rfl ?_
  obtain rfl := Option.some.inj h
  exact ev_zret dX10_isSlot_15 rfl (chk_pos (.inr rfl))
set_option maxHeartbeats 4000000 in
set_option maxRecDepth 20000 in
theorem e_X10_paper_25 (σ : Mem)  {q : (Int × Mem)} (h : f_X10_paper_25 σ  = some q) : Ev M_X10_paper 218 218 (some (0, q.1), rho, q.2) 25 218 rho σ [(2, (0 : Int)), (9, 0), (9, 0), (9, 0)] [] := by
  unfold f_X10_paper_25 at h
  refine ev_aload_n dX10_paper_25 rfl (by decide) ?_
  refine ev_bipush dX10_paper_26 (by decide) (by decide) ?_
  obtain ⟨v9, hc10, h⟩ := bind_of h
  refine ev_invV_v (k := (0 : Int)) (av := [(0, (-52 : Int))]) (st := []) (v := (0, v9.1)) (τ := v9.2) dX10_paper_28 ml_X10_88 mv_X10_refuse (T := TX10) (ci := 9) rfl sp0 (by decide) (by decide) rfl ⟨Nat.le_of_ble_eq_true rfl, Nat.le_of_ble_eq_true rfl⟩ (Nat.le_of_ble_eq_true rfl) (c_X10_refuse hc10) ?_
  obtain rfl := Option.some.inj h
  dsimp only
  exact ev_iret dX10_paper_31 rfl rfl
set_option maxHeartbeats 4000000 in
set_option maxRecDepth 20000 in
theorem c_X10_paper {σ : Mem} {x1 x2 x3 : Int}  {q : (Int × Mem)} (h : f_X10_paper σ x1 x2 x3 = some q) : Ms yX10_paper M_X10_paper 218 218 [(2, (0 : Int)), (0, x1), (0, x2), (0, x3)] rho σ (some (0, q.1), rho, q.2) := by
  refine Ms.of 0 (by decide +kernel) rfl (fun z => absurd z (by decide)) (fun _ _ _ => trivial) rfl rfl ?_
  unfold f_X10_paper at h
  show Ev M_X10_paper 218 218 _ 0 218 rho σ [(2, (0 : Int)), (0, x1), (0, x2), (0, x3)] []
  refine ev_iload_n dX10_paper_0 rfl ?_
  obtain ⟨v1, hc2, h⟩ := bind_of h
  refine ev_invS_v (av := [(0, x1)]) (st := []) (v := (0, v1)) (τ := σ) dX10_paper_1 ml_X10_150 mt_X10_isDay rfl ⟨Nat.le_of_ble_eq_true rfl, Nat.le_of_ble_eq_true rfl⟩ (Nat.le_of_ble_eq_true rfl) (c_X10_isDay hc2) ?_
  refine ev_if_eq (tgt := 25) dX10_paper_4 rfl h (fun cb h => ?_) (fun cb h => ?_)
  · exact ev_sub (L2 := [(2, (0 : Int)), (9, 0), (9, 0), (9, 0)]) (e_X10_paper_25 σ h) ⟨.inr rfl, .inl rfl, .inl rfl, .inl rfl, trivial⟩
  refine ev_iload_n dX10_paper_7 rfl ?_
  obtain ⟨v3, hc4, h⟩ := bind_of h
  refine ev_invS_v (av := [(0, x2)]) (st := []) (v := (0, v3)) (τ := σ) dX10_paper_8 ml_X10_153 mt_X10_isSlot rfl ⟨Nat.le_of_ble_eq_true rfl, Nat.le_of_ble_eq_true rfl⟩ (Nat.le_of_ble_eq_true rfl) (c_X10_isSlot hc4) ?_
  refine ev_if_eq (tgt := 25) dX10_paper_11 rfl h (fun cb h => ?_) (fun cb h => ?_)
  · exact ev_sub (L2 := [(2, (0 : Int)), (9, 0), (9, 0), (9, 0)]) (e_X10_paper_25 σ h) ⟨.inr rfl, .inl rfl, .inl rfl, .inl rfl, trivial⟩
  refine ev_iload_n dX10_paper_14 rfl ?_
  refine ev_iconst dX10_paper_15 (by decide) ?_
  refine ev_icmp_lt (tgt := 25) dX10_paper_16 rfl h (fun cb h => ?_) (fun cb h => ?_)
  · exact ev_sub (L2 := [(2, (0 : Int)), (9, 0), (9, 0), (9, 0)]) (e_X10_paper_25 σ h) ⟨.inr rfl, .inl rfl, .inl rfl, .inl rfl, trivial⟩
  refine ev_iload_n dX10_paper_19 rfl ?_
  refine ev_bipush dX10_paper_20 (by decide) (by decide) ?_
  refine ev_icmp_le (tgt := 32) dX10_paper_22 rfl h (fun cb h => ?_) (fun cb h => ?_)
  · refine ev_aload_n dX10_paper_32 rfl (by decide) ?_
    refine ev_getf (j := 0) (t := 2) (x := (1 : Int)) dX10_paper_33 cf_X10 wf_X10_12 sp0 (by decide) (by decide) rfl (by decide) (rp0_0 _) ?_
    refine ev_getf (j := 8) (t := 0) (x := (σ (1 : Int) 8)) dX10_paper_36 cf_X0 wf_X10_156 sp1 (by decide) (by decide) rfl (by decide) rfl ?_
    refine ev_bipush dX10_paper_39 (by decide) (by decide) ?_
    refine ev_icmp_lt (tgt := 51) dX10_paper_41 rfl h (fun cb h => ?_) (fun cb h => ?_)
    · refine ev_aload_n dX10_paper_51 rfl (by decide) ?_
      refine ev_getf (j := 0) (t := 2) (x := (1 : Int)) dX10_paper_52 cf_X10 wf_X10_12 sp0 (by decide) (by decide) rfl (by decide) (rp0_0 _) ?_
      refine ev_iload_n dX10_paper_55 rfl ?_
      refine ev_iload_n dX10_paper_56 rfl ?_
      refine ev_iload_n dX10_paper_57 rfl ?_
      obtain ⟨v5, hc6, h⟩ := bind_of h
      refine ev_invV_v (k := (1 : Int)) (av := [(0, x1), (0, x2), (0, x3)]) (st := []) (v := (0, v5.1)) (τ := v5.2) dX10_paper_58 ml_X10_160 mv_X0_addPaper (T := TX0) (ci := 0) rfl sp1 (by decide) (by decide) rfl ⟨Nat.le_of_ble_eq_true rfl, Nat.le_of_ble_eq_true rfl⟩ (Nat.le_of_ble_eq_true rfl) (c_X0_addPaper hB1 hc6) ?_
      obtain rfl := Option.some.inj h
      dsimp only
      exact ev_iret dX10_paper_61 rfl rfl
    refine ev_aload_n dX10_paper_44 rfl (by decide) ?_
    refine ev_bipush dX10_paper_45 (by decide) (by decide) ?_
    obtain ⟨v7, hc8, h⟩ := bind_of h
    refine ev_invV_v (k := (0 : Int)) (av := [(0, (-56 : Int))]) (st := []) (v := (0, v7.1)) (τ := v7.2) dX10_paper_47 ml_X10_88 mv_X10_refuse (T := TX10) (ci := 9) rfl sp0 (by decide) (by decide) rfl ⟨Nat.le_of_ble_eq_true rfl, Nat.le_of_ble_eq_true rfl⟩ (Nat.le_of_ble_eq_true rfl) (c_X10_refuse hc8) ?_
    obtain rfl := Option.some.inj h
    dsimp only
    exact ev_iret dX10_paper_50 rfl rfl
  exact ev_sub (L2 := [(2, (0 : Int)), (9, 0), (9, 0), (9, 0)]) (e_X10_paper_25 σ h) ⟨.inr rfl, .inl rfl, .inl rfl, .inl rfl, trivial⟩
set_option maxHeartbeats 4000000 in
set_option maxRecDepth 20000 in
theorem e_X10_starts_19 (σ : Mem)  {q : (Int × Mem)} (h : f_X10_starts_19 σ  = some q) : Ev M_X10_starts 218 218 (some (0, q.1), rho, q.2) 19 218 rho σ [(2, (0 : Int)), (9, 0), (9, 0), (9, 0)] [] := by
  unfold f_X10_starts_19 at h
  refine ev_aload_n dX10_starts_19 rfl (by decide) ?_
  refine ev_bipush dX10_starts_20 (by decide) (by decide) ?_
  obtain ⟨v9, hc10, h⟩ := bind_of h
  refine ev_invV_v (k := (0 : Int)) (av := [(0, (-52 : Int))]) (st := []) (v := (0, v9.1)) (τ := v9.2) dX10_starts_22 ml_X10_88 mv_X10_refuse (T := TX10) (ci := 9) rfl sp0 (by decide) (by decide) rfl ⟨Nat.le_of_ble_eq_true rfl, Nat.le_of_ble_eq_true rfl⟩ (Nat.le_of_ble_eq_true rfl) (c_X10_refuse hc10) ?_
  obtain rfl := Option.some.inj h
  dsimp only
  exact ev_iret dX10_starts_25 rfl rfl
set_option maxHeartbeats 4000000 in
set_option maxRecDepth 20000 in
theorem c_X10_starts {σ : Mem} {x1 x2 : Int}  {q : (Int × Mem)} (h : f_X10_starts σ x1 x2 = some q) : Ms yX10_starts M_X10_starts 218 218 [(2, (0 : Int)), (0, x1), (0, x2)] rho σ (some (0, q.1), rho, q.2) := by
  refine Ms.of 1 (by decide +kernel) rfl (fun z => absurd z (by decide)) (fun _ _ _ => trivial) rfl rfl ?_
  unfold f_X10_starts at h
  show Ev M_X10_starts 218 218 _ 0 218 rho σ [(2, (0 : Int)), (0, x1), (0, x2), (9, 0)] []
  refine ev_aload_n dX10_starts_0 rfl (by decide) ?_
  refine ev_getf (j := 0) (t := 2) (x := (1 : Int)) dX10_starts_1 cf_X10 wf_X10_12 sp0 (by decide) (by decide) rfl (by decide) (rp0_0 _) ?_
  refine ev_iload_n dX10_starts_4 rfl ?_
  refine ev_i2lk dX10_starts_5 ?_
  obtain ⟨v1, hc2, h⟩ := bind_of h
  refine ev_invV_v (k := (1 : Int)) (av := [(1, x1)]) (st := []) (v := (0, v1)) (τ := σ) dX10_starts_6 ml_X10_164 mv_X0_hasPaper (T := TX0) (ci := 0) rfl sp1 (by decide) (by decide) rfl ⟨Nat.le_of_ble_eq_true rfl, Nat.le_of_ble_eq_true rfl⟩ (Nat.le_of_ble_eq_true rfl) (c_X0_hasPaper hB1 hc2) ?_
  refine ev_if_eq (tgt := 19) dX10_starts_9 rfl h (fun cb h => ?_) (fun cb h => ?_)
  · exact ev_sub (L2 := [(2, (0 : Int)), (9, 0), (9, 0), (9, 0)]) (e_X10_starts_19 σ h) ⟨.inr rfl, .inl rfl, .inl rfl, .inl rfl, trivial⟩
  refine ev_iload_n dX10_starts_12 rfl ?_
  obtain ⟨v3, hc4, h⟩ := bind_of h
  refine ev_invS_v (av := [(0, x2)]) (st := []) (v := (0, v3)) (τ := σ) dX10_starts_13 ml_X10_153 mt_X10_isSlot rfl ⟨Nat.le_of_ble_eq_true rfl, Nat.le_of_ble_eq_true rfl⟩ (Nat.le_of_ble_eq_true rfl) (c_X10_isSlot hc4) ?_
  refine ev_if_ne (tgt := 26) dX10_starts_16 rfl h (fun cb h => ?_) (fun cb h => ?_)
  · refine ev_aload_n dX10_starts_26 rfl (by decide) ?_
    refine ev_getf (j := 0) (t := 2) (x := (1 : Int)) dX10_starts_27 cf_X10 wf_X10_12 sp0 (by decide) (by decide) rfl (by decide) (rp0_0 _) ?_
    refine ev_getf (j := 1) (t := 2) (x := (3 : Int)) dX10_starts_30 cf_X0 wf_X10_168 sp1 (by decide) (by decide) rfl (by decide) (rp1_1 _) ?_
    refine ev_iload_n dX10_starts_33 rfl ?_
    refine ev_iald dX10_starts_34 sp3 (by decide) (by decide) h (fun h => ?_)
    refine ev_istore_nG dX10_starts_35 h rfl (by decide) (fun v5 h => ?_)
    show Ev _ _ _ _ 36 _ _ _ [(2, (0 : Int)), (0, x1), (0, x2), (0, v5)] _
    refine ev_aload_n dX10_starts_36 rfl (by decide) ?_
    refine ev_getf (j := 0) (t := 2) (x := (1 : Int)) dX10_starts_37 cf_X10 wf_X10_12 sp0 (by decide) (by decide) rfl (by decide) (rp0_0 _) ?_
    refine ev_getf (j := 1) (t := 2) (x := (3 : Int)) dX10_starts_40 cf_X0 wf_X10_168 sp1 (by decide) (by decide) rfl (by decide) (rp1_1 _) ?_
    refine ev_iload_n dX10_starts_43 rfl ?_
    refine ev_iload_n dX10_starts_44 rfl ?_
    show Ev _ _ _ _ 45 _ _ _ _ _
    refine ev_iastG dX10_starts_45 sp3 (by decide) (by decide) h (fun σ6 h => ?_)
    refine ev_aload_n dX10_starts_46 rfl (by decide) ?_
    refine ev_getf (j := 8) (t := 2) (x := (43 : Int)) dX10_starts_47 cf_X10 wf_X10_50 sp0 (by decide) (by decide) rfl (by decide) (rp0_8 _) ?_
    obtain ⟨σ7, hc8, h⟩ := bind_of h
    refine ev_invV_n (k := (43 : Int)) (av := []) (st := []) (τ := σ7) dX10_starts_50 ml_X10_171 mv_X9_forgetAll (T := TX9) (ci := 8) rfl sp43 (by decide) (by decide) rfl ⟨Nat.le_of_ble_eq_true rfl, Nat.le_of_ble_eq_true rfl⟩ (Nat.le_of_ble_eq_true rfl) (c_X9_forgetAll hc8) ?_
    refine ev_iload_n dX10_starts_53 rfl ?_
    obtain rfl := Option.some.inj h
    dsimp only
    exact ev_iret dX10_starts_54 rfl rfl
  exact ev_sub (L2 := [(2, (0 : Int)), (9, 0), (9, 0), (9, 0)]) (e_X10_starts_19 σ h) ⟨.inr rfl, .inl rfl, .inl rfl, .inl rfl, trivial⟩
set_option maxHeartbeats 4000000 in
set_option maxRecDepth 20000 in
theorem e_X10_cand_17 (σ : Mem)  {q : (Int × Mem)} (h : f_X10_cand_17 σ  = some q) : Ev M_X10_cand 218 218 (some (0, q.1), rho, q.2) 17 218 rho σ [(2, (0 : Int)), (9, 0), (9, 0), (9, 0)] [] := by
  unfold f_X10_cand_17 at h
  refine ev_aload_n dX10_cand_17 rfl (by decide) ?_
  refine ev_bipush dX10_cand_18 (by decide) (by decide) ?_
  obtain ⟨v10, hc11, h⟩ := bind_of h
  refine ev_invV_v (k := (0 : Int)) (av := [(0, (-52 : Int))]) (st := []) (v := (0, v10.1)) (τ := v10.2) dX10_cand_20 ml_X10_88 mv_X10_refuse (T := TX10) (ci := 9) rfl sp0 (by decide) (by decide) rfl ⟨Nat.le_of_ble_eq_true rfl, Nat.le_of_ble_eq_true rfl⟩ (Nat.le_of_ble_eq_true rfl) (c_X10_refuse hc11) ?_
  obtain rfl := Option.some.inj h
  dsimp only
  exact ev_iret dX10_cand_23 rfl rfl
set_option maxHeartbeats 4000000 in
set_option maxRecDepth 20000 in
theorem c_X10_cand {σ : Mem} {x1 x2 : Int}  {q : (Int × Mem)} (h : f_X10_cand σ x1 x2 = some q) : Ms yX10_cand M_X10_cand 218 218 [(2, (0 : Int)), (0, x1), (0, x2)] rho σ (some (0, q.1), rho, q.2) := by
  refine Ms.of 1 (by decide +kernel) rfl (fun z => absurd z (by decide)) (fun _ _ _ => trivial) rfl rfl ?_
  unfold f_X10_cand at h
  show Ev M_X10_cand 218 218 _ 0 218 rho σ [(2, (0 : Int)), (0, x1), (0, x2), (9, 0)] []
  refine ev_iload_n dX10_cand_0 rfl ?_
  obtain ⟨v1, hc2, h⟩ := bind_of h
  refine ev_invS_v (av := [(0, x1)]) (st := []) (v := (0, v1)) (τ := σ) dX10_cand_1 ml_X10_129 mt_X2_isKind rfl ⟨Nat.le_of_ble_eq_true rfl, Nat.le_of_ble_eq_true rfl⟩ (Nat.le_of_ble_eq_true rfl) (c_X2_isKind hc2) ?_
  refine ev_if_eq (tgt := 17) dX10_cand_4 rfl h (fun cb h => ?_) (fun cb h => ?_)
  · exact ev_sub (L2 := [(2, (0 : Int)), (9, 0), (9, 0), (9, 0)]) (e_X10_cand_17 σ h) ⟨.inr rfl, .inl rfl, .inl rfl, .inl rfl, trivial⟩
  refine ev_iload_n dX10_cand_7 rfl ?_
  refine ev_if_lt (tgt := 17) dX10_cand_8 rfl h (fun cb h => ?_) (fun cb h => ?_)
  · exact ev_sub (L2 := [(2, (0 : Int)), (9, 0), (9, 0), (9, 0)]) (e_X10_cand_17 σ h) ⟨.inr rfl, .inl rfl, .inl rfl, .inl rfl, trivial⟩
  refine ev_iload_n dX10_cand_11 rfl ?_
  refine ev_bipush dX10_cand_12 (by decide) (by decide) ?_
  refine ev_icmp_le (tgt := 24) dX10_cand_14 rfl h (fun cb h => ?_) (fun cb h => ?_)
  · refine ev_aload_n dX10_cand_24 rfl (by decide) ?_
    refine ev_getf (j := 0) (t := 2) (x := (1 : Int)) dX10_cand_25 cf_X10 wf_X10_12 sp0 (by decide) (by decide) rfl (by decide) (rp0_0 _) ?_
    refine ev_getf (j := 9) (t := 0) (x := (σ (1 : Int) 9)) dX10_cand_28 cf_X0 wf_X10_174 sp1 (by decide) (by decide) rfl (by decide) rfl ?_
    refine ev_bipush dX10_cand_31 (by decide) (by decide) ?_
    refine ev_icmp_lt (tgt := 43) dX10_cand_33 rfl h (fun cb h => ?_) (fun cb h => ?_)
    · refine ev_aload_n dX10_cand_43 rfl (by decide) ?_
      refine ev_getf (j := 0) (t := 2) (x := (1 : Int)) dX10_cand_44 cf_X10 wf_X10_12 sp0 (by decide) (by decide) rfl (by decide) (rp0_0 _) ?_
      refine ev_iload_n dX10_cand_47 rfl ?_
      refine ev_iload_n dX10_cand_48 rfl ?_
      obtain ⟨v3, hc4, h⟩ := bind_of h
      refine ev_invV_v (k := (1 : Int)) (av := [(0, x1), (0, x2)]) (st := []) (v := (0, v3.1)) (τ := v3.2) dX10_cand_49 ml_X10_177 mv_X0_addCand (T := TX0) (ci := 0) rfl sp1 (by decide) (by decide) rfl ⟨Nat.le_of_ble_eq_true rfl, Nat.le_of_ble_eq_true rfl⟩ (Nat.le_of_ble_eq_true rfl) (c_X0_addCand hB1 hc4) ?_
      refine ev_istore_nG dX10_cand_52 h rfl (by decide) (fun v5 h => ?_)
      show Ev _ _ _ _ 53 _ _ _ [(2, (0 : Int)), (0, x1), (0, x2), (0, v5)] _
      refine ev_aload_n dX10_cand_53 rfl (by decide) ?_
      refine ev_getf (j := 8) (t := 2) (x := (43 : Int)) dX10_cand_54 cf_X10 wf_X10_50 sp0 (by decide) (by decide) rfl (by decide) (rp0_8 _) ?_
      refine ev_iload_n dX10_cand_57 rfl ?_
      obtain ⟨σ6, hc7, h⟩ := bind_of h
      refine ev_invV_n (k := (43 : Int)) (av := [(0, v5)]) (st := []) (τ := σ6) dX10_cand_58 ml_X10_181 mv_X9_forget (T := TX9) (ci := 8) rfl sp43 (by decide) (by decide) rfl ⟨Nat.le_of_ble_eq_true rfl, Nat.le_of_ble_eq_true rfl⟩ (Nat.le_of_ble_eq_true rfl) (c_X9_forget hc7) ?_
      refine ev_iload_n dX10_cand_61 rfl ?_
      show Ev _ _ _ _ 62 _ _ _ _ _
      obtain rfl := Option.some.inj h
      dsimp only
      exact ev_iret dX10_cand_62 rfl rfl
    refine ev_aload_n dX10_cand_36 rfl (by decide) ?_
    refine ev_bipush dX10_cand_37 (by decide) (by decide) ?_
    obtain ⟨v8, hc9, h⟩ := bind_of h
    refine ev_invV_v (k := (0 : Int)) (av := [(0, (-56 : Int))]) (st := []) (v := (0, v8.1)) (τ := v8.2) dX10_cand_39 ml_X10_88 mv_X10_refuse (T := TX10) (ci := 9) rfl sp0 (by decide) (by decide) rfl ⟨Nat.le_of_ble_eq_true rfl, Nat.le_of_ble_eq_true rfl⟩ (Nat.le_of_ble_eq_true rfl) (c_X10_refuse hc9) ?_
    obtain rfl := Option.some.inj h
    dsimp only
    exact ev_iret dX10_cand_42 rfl rfl
  exact ev_sub (L2 := [(2, (0 : Int)), (9, 0), (9, 0), (9, 0)]) (e_X10_cand_17 σ h) ⟨.inr rfl, .inl rfl, .inl rfl, .inl rfl, trivial⟩
set_option maxHeartbeats 4000000 in
set_option maxRecDepth 20000 in
theorem e_X10_isYesOrNo_9 (σ : Mem)  {q : Int} (h : f_X10_isYesOrNo_9 σ  = some q) : Ev M_X10_isYesOrNo 218 218 (some (0, q), rho, σ) 9 218 rho σ [(9, 0)] [] := by
  unfold f_X10_isYesOrNo_9 at h
  refine ev_iconst dX10_isYesOrNo_9 (by decide) ?_
  refine ev_goto (tgt := 14) dX10_isYesOrNo_10 rfl ?_
  obtain rfl := Option.some.inj h
  exact ev_zret dX10_isYesOrNo_14 rfl (chk_pos (.inr rfl))
set_option maxHeartbeats 4000000 in
set_option maxRecDepth 20000 in
theorem c_X10_isYesOrNo {σ : Mem} {x0 : Int}  {q : Int} (h : f_X10_isYesOrNo σ x0 = some q) : Ms yX10_isYesOrNo M_X10_isYesOrNo 218 218 [(0, x0)] rho σ (some (0, q), rho, σ) := by
  refine Ms.of 0 (by decide +kernel) rfl (fun z => absurd z (by decide)) (fun _ _ _ => trivial) rfl rfl ?_
  unfold f_X10_isYesOrNo at h
  show Ev M_X10_isYesOrNo 218 218 _ 0 218 rho σ [(0, x0)] []
  refine ev_iload_n dX10_isYesOrNo_0 rfl ?_
  refine ev_if_eq (tgt := 9) dX10_isYesOrNo_1 rfl h (fun cb h => ?_) (fun cb h => ?_)
  · exact ev_sub (L2 := [(9, 0)]) (e_X10_isYesOrNo_9 σ h) ⟨.inl rfl, trivial⟩
  refine ev_iload_n dX10_isYesOrNo_4 rfl ?_
  refine ev_iconst dX10_isYesOrNo_5 (by decide) ?_
  refine ev_icmp_ne (tgt := 13) dX10_isYesOrNo_6 rfl h (fun cb h => ?_) (fun cb h => ?_)
  · refine ev_iconst dX10_isYesOrNo_13 (by decide) ?_
    obtain rfl := Option.some.inj h
    exact ev_zret dX10_isYesOrNo_14 rfl (chk_pos (.inl rfl))
  exact ev_sub (L2 := [(9, 0)]) (e_X10_isYesOrNo_9 σ h) ⟨.inl rfl, trivial⟩
set_option maxHeartbeats 4000000 in
set_option maxRecDepth 20000 in
theorem e_X10_takes_30 (σ : Mem)  {q : (Int × Mem)} (h : f_X10_takes_30 σ  = some q) : Ev M_X10_takes 218 218 (some (0, q.1), rho, q.2) 30 218 rho σ [(2, (0 : Int)), (9, 0), (9, 0), (9, 0), (9, 0)] [] := by
  unfold f_X10_takes_30 at h
  refine ev_aload_n dX10_takes_30 rfl (by decide) ?_
  refine ev_bipush dX10_takes_31 (by decide) (by decide) ?_
  obtain ⟨v9, hc10, h⟩ := bind_of h
  refine ev_invV_v (k := (0 : Int)) (av := [(0, (-52 : Int))]) (st := []) (v := (0, v9.1)) (τ := v9.2) dX10_takes_33 ml_X10_88 mv_X10_refuse (T := TX10) (ci := 9) rfl sp0 (by decide) (by decide) rfl ⟨Nat.le_of_ble_eq_true rfl, Nat.le_of_ble_eq_true rfl⟩ (Nat.le_of_ble_eq_true rfl) (c_X10_refuse hc10) ?_
  obtain rfl := Option.some.inj h
  dsimp only
  exact ev_iret dX10_takes_36 rfl rfl
set_option maxHeartbeats 4000000 in
set_option maxRecDepth 20000 in
theorem e_X10_takes_54 (σ : Mem) (x1 x2 x3 s0 : Int)  {q : (Int × Mem)} (h : f_X10_takes_54 σ x1 x2 x3 s0 = some q) : Ev M_X10_takes 218 218 (some (0, q.1), rho, q.2) 54 218 rho σ [(2, (0 : Int)), (0, x1), (0, x2), (0, x3), (9, 0)] [(0, s0)] := by
  unfold f_X10_takes_54 at h
  refine ev_istore dX10_takes_54 rfl (by decide) ?_
  show Ev _ _ _ _ 56 _ _ _ [(2, (0 : Int)), (0, x1), (0, x2), (0, x3), (0, s0)] _
  refine ev_iload_n dX10_takes_56 rfl ?_
  refine ev_iload dX10_takes_57 rfl ?_
  refine ev_icmp_eq (tgt := 98) dX10_takes_59 rfl h (fun cb h => ?_) (fun cb h => ?_)
  · refine ev_iload dX10_takes_98 rfl ?_
    obtain rfl := Option.some.inj h
    dsimp only
    exact ev_iret dX10_takes_100 rfl rfl
  refine ev_aload_n dX10_takes_62 rfl (by decide) ?_
  refine ev_getf (j := 0) (t := 2) (x := (1 : Int)) dX10_takes_63 cf_X10 wf_X10_12 sp0 (by decide) (by decide) rfl (by decide) (rp0_0 _) ?_
  refine ev_iload_n dX10_takes_66 rfl ?_
  refine ev_iload_n dX10_takes_67 rfl ?_
  obtain ⟨v11, hc12, h⟩ := bind_of h
  refine ev_invV_v (k := (1 : Int)) (av := [(0, x1), (0, x2)]) (st := []) (v := (0, v11)) (τ := σ) dX10_takes_68 ml_X10_191 mv_X0_mayFlip (T := TX0) (ci := 0) rfl sp1 (by decide) (by decide) rfl ⟨Nat.le_of_ble_eq_true rfl, Nat.le_of_ble_eq_true rfl⟩ (Nat.le_of_ble_eq_true rfl) (c_X0_mayFlip hB1 hc12) ?_
  refine ev_if_ne (tgt := 81) dX10_takes_71 rfl h (fun cb h => ?_) (fun cb h => ?_)
  · refine ev_aload_n dX10_takes_81 rfl (by decide) ?_
    refine ev_getf (j := 0) (t := 2) (x := (1 : Int)) dX10_takes_82 cf_X10 wf_X10_12 sp0 (by decide) (by decide) rfl (by decide) (rp0_0 _) ?_
    refine ev_iload_n dX10_takes_85 rfl ?_
    refine ev_iload_n dX10_takes_86 rfl ?_
    obtain ⟨σ13, hc14, h⟩ := bind_of h
    refine ev_invV_n (k := (1 : Int)) (av := [(0, x1), (0, x2)]) (st := []) (τ := σ13) dX10_takes_87 ml_X10_194 mv_X0_flip (T := TX0) (ci := 0) rfl sp1 (by decide) (by decide) rfl ⟨Nat.le_of_ble_eq_true rfl, Nat.le_of_ble_eq_true rfl⟩ (Nat.le_of_ble_eq_true rfl) (c_X0_flip hB1 hc14) ?_
    refine ev_aload_n dX10_takes_90 rfl (by decide) ?_
    refine ev_getf (j := 8) (t := 2) (x := (43 : Int)) dX10_takes_91 cf_X10 wf_X10_50 sp0 (by decide) (by decide) rfl (by decide) (rp0_8 _) ?_
    refine ev_iload_n dX10_takes_94 rfl ?_
    obtain ⟨σ15, hc16, h⟩ := bind_of h
    refine ev_invV_n (k := (43 : Int)) (av := [(0, x1)]) (st := []) (τ := σ15) dX10_takes_95 ml_X10_181 mv_X9_forget (T := TX9) (ci := 8) rfl sp43 (by decide) (by decide) rfl ⟨Nat.le_of_ble_eq_true rfl, Nat.le_of_ble_eq_true rfl⟩ (Nat.le_of_ble_eq_true rfl) (c_X9_forget hc16) ?_
    refine ev_iload dX10_takes_98 rfl ?_
    obtain rfl := Option.some.inj h
    dsimp only
    exact ev_iret dX10_takes_100 rfl rfl
  refine ev_aload_n dX10_takes_74 rfl (by decide) ?_
  refine ev_bipush dX10_takes_75 (by decide) (by decide) ?_
  obtain ⟨v17, hc18, h⟩ := bind_of h
  refine ev_invV_v (k := (0 : Int)) (av := [(0, (-55 : Int))]) (st := []) (v := (0, v17.1)) (τ := v17.2) dX10_takes_77 ml_X10_88 mv_X10_refuse (T := TX10) (ci := 9) rfl sp0 (by decide) (by decide) rfl ⟨Nat.le_of_ble_eq_true rfl, Nat.le_of_ble_eq_true rfl⟩ (Nat.le_of_ble_eq_true rfl) (c_X10_refuse hc18) ?_
  obtain rfl := Option.some.inj h
  dsimp only
  exact ev_iret dX10_takes_80 rfl rfl
set_option maxHeartbeats 4000000 in
set_option maxRecDepth 20000 in
theorem c_X10_takes {σ : Mem} {x1 x2 x3 : Int}  {q : (Int × Mem)} (h : f_X10_takes σ x1 x2 x3 = some q) : Ms yX10_takes M_X10_takes 218 218 [(2, (0 : Int)), (0, x1), (0, x2), (0, x3)] rho σ (some (0, q.1), rho, q.2) := by
  refine Ms.of 1 (by decide +kernel) rfl (fun z => absurd z (by decide)) (fun _ _ _ => trivial) rfl rfl ?_
  unfold f_X10_takes at h
  show Ev M_X10_takes 218 218 _ 0 218 rho σ [(2, (0 : Int)), (0, x1), (0, x2), (0, x3), (9, 0)] []
  refine ev_aload_n dX10_takes_0 rfl (by decide) ?_
  refine ev_getf (j := 0) (t := 2) (x := (1 : Int)) dX10_takes_1 cf_X10 wf_X10_12 sp0 (by decide) (by decide) rfl (by decide) (rp0_0 _) ?_
  refine ev_iload_n dX10_takes_4 rfl ?_
  obtain ⟨v1, hc2, h⟩ := bind_of h
  refine ev_invV_v (k := (1 : Int)) (av := [(0, x1)]) (st := []) (v := (0, v1)) (τ := σ) dX10_takes_5 ml_X10_122 mv_X0_hasCand (T := TX0) (ci := 0) rfl sp1 (by decide) (by decide) rfl ⟨Nat.le_of_ble_eq_true rfl, Nat.le_of_ble_eq_true rfl⟩ (Nat.le_of_ble_eq_true rfl) (c_X0_hasCand hB1 hc2) ?_
  refine ev_if_eq (tgt := 30) dX10_takes_8 rfl h (fun cb h => ?_) (fun cb h => ?_)
  · exact ev_sub (L2 := [(2, (0 : Int)), (9, 0), (9, 0), (9, 0), (9, 0)]) (e_X10_takes_30 σ h) ⟨.inr rfl, .inl rfl, .inl rfl, .inl rfl, .inl rfl, trivial⟩
  refine ev_aload_n dX10_takes_11 rfl (by decide) ?_
  refine ev_getf (j := 0) (t := 2) (x := (1 : Int)) dX10_takes_12 cf_X10 wf_X10_12 sp0 (by decide) (by decide) rfl (by decide) (rp0_0 _) ?_
  refine ev_iload_n dX10_takes_15 rfl ?_
  refine ev_i2lk dX10_takes_16 ?_
  obtain ⟨v3, hc4, h⟩ := bind_of h
  refine ev_invV_v (k := (1 : Int)) (av := [(1, x2)]) (st := []) (v := (0, v3)) (τ := σ) dX10_takes_17 ml_X10_164 mv_X0_hasPaper (T := TX0) (ci := 0) rfl sp1 (by decide) (by decide) rfl ⟨Nat.le_of_ble_eq_true rfl, Nat.le_of_ble_eq_true rfl⟩ (Nat.le_of_ble_eq_true rfl) (c_X0_hasPaper hB1 hc4) ?_
  refine ev_if_eq (tgt := 30) dX10_takes_20 rfl h (fun cb h => ?_) (fun cb h => ?_)
  · exact ev_sub (L2 := [(2, (0 : Int)), (9, 0), (9, 0), (9, 0), (9, 0)]) (e_X10_takes_30 σ h) ⟨.inr rfl, .inl rfl, .inl rfl, .inl rfl, .inl rfl, trivial⟩
  refine ev_iload_n dX10_takes_23 rfl ?_
  obtain ⟨v5, hc6, h⟩ := bind_of h
  refine ev_invS_v (av := [(0, x3)]) (st := []) (v := (0, v5)) (τ := σ) dX10_takes_24 ml_X10_185 mt_X10_isYesOrNo rfl ⟨Nat.le_of_ble_eq_true rfl, Nat.le_of_ble_eq_true rfl⟩ (Nat.le_of_ble_eq_true rfl) (c_X10_isYesOrNo hc6) ?_
  refine ev_if_ne (tgt := 37) dX10_takes_27 rfl h (fun cb h => ?_) (fun cb h => ?_)
  · refine ev_aload_n dX10_takes_37 rfl (by decide) ?_
    refine ev_getf (j := 0) (t := 2) (x := (1 : Int)) dX10_takes_38 cf_X10 wf_X10_12 sp0 (by decide) (by decide) rfl (by decide) (rp0_0 _) ?_
    refine ev_iload_n dX10_takes_41 rfl ?_
    refine ev_iload_n dX10_takes_42 rfl ?_
    obtain ⟨v7, hc8, h⟩ := bind_of h
    refine ev_invV_v (k := (1 : Int)) (av := [(0, x1), (0, x2)]) (st := []) (v := (0, v7)) (τ := σ) dX10_takes_43 ml_X10_188 mv_X0_doesTake (T := TX0) (ci := 0) rfl sp1 (by decide) (by decide) rfl ⟨Nat.le_of_ble_eq_true rfl, Nat.le_of_ble_eq_true rfl⟩ (Nat.le_of_ble_eq_true rfl) (c_X0_doesTake hB1 hc8) ?_
    refine ev_if_eq (tgt := 53) dX10_takes_46 rfl h (fun cb h => ?_) (fun cb h => ?_)
    · refine ev_iconst dX10_takes_53 (by decide) ?_
      exact ev_sub (L2 := [(2, (0 : Int)), (0, x1), (0, x2), (0, x3), (9, 0)]) (e_X10_takes_54 σ x1 x2 x3 (0 : Int) h) ⟨.inr rfl, .inr rfl, .inr rfl, .inr rfl, .inl rfl, trivial⟩
    refine ev_iconst dX10_takes_49 (by decide) ?_
    refine ev_goto (tgt := 54) dX10_takes_50 rfl ?_
    exact ev_sub (L2 := [(2, (0 : Int)), (0, x1), (0, x2), (0, x3), (9, 0)]) (e_X10_takes_54 σ x1 x2 x3 (1 : Int) h) ⟨.inr rfl, .inr rfl, .inr rfl, .inr rfl, .inl rfl, trivial⟩
  exact ev_sub (L2 := [(2, (0 : Int)), (9, 0), (9, 0), (9, 0), (9, 0)]) (e_X10_takes_30 σ h) ⟨.inr rfl, .inl rfl, .inl rfl, .inl rfl, .inl rfl, trivial⟩
set_option maxHeartbeats 4000000 in
set_option maxRecDepth 20000 in
theorem e_X10_night_18 (σ : Mem)  {q : (Int × Mem)} (h : f_X10_night_18 σ  = some q) : Ev M_X10_night 218 218 (some (0, q.1), rho, q.2) 18 218 rho σ [(2, (0 : Int)), (9, 0), (9, 0), (9, 0)] [] := by
  unfold f_X10_night_18 at h
  refine ev_aload_n dX10_night_18 rfl (by decide) ?_
  refine ev_bipush dX10_night_19 (by decide) (by decide) ?_
  obtain ⟨v9, hc10, h⟩ := bind_of h
  refine ev_invV_v (k := (0 : Int)) (av := [(0, (-52 : Int))]) (st := []) (v := (0, v9.1)) (τ := v9.2) dX10_night_21 ml_X10_88 mv_X10_refuse (T := TX10) (ci := 9) rfl sp0 (by decide) (by decide) rfl ⟨Nat.le_of_ble_eq_true rfl, Nat.le_of_ble_eq_true rfl⟩ (Nat.le_of_ble_eq_true rfl) (c_X10_refuse hc10) ?_
  obtain rfl := Option.some.inj h
  dsimp only
  exact ev_iret dX10_night_24 rfl rfl
set_option maxHeartbeats 4000000 in
set_option maxRecDepth 20000 in
theorem c_X10_night {σ : Mem} {x1 x2 : Int}  {q : (Int × Mem)} (h : f_X10_night σ x1 x2 = some q) : Ms yX10_night M_X10_night 218 218 [(2, (0 : Int)), (0, x1), (0, x2)] rho σ (some (0, q.1), rho, q.2) := by
  refine Ms.of 1 (by decide +kernel) rfl (fun z => absurd z (by decide)) (fun _ _ _ => trivial) rfl rfl ?_
  unfold f_X10_night at h
  show Ev M_X10_night 218 218 _ 0 218 rho σ [(2, (0 : Int)), (0, x1), (0, x2), (9, 0)] []
  refine ev_aload_n dX10_night_0 rfl (by decide) ?_
  refine ev_getf (j := 0) (t := 2) (x := (1 : Int)) dX10_night_1 cf_X10 wf_X10_12 sp0 (by decide) (by decide) rfl (by decide) (rp0_0 _) ?_
  refine ev_iload_n dX10_night_4 rfl ?_
  obtain ⟨v1, hc2, h⟩ := bind_of h
  refine ev_invV_v (k := (1 : Int)) (av := [(0, x1)]) (st := []) (v := (0, v1)) (τ := σ) dX10_night_5 ml_X10_122 mv_X0_hasCand (T := TX0) (ci := 0) rfl sp1 (by decide) (by decide) rfl ⟨Nat.le_of_ble_eq_true rfl, Nat.le_of_ble_eq_true rfl⟩ (Nat.le_of_ble_eq_true rfl) (c_X0_hasCand hB1 hc2) ?_
  refine ev_if_eq (tgt := 18) dX10_night_8 rfl h (fun cb h => ?_) (fun cb h => ?_)
  · exact ev_sub (L2 := [(2, (0 : Int)), (9, 0), (9, 0), (9, 0)]) (e_X10_night_18 σ h) ⟨.inr rfl, .inl rfl, .inl rfl, .inl rfl, trivial⟩
  refine ev_iload_n dX10_night_11 rfl ?_
  obtain ⟨v3, hc4, h⟩ := bind_of h
  refine ev_invS_v (av := [(0, x2)]) (st := []) (v := (0, v3)) (τ := σ) dX10_night_12 ml_X10_185 mt_X10_isYesOrNo rfl ⟨Nat.le_of_ble_eq_true rfl, Nat.le_of_ble_eq_true rfl⟩ (Nat.le_of_ble_eq_true rfl) (c_X10_isYesOrNo hc4) ?_
  refine ev_if_ne (tgt := 25) dX10_night_15 rfl h (fun cb h => ?_) (fun cb h => ?_)
  · refine ev_aload_n dX10_night_25 rfl (by decide) ?_
    refine ev_getf (j := 0) (t := 2) (x := (1 : Int)) dX10_night_26 cf_X10 wf_X10_12 sp0 (by decide) (by decide) rfl (by decide) (rp0_0 _) ?_
    refine ev_getf (j := 5) (t := 2) (x := (7 : Int)) dX10_night_29 cf_X0 wf_X10_197 sp1 (by decide) (by decide) rfl (by decide) (rp1_5 _) ?_
    refine ev_iload_n dX10_night_32 rfl ?_
    refine ev_iald dX10_night_33 sp7 (by decide) (by decide) h (fun h => ?_)
    refine ev_istore_nG dX10_night_34 h rfl (by decide) (fun v5 h => ?_)
    show Ev _ _ _ _ 35 _ _ _ [(2, (0 : Int)), (0, x1), (0, x2), (0, v5)] _
    refine ev_aload_n dX10_night_35 rfl (by decide) ?_
    refine ev_getf (j := 0) (t := 2) (x := (1 : Int)) dX10_night_36 cf_X10 wf_X10_12 sp0 (by decide) (by decide) rfl (by decide) (rp0_0 _) ?_
    refine ev_getf (j := 5) (t := 2) (x := (7 : Int)) dX10_night_39 cf_X0 wf_X10_197 sp1 (by decide) (by decide) rfl (by decide) (rp1_5 _) ?_
    refine ev_iload_n dX10_night_42 rfl ?_
    refine ev_iload_n dX10_night_43 rfl ?_
    show Ev _ _ _ _ 44 _ _ _ _ _
    refine ev_iastG dX10_night_44 sp7 (by decide) (by decide) h (fun σ6 h => ?_)
    refine ev_aload_n dX10_night_45 rfl (by decide) ?_
    refine ev_getf (j := 8) (t := 2) (x := (43 : Int)) dX10_night_46 cf_X10 wf_X10_50 sp0 (by decide) (by decide) rfl (by decide) (rp0_8 _) ?_
    refine ev_iload_n dX10_night_49 rfl ?_
    obtain ⟨σ7, hc8, h⟩ := bind_of h
    refine ev_invV_n (k := (43 : Int)) (av := [(0, x1)]) (st := []) (τ := σ7) dX10_night_50 ml_X10_181 mv_X9_forget (T := TX9) (ci := 8) rfl sp43 (by decide) (by decide) rfl ⟨Nat.le_of_ble_eq_true rfl, Nat.le_of_ble_eq_true rfl⟩ (Nat.le_of_ble_eq_true rfl) (c_X9_forget hc8) ?_
    refine ev_iload_n dX10_night_53 rfl ?_
    obtain rfl := Option.some.inj h
    dsimp only
    exact ev_iret dX10_night_54 rfl rfl
  exact ev_sub (L2 := [(2, (0 : Int)), (9, 0), (9, 0), (9, 0)]) (e_X10_night_18 σ h) ⟨.inr rfl, .inl rfl, .inl rfl, .inl rfl, trivial⟩
set_option maxHeartbeats 4000000 in
set_option maxRecDepth 20000 in
theorem e_X10_room_11 (σ : Mem)  {q : (Int × Mem)} (h : f_X10_room_11 σ  = some q) : Ev M_X10_room 218 218 (some (0, q.1), rho, q.2) 11 218 rho σ [(2, (0 : Int)), (9, 0)] [] := by
  unfold f_X10_room_11 at h
  refine ev_aload_n dX10_room_11 rfl (by decide) ?_
  refine ev_bipush dX10_room_12 (by decide) (by decide) ?_
  obtain ⟨v7, hc8, h⟩ := bind_of h
  refine ev_invV_v (k := (0 : Int)) (av := [(0, (-52 : Int))]) (st := []) (v := (0, v7.1)) (τ := v7.2) dX10_room_14 ml_X10_88 mv_X10_refuse (T := TX10) (ci := 9) rfl sp0 (by decide) (by decide) rfl ⟨Nat.le_of_ble_eq_true rfl, Nat.le_of_ble_eq_true rfl⟩ (Nat.le_of_ble_eq_true rfl) (c_X10_refuse hc8) ?_
  obtain rfl := Option.some.inj h
  dsimp only
  exact ev_iret dX10_room_17 rfl rfl
set_option maxHeartbeats 4000000 in
set_option maxRecDepth 20000 in
theorem c_X10_room {σ : Mem} {x1 : Int}  {q : (Int × Mem)} (h : f_X10_room σ x1 = some q) : Ms yX10_room M_X10_room 218 218 [(2, (0 : Int)), (0, x1)] rho σ (some (0, q.1), rho, q.2) := by
  refine Ms.of 0 (by decide +kernel) rfl (fun z => absurd z (by decide)) (fun _ _ _ => trivial) rfl rfl ?_
  unfold f_X10_room at h
  show Ev M_X10_room 218 218 _ 0 218 rho σ [(2, (0 : Int)), (0, x1)] []
  refine ev_iload_n dX10_room_0 rfl ?_
  refine ev_iconst dX10_room_1 (by decide) ?_
  refine ev_icmp_lt (tgt := 11) dX10_room_2 rfl h (fun cb h => ?_) (fun cb h => ?_)
  · exact ev_sub (L2 := [(2, (0 : Int)), (9, 0)]) (e_X10_room_11 σ h) ⟨.inr rfl, .inl rfl, trivial⟩
  refine ev_iload_n dX10_room_5 rfl ?_
  refine ev_bipush dX10_room_6 (by decide) (by decide) ?_
  refine ev_icmp_le (tgt := 18) dX10_room_8 rfl h (fun cb h => ?_) (fun cb h => ?_)
  · refine ev_aload_n dX10_room_18 rfl (by decide) ?_
    refine ev_getf (j := 0) (t := 2) (x := (1 : Int)) dX10_room_19 cf_X10 wf_X10_12 sp0 (by decide) (by decide) rfl (by decide) (rp0_0 _) ?_
    refine ev_getf (j := 10) (t := 0) (x := (σ (1 : Int) 10)) dX10_room_22 cf_X0 wf_X10_200 sp1 (by decide) (by decide) rfl (by decide) rfl ?_
    refine ev_bipush dX10_room_25 (by decide) (by decide) ?_
    refine ev_icmp_lt (tgt := 37) dX10_room_27 rfl h (fun cb h => ?_) (fun cb h => ?_)
    · refine ev_aload_n dX10_room_37 rfl (by decide) ?_
      refine ev_getf (j := 8) (t := 2) (x := (43 : Int)) dX10_room_38 cf_X10 wf_X10_50 sp0 (by decide) (by decide) rfl (by decide) (rp0_8 _) ?_
      obtain ⟨σ1, hc2, h⟩ := bind_of h
      refine ev_invV_n (k := (43 : Int)) (av := []) (st := []) (τ := σ1) dX10_room_41 ml_X10_203 mv_X9_forgetOthers (T := TX9) (ci := 8) rfl sp43 (by decide) (by decide) rfl ⟨Nat.le_of_ble_eq_true rfl, Nat.le_of_ble_eq_true rfl⟩ (Nat.le_of_ble_eq_true rfl) (c_X9_forgetOthers hc2) ?_
      refine ev_aload_n dX10_room_44 rfl (by decide) ?_
      refine ev_getf (j := 0) (t := 2) (x := (1 : Int)) dX10_room_45 cf_X10 wf_X10_12 sp0 (by decide) (by decide) rfl (by decide) (rp0_0 _) ?_
      refine ev_iload_n dX10_room_48 rfl ?_
      obtain ⟨v3, hc4, h⟩ := bind_of h
      refine ev_invV_v (k := (1 : Int)) (av := [(0, x1)]) (st := []) (v := (0, v3.1)) (τ := v3.2) dX10_room_49 ml_X10_206 mv_X0_addRoom (T := TX0) (ci := 0) rfl sp1 (by decide) (by decide) rfl ⟨Nat.le_of_ble_eq_true rfl, Nat.le_of_ble_eq_true rfl⟩ (Nat.le_of_ble_eq_true rfl) (c_X0_addRoom hB1 hc4) ?_
      obtain rfl := Option.some.inj h
      dsimp only
      exact ev_iret dX10_room_52 rfl rfl
    refine ev_aload_n dX10_room_30 rfl (by decide) ?_
    refine ev_bipush dX10_room_31 (by decide) (by decide) ?_
    obtain ⟨v5, hc6, h⟩ := bind_of h
    refine ev_invV_v (k := (0 : Int)) (av := [(0, (-56 : Int))]) (st := []) (v := (0, v5.1)) (τ := v5.2) dX10_room_33 ml_X10_88 mv_X10_refuse (T := TX10) (ci := 9) rfl sp0 (by decide) (by decide) rfl ⟨Nat.le_of_ble_eq_true rfl, Nat.le_of_ble_eq_true rfl⟩ (Nat.le_of_ble_eq_true rfl) (c_X10_refuse hc6) ?_
    obtain rfl := Option.some.inj h
    dsimp only
    exact ev_iret dX10_room_36 rfl rfl
  exact ev_sub (L2 := [(2, (0 : Int)), (9, 0)]) (e_X10_room_11 σ h) ⟨.inr rfl, .inl rfl, trivial⟩
set_option maxHeartbeats 4000000 in
set_option maxRecDepth 20000 in
theorem e_X10_hours_12 (σ : Mem)  {q : (Int × Mem)} (h : f_X10_hours_12 σ  = some q) : Ev M_X10_hours 218 218 (some (0, q.1), rho, q.2) 12 218 rho σ [(2, (0 : Int)), (9, 0), (9, 0)] [] := by
  unfold f_X10_hours_12 at h
  refine ev_aload_n dX10_hours_12 rfl (by decide) ?_
  refine ev_bipush dX10_hours_13 (by decide) (by decide) ?_
  obtain ⟨v5, hc6, h⟩ := bind_of h
  refine ev_invV_v (k := (0 : Int)) (av := [(0, (-52 : Int))]) (st := []) (v := (0, v5.1)) (τ := v5.2) dX10_hours_15 ml_X10_88 mv_X10_refuse (T := TX10) (ci := 9) rfl sp0 (by decide) (by decide) rfl ⟨Nat.le_of_ble_eq_true rfl, Nat.le_of_ble_eq_true rfl⟩ (Nat.le_of_ble_eq_true rfl) (c_X10_refuse hc6) ?_
  obtain rfl := Option.some.inj h
  dsimp only
  exact ev_iret dX10_hours_18 rfl rfl
set_option maxHeartbeats 4000000 in
set_option maxRecDepth 20000 in
theorem c_X10_hours {σ : Mem} {x1 : Int}  {q : (Int × Mem)} (h : f_X10_hours σ x1 = some q) : Ms yX10_hours M_X10_hours 218 218 [(2, (0 : Int)), (0, x1)] rho σ (some (0, q.1), rho, q.2) := by
  refine Ms.of 1 (by decide +kernel) rfl (fun z => absurd z (by decide)) (fun _ _ _ => trivial) rfl rfl ?_
  unfold f_X10_hours at h
  show Ev M_X10_hours 218 218 _ 0 218 rho σ [(2, (0 : Int)), (0, x1), (9, 0)] []
  refine ev_iload_n dX10_hours_0 rfl ?_
  refine ev_bipush dX10_hours_1 (by decide) (by decide) ?_
  refine ev_icmp_lt (tgt := 12) dX10_hours_3 rfl h (fun cb h => ?_) (fun cb h => ?_)
  · exact ev_sub (L2 := [(2, (0 : Int)), (9, 0), (9, 0)]) (e_X10_hours_12 σ h) ⟨.inr rfl, .inl rfl, .inl rfl, trivial⟩
  refine ev_iload_n dX10_hours_6 rfl ?_
  refine ev_bipush dX10_hours_7 (by decide) (by decide) ?_
  refine ev_icmp_le (tgt := 19) dX10_hours_9 rfl h (fun cb h => ?_) (fun cb h => ?_)
  · refine ev_aload_n dX10_hours_19 rfl (by decide) ?_
    refine ev_getf (j := 0) (t := 2) (x := (1 : Int)) dX10_hours_20 cf_X10 wf_X10_12 sp0 (by decide) (by decide) rfl (by decide) (rp0_0 _) ?_
    refine ev_getf (j := 11) (t := 0) (x := (σ (1 : Int) 11)) dX10_hours_23 cf_X0 wf_X10_209 sp1 (by decide) (by decide) rfl (by decide) rfl ?_
    refine ev_istore_nG dX10_hours_26 h rfl (by decide) (fun v1 h => ?_)
    show Ev _ _ _ _ 27 _ _ _ [(2, (0 : Int)), (0, x1), (0, v1)] _
    refine ev_aload_n dX10_hours_27 rfl (by decide) ?_
    refine ev_getf (j := 0) (t := 2) (x := (1 : Int)) dX10_hours_28 cf_X10 wf_X10_12 sp0 (by decide) (by decide) rfl (by decide) (rp0_0 _) ?_
    refine ev_iload_n dX10_hours_31 rfl ?_
    refine ev_putfG (j := 11) (t := 0) dX10_hours_32 cf_X0 wf_X10_209 sp1 (by decide) (by decide) rfl (by decide) (by decide) rfl (fun z => absurd z (by decide +kernel)) h (fun σ2 h => ?_)
    refine ev_aload_n dX10_hours_35 rfl (by decide) ?_
    refine ev_getf (j := 8) (t := 2) (x := (43 : Int)) dX10_hours_36 cf_X10 wf_X10_50 sp0 (by decide) (by decide) rfl (by decide) (rp0_8 _) ?_
    obtain ⟨σ3, hc4, h⟩ := bind_of h
    refine ev_invV_n (k := (43 : Int)) (av := []) (st := []) (τ := σ3) dX10_hours_39 ml_X10_171 mv_X9_forgetAll (T := TX9) (ci := 8) rfl sp43 (by decide) (by decide) rfl ⟨Nat.le_of_ble_eq_true rfl, Nat.le_of_ble_eq_true rfl⟩ (Nat.le_of_ble_eq_true rfl) (c_X9_forgetAll hc4) ?_
    show Ev _ _ _ _ 42 _ _ _ _ _
    refine ev_iload_n dX10_hours_42 rfl ?_
    obtain rfl := Option.some.inj h
    dsimp only
    exact ev_iret dX10_hours_43 rfl rfl
  exact ev_sub (L2 := [(2, (0 : Int)), (9, 0), (9, 0)]) (e_X10_hours_12 σ h) ⟨.inr rfl, .inl rfl, .inl rfl, trivial⟩
