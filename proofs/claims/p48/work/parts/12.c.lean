def K_X8_beginsLate_22 (σ : Mem) (x0 x1 x2 x3 : Int) (r : Option V × Mem × Mem) : (Int) ⊕ ((Int) ⊕ (Unit)) → Prop := Sum.elim (fun a => Ev M_X8_beginsLate 181 181 r 22 181 rho σ [(2, x0), (2, x1), (0, x2), (0, x3), (0, a), (9, 0)] []) (Sum.elim (fun e => Ev M_X8_beginsLate 181 181 r 52 181 rho σ [(2, x0), (2, x1), (0, x2), (9, 0), (9, 0), (0, e)] []) (fun e => Ev M_X8_beginsLate 181 181 r 80 181 rho σ [(9, 0), (9, 0), (9, 0), (9, 0), (9, 0), (9, 0)] []))
set_option maxHeartbeats 4000000 in
set_option maxRecDepth 20000 in
theorem e_X8_beginsLate_52 (σ : Mem) (x0 x1 x2 x5 : Int) (hx0 : isW x0) (hx1 : isB x1) {q : Int} (h : f_X8_beginsLate_52 σ x0 x1 x2 x5 = some q) : Ev M_X8_beginsLate 181 181 (some (0, q), rho, σ) 52 181 rho σ [(2, x0), (2, x1), (0, x2), (9, 0), (9, 0), (0, x5)] [] := by
  unfold f_X8_beginsLate_52 at h
  refine ev_aload_n dX8_beginsLate_52 rfl (pW hx0).1 ?_
  refine ev_getf (j := 7) (t := 2) (x := (x0 + 8)) dX8_beginsLate_53 cf_X8 wf_X8_35 (sW hx0) (pW hx0).1 (pW hx0).2 rfl (by decide) (rW7 _ hx0) ?_
  refine ev_iload dX8_beginsLate_56 rfl ?_
  refine ev_iald dX8_beginsLate_58 (sW7 hx0) (pW7 hx0).1 (pW7 hx0).2 h (fun h => ?_)
  refine ev_aload_n dX8_beginsLate_59 rfl (pB hx1).1 ?_
  refine ev_getf (j := 1) (t := 2) (x := (x1 + 2)) dX8_beginsLate_60 cf_X0 wf_X8_79 (sB hx1) (pB hx1).1 (pB hx1).2 rfl (by decide) (rB1 _ hx1) ?_
  refine ev_iload_n dX8_beginsLate_63 rfl ?_
  refine ev_iald dX8_beginsLate_64 (sB1 hx1) (pB1 hx1).1 (pB1 hx1).2 h (fun h => ?_)
  refine ev_icmp_eq (tgt := 72) dX8_beginsLate_65 rfl h (fun cb h => ?_) (fun cb h => ?_)
  · refine ev_iconst dX8_beginsLate_72 (by decide) ?_
    obtain rfl := Option.some.inj h
    exact ev_zret dX8_beginsLate_73 rfl (chk_pos (.inl rfl))
  refine ev_iconst dX8_beginsLate_68 (by decide) ?_
  refine ev_goto (tgt := 73) dX8_beginsLate_69 rfl ?_
  obtain rfl := Option.some.inj h
  exact ev_zret dX8_beginsLate_73 rfl (chk_pos (.inr rfl))
set_option maxHeartbeats 4000000 in
set_option maxRecDepth 20000 in
theorem b_X8_beginsLate_22 (σ : Mem) (x0 x1 x2 x3 : Int) (hx0 : isW x0) (hx1 : isB x1) {r : Option V × Mem × Mem} : ∀ a x, f_X8_beginsLate_22B σ x0 x1 x2 x3 a = some x → K_X8_beginsLate_22 σ x0 x1 x2 x3 r x → K_X8_beginsLate_22 σ x0 x1 x2 x3 r (.inl a) := by
  intro a x h K
  have ⟨x4, ea⟩ : ∃ z, z = a := ⟨_, rfl⟩
  subst ea
  have h : f_X8_beginsLate_22C σ x0 x1 x2 x3 x4 = some x := h
  unfold f_X8_beginsLate_22C at h
  show Ev M_X8_beginsLate 181 181 r 22 181 rho σ [(2, x0), (2, x1), (0, x2), (0, x3), (0, x4), (9, 0)] []
  refine ev_iload dX8_beginsLate_22 rfl ?_
  refine ev_aload_n dX8_beginsLate_24 rfl (pW hx0).1 ?_
  refine ev_getf (j := 4) (t := 2) (x := (x0 + 5)) dX8_beginsLate_25 cf_X8 wf_X8_25 (sW hx0) (pW hx0).1 (pW hx0).2 rfl (by decide) (rW4 _ hx0) ?_
  refine ev_iload_n dX8_beginsLate_28 rfl ?_
  refine ev_iald dX8_beginsLate_29 (sW4 hx0) (pW4 hx0).1 (pW4 hx0).2 h (fun h => ?_)
  refine ev_icmp_ge (tgt := 80) dX8_beginsLate_30 rfl h (fun cb h => ?_) (fun cb h => ?_)
  · obtain rfl := Option.some.inj h
    exact ev_sub (L2 := [(9, 0), (9, 0), (9, 0), (9, 0), (9, 0), (9, 0)]) K ⟨.inl rfl, .inl rfl, .inl rfl, .inl rfl, .inl rfl, .inl rfl, trivial⟩
  refine ev_iload_n dX8_beginsLate_33 rfl ?_
  refine ev_iconst dX8_beginsLate_34 (by decide) ?_
  refine ev_imul dX8_beginsLate_35 ?_
  refine ev_iload dX8_beginsLate_36 rfl ?_
  refine ev_iadd dX8_beginsLate_38 ?_
  refine ev_istoreG dX8_beginsLate_39 h rfl (by decide) (fun v2 h => ?_)
  show Ev _ _ _ _ 41 _ _ _ [(2, x0), (2, x1), (0, x2), (0, x3), (0, x4), (0, v2)] _
  refine ev_aload_n dX8_beginsLate_41 rfl (pW hx0).1 ?_
  refine ev_getf (j := 6) (t := 2) (x := (x0 + 7)) dX8_beginsLate_42 cf_X8 wf_X8_32 (sW hx0) (pW hx0).1 (pW hx0).2 rfl (by decide) (rW6 _ hx0) ?_
  refine ev_iload dX8_beginsLate_45 rfl ?_
  refine ev_iald dX8_beginsLate_47 (sW6 hx0) (pW6 hx0).1 (pW6 hx0).2 h (fun h => ?_)
  refine ev_iload_n dX8_beginsLate_48 rfl ?_
  show Ev _ _ _ _ 49 _ _ _ _ _
  refine ev_icmp_ne (tgt := 74) dX8_beginsLate_49 rfl h (fun cb h => ?_) (fun cb h => ?_)
  · refine ev_iincG dX8_beginsLate_74 rfl h rfl (fun v3 h => ?_)
    show Ev _ _ _ _ 77 _ _ _ [(2, x0), (2, x1), (0, x2), (0, x3), (0, v3), (0, v2)] _
    refine ev_goto (tgt := 22) dX8_beginsLate_77 rfl ?_
    obtain rfl := Option.some.inj h
    exact ev_sub (L2 := [(2, x0), (2, x1), (0, x2), (0, x3), (0, v3), (9, 0)]) K ⟨.inr rfl, .inr rfl, .inr rfl, .inr rfl, .inr rfl, .inl rfl, trivial⟩
  obtain rfl := Option.some.inj h
  exact ev_sub (L2 := [(2, x0), (2, x1), (0, x2), (9, 0), (9, 0), (0, v2)]) K ⟨.inr rfl, .inr rfl, .inr rfl, .inl rfl, .inl rfl, .inr rfl, trivial⟩
set_option maxHeartbeats 4000000 in
set_option maxRecDepth 20000 in
theorem e_X8_beginsLate_22 (σ : Mem) (x0 x1 x2 x3 x4 : Int) (hx0 : isW x0) (hx1 : isB x1) {q : Int} (h : f_X8_beginsLate_22 σ x0 x1 x2 x3 x4 = some q) : Ev M_X8_beginsLate 181 181 (some (0, q), rho, σ) 22 181 rho σ [(2, x0), (2, x1), (0, x2), (0, x3), (0, x4), (9, 0)] [] := by
  unfold f_X8_beginsLate_22 at h
  obtain ⟨e, hl, h⟩ := bind_of h
  refine loop_ev (K := K_X8_beginsLate_22 σ x0 x1 x2 x3 (some (0, q), rho, σ)) (b_X8_beginsLate_22 σ x0 x1 x2 x3 hx0 hx1) FU x4 e hl ?_
  rcases e with e | e
  · show Ev M_X8_beginsLate 181 181 _ 52 181 rho σ [(2, x0), (2, x1), (0, x2), (9, 0), (9, 0), (0, e)] []
    replace h : f_X8_beginsLate_52 σ x0 x1 x2 e = some q := h
    exact ev_sub (L2 := [(2, x0), (2, x1), (0, x2), (9, 0), (9, 0), (0, e)]) (e_X8_beginsLate_52 σ x0 x1 x2 e hx0 hx1 h) ⟨.inr rfl, .inr rfl, .inr rfl, .inl rfl, .inl rfl, .inr rfl, trivial⟩
  · show Ev M_X8_beginsLate 181 181 _ 80 181 rho σ [(9, 0), (9, 0), (9, 0), (9, 0), (9, 0), (9, 0)] []
    replace h : some (0 : Int) = some q := h
    refine ev_iconst dX8_beginsLate_80 (by decide) ?_
    obtain rfl := Option.some.inj h
    exact ev_zret dX8_beginsLate_81 rfl (chk_pos (.inl rfl))
set_option maxHeartbeats 4000000 in
set_option maxRecDepth 20000 in
theorem c_X8_beginsLate {σ : Mem} {x0 x1 x2 : Int} (hx0 : isW x0) (hx1 : isB x1) {q : Int} (h : f_X8_beginsLate σ x0 x1 x2 = some q) : Ms yX8_beginsLate M_X8_beginsLate 181 181 [(2, x0), (2, x1), (0, x2)] rho σ (some (0, q), rho, σ) := by
  refine Ms.of 3 (by decide +kernel) rfl (fun z => absurd z (by decide)) (fun _ _ _ => trivial) rfl rfl ?_
  unfold f_X8_beginsLate at h
  show Ev M_X8_beginsLate 181 181 _ 0 181 rho σ [(2, x0), (2, x1), (0, x2), (9, 0), (9, 0), (9, 0)] []
  refine ev_aload_n dX8_beginsLate_0 rfl (pB hx1).1 ?_
  refine ev_getf (j := 0) (t := 2) (x := (x1 + 1)) dX8_beginsLate_1 cf_X0 wf_X8_88 (sB hx1) (pB hx1).1 (pB hx1).2 rfl (by decide) (rB0 _ hx1) ?_
  refine ev_iload_n dX8_beginsLate_4 rfl ?_
  refine ev_iald dX8_beginsLate_5 (sB0 hx1) (pB0 hx1).1 (pB0 hx1).2 h (fun h => ?_)
  refine ev_istore_nG dX8_beginsLate_6 h rfl (by decide) (fun v1 h => ?_)
  show Ev _ _ _ _ 7 _ _ _ [(2, x0), (2, x1), (0, x2), (0, v1), (9, 0), (9, 0)] _
  refine ev_aload_n dX8_beginsLate_7 rfl (pW hx0).1 ?_
  refine ev_getf (j := 1) (t := 2) (x := (x0 + 2)) dX8_beginsLate_8 cf_X8 wf_X8_15 (sW hx0) (pW hx0).1 (pW hx0).2 rfl (by decide) (rW1 _ hx0) ?_
  refine ev_iload_n dX8_beginsLate_11 rfl ?_
  refine ev_iald dX8_beginsLate_12 (sW1 hx0) (pW1 hx0).1 (pW1 hx0).2 h (fun h => ?_)
  refine ev_iload_n dX8_beginsLate_13 rfl ?_
  refine ev_icmp_ne (tgt := 19) dX8_beginsLate_14 rfl h (fun cb h => ?_) (fun cb h => ?_)
  · refine ev_iconst dX8_beginsLate_19 (by decide) ?_
    refine ev_istore dX8_beginsLate_20 rfl (by decide) ?_
    show Ev _ _ _ _ 22 _ _ _ [(2, x0), (2, x1), (0, x2), (0, v1), (0, (0 : Int)), (9, 0)] _
    exact ev_sub (L2 := [(2, x0), (2, x1), (0, x2), (0, v1), (0, (0 : Int)), (9, 0)]) (e_X8_beginsLate_22 σ x0 x1 x2 v1 (0 : Int) hx0 hx1 h) ⟨.inr rfl, .inr rfl, .inr rfl, .inr rfl, .inr rfl, .inl rfl, trivial⟩
  refine ev_iconst dX8_beginsLate_17 (by decide) ?_
  obtain rfl := Option.some.inj h
  exact ev_zret dX8_beginsLate_18 rfl (chk_pos (.inr rfl))
set_option maxHeartbeats 4000000 in
set_option maxRecDepth 20000 in
theorem c_X9_forgetOthers {σ : Mem}  {q : Mem} (h : f_X9_forgetOthers σ  = some q) : Ms yX9_forgetOthers M_X9_forgetOthers 181 181 [(2, (43 : Int))] rho σ (none, rho, q) := by
  refine Ms.of 0 (by decide +kernel) rfl (fun z => absurd z (by decide)) (fun _ _ _ => trivial) rfl rfl ?_
  unfold f_X9_forgetOthers at h
  show Ev M_X9_forgetOthers 181 181 _ 0 181 rho σ [(2, (43 : Int))] []
  refine ev_aload_n dX9_forgetOthers_0 rfl (by decide) ?_
  refine ev_dup dX9_forgetOthers_1 (show (2 : Nat) ≠ 1 by decide) ?_
  refine ev_getf (j := 3) (t := 0) (x := (σ (43 : Int) 3)) dX9_forgetOthers_2 cf_X9 wf_X9_28 sp43 (by decide) (by decide) rfl (by decide) rfl ?_
  refine ev_iconst dX9_forgetOthers_5 (by decide) ?_
  refine ev_iadd dX9_forgetOthers_6 ?_
  refine ev_putfG (j := 3) (t := 0) dX9_forgetOthers_7 cf_X9 wf_X9_28 sp43 (by decide) (by decide) rfl (by decide) (by decide) rfl (fun z => absurd z (by decide +kernel)) h (fun σ1 h => ?_)
  obtain rfl := Option.some.inj h
  exact ev_vret dX9_forgetOthers_10 rfl rfl
set_option maxHeartbeats 4000000 in
set_option maxRecDepth 20000 in
theorem c_X9_forget {σ : Mem} {x1 : Int}  {q : Mem} (h : f_X9_forget σ x1 = some q) : Ms yX9_forget M_X9_forget 181 181 [(2, (43 : Int)), (0, x1)] rho σ (none, rho, q) := by
  refine Ms.of 0 (by decide +kernel) rfl (fun z => absurd z (by decide)) (fun _ _ _ => trivial) rfl rfl ?_
  unfold f_X9_forget at h
  show Ev M_X9_forget 181 181 _ 0 181 rho σ [(2, (43 : Int)), (0, x1)] []
  refine ev_aload_n dX9_forget_0 rfl (by decide) ?_
  refine ev_getf (j := 2) (t := 2) (x := (53 : Int)) dX9_forget_1 cf_X9 wf_X9_24 sp43 (by decide) (by decide) rfl (by decide) (rp43_2 _) ?_
  refine ev_iload_n dX9_forget_4 rfl ?_
  refine ev_iconst dX9_forget_5 (by decide) ?_
  refine ev_zastG dX9_forget_6 sp53 (by decide) (by decide) h (fun σ1 h => ?_)
  refine ev_aload_n dX9_forget_7 rfl (by decide) ?_
  refine ev_dup dX9_forget_8 (show (2 : Nat) ≠ 1 by decide) ?_
  refine ev_getf (j := 3) (t := 0) (x := (σ1 (43 : Int) 3)) dX9_forget_9 cf_X9 wf_X9_28 sp43 (by decide) (by decide) rfl (by decide) rfl ?_
  refine ev_iconst dX9_forget_12 (by decide) ?_
  refine ev_iadd dX9_forget_13 ?_
  refine ev_putfG (j := 3) (t := 0) dX9_forget_14 cf_X9 wf_X9_28 sp43 (by decide) (by decide) rfl (by decide) (by decide) rfl (fun z => absurd z (by decide +kernel)) h (fun σ2 h => ?_)
  show Ev _ _ _ _ 17 _ _ _ _ _
  obtain rfl := Option.some.inj h
  exact ev_vret dX9_forget_17 rfl rfl
def K_X9_forgetAll_2 (r : Option V × Mem × Mem) : (Int × Mem) ⊕ ((Mem)) → Prop := Sum.elim (fun a => Ev M_X9_forgetAll 181 181 r 2 181 rho a.2 [(2, (43 : Int)), (0, a.1)] []) (fun e => Ev M_X9_forgetAll 181 181 r 21 181 rho e [(2, (43 : Int)), (9, 0)] [])
set_option maxHeartbeats 4000000 in
set_option maxRecDepth 20000 in
theorem e_X9_forgetAll_21 (σ : Mem)  {q : Mem} (h : f_X9_forgetAll_21 σ  = some q) : Ev M_X9_forgetAll 181 181 (none, rho, q) 21 181 rho σ [(2, (43 : Int)), (9, 0)] [] := by
  unfold f_X9_forgetAll_21 at h
  refine ev_aload_n dX9_forgetAll_21 rfl (by decide) ?_
  refine ev_dup dX9_forgetAll_22 (show (2 : Nat) ≠ 1 by decide) ?_
  refine ev_getf (j := 3) (t := 0) (x := (σ (43 : Int) 3)) dX9_forgetAll_23 cf_X9 wf_X9_28 sp43 (by decide) (by decide) rfl (by decide) rfl ?_
  refine ev_iconst dX9_forgetAll_26 (by decide) ?_
  refine ev_iadd dX9_forgetAll_27 ?_
  refine ev_putfG (j := 3) (t := 0) dX9_forgetAll_28 cf_X9 wf_X9_28 sp43 (by decide) (by decide) rfl (by decide) (by decide) rfl (fun z => absurd z (by decide +kernel)) h (fun σ3 h => ?_)
  obtain rfl := Option.some.inj h
  exact ev_vret dX9_forgetAll_31 rfl rfl
set_option maxHeartbeats 4000000 in
set_option maxRecDepth 20000 in
theorem b_X9_forgetAll_2  {r : Option V × Mem × Mem} : ∀ a x, f_X9_forgetAll_2B  a = some x → K_X9_forgetAll_2  r x → K_X9_forgetAll_2  r (.inl a) := by
  intro a x h K
  obtain ⟨x1, σ⟩ := a
  have h : f_X9_forgetAll_2C  x1 σ = some x := h
  unfold f_X9_forgetAll_2C at h
  show Ev M_X9_forgetAll 181 181 r 2 181 rho σ [(2, (43 : Int)), (0, x1)] []
  refine ev_iload_n dX9_forgetAll_2 rfl ?_
  refine ev_bipush dX9_forgetAll_3 (by decide) (by decide) ?_
  refine ev_icmp_ge (tgt := 21) dX9_forgetAll_5 rfl h (fun cb h => ?_) (fun cb h => ?_)
  · obtain rfl := Option.some.inj h
    exact ev_sub (L2 := [(2, (43 : Int)), (9, 0)]) K ⟨.inr rfl, .inl rfl, trivial⟩
  refine ev_aload_n dX9_forgetAll_8 rfl (by decide) ?_
  refine ev_getf (j := 2) (t := 2) (x := (53 : Int)) dX9_forgetAll_9 cf_X9 wf_X9_24 sp43 (by decide) (by decide) rfl (by decide) (rp43_2 _) ?_
  refine ev_iload_n dX9_forgetAll_12 rfl ?_
  refine ev_iconst dX9_forgetAll_13 (by decide) ?_
  refine ev_zastG dX9_forgetAll_14 sp53 (by decide) (by decide) h (fun σ1 h => ?_)
  refine ev_iincG dX9_forgetAll_15 rfl h rfl (fun v2 h => ?_)
  show Ev _ _ _ _ 18 _ _ _ [(2, (43 : Int)), (0, v2)] _
  refine ev_goto (tgt := 2) dX9_forgetAll_18 rfl ?_
  obtain rfl := Option.some.inj h
  exact ev_sub (L2 := [(2, (43 : Int)), (0, v2)]) K ⟨.inr rfl, .inr rfl, trivial⟩
set_option maxHeartbeats 4000000 in
set_option maxRecDepth 20000 in
theorem e_X9_forgetAll_2 (σ : Mem) (x1 : Int)  {q : Mem} (h : f_X9_forgetAll_2 σ x1 = some q) : Ev M_X9_forgetAll 181 181 (none, rho, q) 2 181 rho σ [(2, (43 : Int)), (0, x1)] [] := by
  unfold f_X9_forgetAll_2 at h
  obtain ⟨e, hl, h⟩ := bind_of h
  refine loop_ev (K := K_X9_forgetAll_2  (none, rho, q)) (b_X9_forgetAll_2 ) FU (x1, σ) e hl ?_
  show Ev M_X9_forgetAll 181 181 _ 21 181 rho e [(2, (43 : Int)), (9, 0)] []
  replace h : f_X9_forgetAll_21 e = some q := h
  exact ev_sub (L2 := [(2, (43 : Int)), (9, 0)]) (e_X9_forgetAll_21 e h) ⟨.inr rfl, .inl rfl, trivial⟩
set_option maxHeartbeats 4000000 in
set_option maxRecDepth 20000 in
theorem c_X9_forgetAll {σ : Mem}  {q : Mem} (h : f_X9_forgetAll σ  = some q) : Ms yX9_forgetAll M_X9_forgetAll 181 181 [(2, (43 : Int))] rho σ (none, rho, q) := by
  refine Ms.of 1 (by decide +kernel) rfl (fun z => absurd z (by decide)) (fun _ _ _ => trivial) rfl rfl ?_
  unfold f_X9_forgetAll at h
  show Ev M_X9_forgetAll 181 181 _ 0 181 rho σ [(2, (43 : Int)), (9, 0)] []
  refine ev_iconst dX9_forgetAll_0 (by decide) ?_
  refine ev_istore_n dX9_forgetAll_1 rfl (by decide) ?_
  show Ev _ _ _ _ 2 _ _ _ [(2, (43 : Int)), (0, (0 : Int))] _
  exact ev_sub (L2 := [(2, (43 : Int)), (0, (0 : Int))]) (e_X9_forgetAll_2 σ (0 : Int) h) ⟨.inr rfl, .inr rfl, trivial⟩
set_option maxHeartbeats 4000000 in
set_option maxRecDepth 20000 in
theorem c_X10_isDay {σ : Mem} {x0 : Int}  {q : Int} (h : f_X10_isDay σ x0 = some q) : Ms yX10_isDay M_X10_isDay 181 181 [(0, x0)] rho σ (some (0, q), rho, σ) := by
  refine Ms.of 0 (by decide +kernel) rfl (fun z => absurd z (by decide)) (fun _ _ _ => trivial) rfl rfl ?_
  unfold f_X10_isDay at h
  show Ev M_X10_isDay 181 181 _ 0 181 rho σ [(0, x0)] []
  refine ev_iload_n dX10_isDay_0 rfl ?_
  refine ev_if_lt (tgt := 13) dX10_isDay_1 rfl h (fun cb h => ?_) (fun cb h => ?_)
  · refine ev_iconst dX10_isDay_13 (by decide) ?_
    obtain rfl := Option.some.inj h
    exact ev_zret dX10_isDay_14 rfl (chk_pos (.inl rfl))
  refine ev_iload_n dX10_isDay_4 rfl ?_
  refine ev_iconst dX10_isDay_5 (by decide) ?_
  refine ev_icmp_ge (tgt := 13) dX10_isDay_6 rfl h (fun cb h => ?_) (fun cb h => ?_)
  · refine ev_iconst dX10_isDay_13 (by decide) ?_
    obtain rfl := Option.some.inj h
    exact ev_zret dX10_isDay_14 rfl (chk_pos (.inl rfl))
  refine ev_iconst dX10_isDay_9 (by decide) ?_
  refine ev_goto (tgt := 14) dX10_isDay_10 rfl ?_
  obtain rfl := Option.some.inj h
  exact ev_zret dX10_isDay_14 rfl (chk_pos (.inr rfl))
set_option maxHeartbeats 4000000 in
set_option maxRecDepth 20000 in
theorem c_X10_isSlot {σ : Mem} {x0 : Int}  {q : Int} (h : f_X10_isSlot σ x0 = some q) : Ms yX10_isSlot M_X10_isSlot 181 181 [(0, x0)] rho σ (some (0, q), rho, σ) := by
  refine Ms.of 0 (by decide +kernel) rfl (fun z => absurd z (by decide)) (fun _ _ _ => trivial) rfl rfl ?_
  unfold f_X10_isSlot at h
  show Ev M_X10_isSlot 181 181 _ 0 181 rho σ [(0, x0)] []
  refine ev_iload_n dX10_isSlot_0 rfl ?_
  refine ev_if_lt (tgt := 14) dX10_isSlot_1 rfl h (fun cb h => ?_) (fun cb h => ?_)
  · refine ev_iconst dX10_isSlot_14 (by decide) ?_
    obtain rfl := Option.some.inj h
    exact ev_zret dX10_isSlot_15 rfl (chk_pos (.inl rfl))
  refine ev_iload_n dX10_isSlot_4 rfl ?_
  refine ev_bipush dX10_isSlot_5 (by decide) (by decide) ?_
  refine ev_icmp_ge (tgt := 14) dX10_isSlot_7 rfl h (fun cb h => ?_) (fun cb h => ?_)
  · refine ev_iconst dX10_isSlot_14 (by decide) ?_
    obtain rfl := Option.some.inj h
    exact ev_zret dX10_isSlot_15 rfl (chk_pos (.inl rfl))
  refine ev_iconst dX10_isSlot_10 (by decide) ?_
  refine ev_goto (tgt := 15) dX10_isSlot_11 rfl ?_
  obtain rfl := Option.some.inj h
  exact ev_zret dX10_isSlot_15 rfl (chk_pos (.inr rfl))
set_option maxHeartbeats 4000000 in
set_option maxRecDepth 20000 in
theorem c_X10_refuse {σ : Mem} {x1 : Int}  {q : (Int × Mem)} (h : f_X10_refuse σ x1 = some q) : Ms yX10_refuse M_X10_refuse 181 181 [(2, (0 : Int)), (0, x1)] rho σ (some (0, q.1), rho, q.2) := by
  refine Ms.of 1 (by decide +kernel) rfl (fun z => absurd z (by decide)) (fun _ _ _ => trivial) rfl rfl ?_
  unfold f_X10_refuse at h
  show Ev M_X10_refuse 181 181 _ 0 181 rho σ [(2, (0 : Int)), (0, x1), (9, 0)] []
  refine ev_bipush dX10_refuse_0 (by decide) (by decide) ?_
  refine ev_iload_n dX10_refuse_2 rfl ?_
  refine ev_isub dX10_refuse_3 ?_
  refine ev_istore_nG dX10_refuse_4 h rfl (by decide) (fun v1 h => ?_)
  show Ev _ _ _ _ 5 _ _ _ [(2, (0 : Int)), (0, x1), (0, v1)] _
  refine ev_iload_n dX10_refuse_5 rfl ?_
  refine ev_if_lt (tgt := 24) dX10_refuse_6 rfl h (fun cb h => ?_) (fun cb h => ?_)
  · refine ev_iload_n dX10_refuse_24 rfl ?_
    obtain rfl := Option.some.inj h
    dsimp only
    exact ev_iret dX10_refuse_25 rfl rfl
  refine ev_iload_n dX10_refuse_9 rfl ?_
  refine ev_iconst dX10_refuse_10 (by decide) ?_
  refine ev_icmp_ge (tgt := 24) dX10_refuse_11 rfl h (fun cb h => ?_) (fun cb h => ?_)
  · refine ev_iload_n dX10_refuse_24 rfl ?_
    obtain rfl := Option.some.inj h
    dsimp only
    exact ev_iret dX10_refuse_25 rfl rfl
  refine ev_aload_n dX10_refuse_14 rfl (by decide) ?_
  refine ev_getf (j := 6) (t := 2) (x := (34 : Int)) dX10_refuse_15 cf_X10 wf_X10_36 sp0 (by decide) (by decide) rfl (by decide) (rp0_6 _) ?_
  refine ev_iload_n dX10_refuse_18 rfl ?_
  refine ev_dup2 dX10_refuse_19 (show (0 : Nat) ≠ 1 by decide) (show (2 : Nat) ≠ 1 by decide) ?_
  refine ev_iald dX10_refuse_20 sp34 (by decide) (by decide) h (fun h => ?_)
  refine ev_iconst dX10_refuse_21 (by decide) ?_
  refine ev_iadd dX10_refuse_22 ?_
  refine ev_iastG dX10_refuse_23 sp34 (by decide) (by decide) h (fun σ2 h => ?_)
  refine ev_iload_n dX10_refuse_24 rfl ?_
  obtain rfl := Option.some.inj h
  dsimp only
  exact ev_iret dX10_refuse_25 rfl rfl
set_option maxHeartbeats 4000000 in
set_option maxRecDepth 20000 in
theorem e_X10_paper_25 (σ : Mem)  {q : (Int × Mem)} (h : f_X10_paper_25 σ  = some q) : Ev M_X10_paper 181 181 (some (0, q.1), rho, q.2) 25 181 rho σ [(2, (0 : Int)), (9, 0), (9, 0), (9, 0)] [] := by
  unfold f_X10_paper_25 at h
  refine ev_aload_n dX10_paper_25 rfl (by decide) ?_
  refine ev_bipush dX10_paper_26 (by decide) (by decide) ?_
  obtain ⟨v9, hc10, h⟩ := bind_of h
  refine ev_invV_v (k := (0 : Int)) (av := [(0, (-52 : Int))]) (st := []) (v := (0, v9.1)) (τ := v9.2) dX10_paper_28 ml_X10_88 mv_X10_refuse (T := TX10) (ci := 9) rfl sp0 (by decide) (by decide) rfl ⟨Nat.le_of_ble_eq_true rfl, Nat.le_of_ble_eq_true rfl⟩ (Nat.le_of_ble_eq_true rfl) (c_X10_refuse hc10) ?_
  obtain rfl := Option.some.inj h
  dsimp only
  exact ev_iret dX10_paper_31 rfl rfl
set_option maxHeartbeats 4000000 in
set_option maxRecDepth 20000 in
theorem c_X10_paper {σ : Mem} {x1 x2 x3 : Int}  {q : (Int × Mem)} (h : f_X10_paper σ x1 x2 x3 = some q) : Ms yX10_paper M_X10_paper 181 181 [(2, (0 : Int)), (0, x1), (0, x2), (0, x3)] rho σ (some (0, q.1), rho, q.2) := by
  refine Ms.of 0 (by decide +kernel) rfl (fun z => absurd z (by decide)) (fun _ _ _ => trivial) rfl rfl ?_
  unfold f_X10_paper at h
  show Ev M_X10_paper 181 181 _ 0 181 rho σ [(2, (0 : Int)), (0, x1), (0, x2), (0, x3)] []
  refine ev_iload_n dX10_paper_0 rfl ?_
  obtain ⟨v1, hc2, h⟩ := bind_of h
  refine ev_invS_v (av := [(0, x1)]) (st := []) (v := (0, v1)) (τ := σ) dX10_paper_1 ml_X10_150 mt_X10_isDay rfl ⟨Nat.le_of_ble_eq_true rfl, Nat.le_of_ble_eq_true rfl⟩ (Nat.le_of_ble_eq_true rfl) (c_X10_isDay hc2) ?_
  refine ev_if_eq (tgt := 25) dX10_paper_4 rfl h (fun cb h => ?_) (fun cb h => ?_)
  · exact ev_sub (L2 := [(2, (0 : Int)), (9, 0), (9, 0), (9, 0)]) (e_X10_paper_25 σ h) ⟨.inr rfl, .inl rfl, .inl rfl, .inl rfl, trivial⟩
  refine ev_iload_n dX10_paper_7 rfl ?_
  obtain ⟨v3, hc4, h⟩ := bind_of h
  refine ev_invS_v (av := [(0, x2)]) (st := []) (v := (0, v3)) (τ := σ) dX10_paper_8 ml_X10_153 mt_X10_isSlot rfl ⟨Nat.le_of_ble_eq_true rfl, Nat.le_of_ble_eq_true rfl⟩ (Nat.le_of_ble_eq_true rfl) (c_X10_isSlot hc4) ?_
  refine ev_if_eq (tgt := 25) dX10_paper_11 rfl h (fun cb h => ?_) (fun cb h => ?_)
  · exact ev_sub (L2 := [(2, (0 : Int)), (9, 0), (9, 0), (9, 0)]) (e_X10_paper_25 σ h) ⟨.inr rfl, .inl rfl, .inl rfl, .inl rfl, trivial⟩
  refine ev_iload_n dX10_paper_14 rfl ?_
  refine ev_iconst dX10_paper_15 (by decide) ?_
  refine ev_icmp_lt (tgt := 25) dX10_paper_16 rfl h (fun cb h => ?_) (fun cb h => ?_)
  · exact ev_sub (L2 := [(2, (0 : Int)), (9, 0), (9, 0), (9, 0)]) (e_X10_paper_25 σ h) ⟨.inr rfl, .inl rfl, .inl rfl, .inl rfl, trivial⟩
  refine ev_iload_n dX10_paper_19 rfl ?_
  refine ev_bipush dX10_paper_20 (by decide) (by decide) ?_
  refine ev_icmp_le (tgt := 32) dX10_paper_22 rfl h (fun cb h => ?_) (fun cb h => ?_)
  · refine ev_aload_n dX10_paper_32 rfl (by decide) ?_
    refine ev_getf (j := 0) (t := 2) (x := (1 : Int)) dX10_paper_33 cf_X10 wf_X10_12 sp0 (by decide) (by decide) rfl (by decide) (rp0_0 _) ?_
    refine ev_getf (j := 8) (t := 0) (x := (σ (1 : Int) 8)) dX10_paper_36 cf_X0 wf_X10_156 sp1 (by decide) (by decide) rfl (by decide) rfl ?_
    refine ev_bipush dX10_paper_39 (by decide) (by decide) ?_
    refine ev_icmp_lt (tgt := 51) dX10_paper_41 rfl h (fun cb h => ?_) (fun cb h => ?_)
    · refine ev_aload_n dX10_paper_51 rfl (by decide) ?_
      refine ev_getf (j := 0) (t := 2) (x := (1 : Int)) dX10_paper_52 cf_X10 wf_X10_12 sp0 (by decide) (by decide) rfl (by decide) (rp0_0 _) ?_
      refine ev_iload_n dX10_paper_55 rfl ?_
      refine ev_iload_n dX10_paper_56 rfl ?_
      refine ev_iload_n dX10_paper_57 rfl ?_
      obtain ⟨v5, hc6, h⟩ := bind_of h
      refine ev_invV_v (k := (1 : Int)) (av := [(0, x1), (0, x2), (0, x3)]) (st := []) (v := (0, v5.1)) (τ := v5.2) dX10_paper_58 ml_X10_160 mv_X0_addPaper (T := TX0) (ci := 0) rfl sp1 (by decide) (by decide) rfl ⟨Nat.le_of_ble_eq_true rfl, Nat.le_of_ble_eq_true rfl⟩ (Nat.le_of_ble_eq_true rfl) (c_X0_addPaper hB1 hc6) ?_
      obtain rfl := Option.some.inj h
      dsimp only
      exact ev_iret dX10_paper_61 rfl rfl
    refine ev_aload_n dX10_paper_44 rfl (by decide) ?_
    refine ev_bipush dX10_paper_45 (by decide) (by decide) ?_
    obtain ⟨v7, hc8, h⟩ := bind_of h
    refine ev_invV_v (k := (0 : Int)) (av := [(0, (-56 : Int))]) (st := []) (v := (0, v7.1)) (τ := v7.2) dX10_paper_47 ml_X10_88 mv_X10_refuse (T := TX10) (ci := 9) rfl sp0 (by decide) (by decide) rfl ⟨Nat.le_of_ble_eq_true rfl, Nat.le_of_ble_eq_true rfl⟩ (Nat.le_of_ble_eq_true rfl) (c_X10_refuse hc8) ?_
    obtain rfl := Option.some.inj h
    dsimp only
    exact ev_iret dX10_paper_50 rfl rfl
  exact ev_sub (L2 := [(2, (0 : Int)), (9, 0), (9, 0), (9, 0)]) (e_X10_paper_25 σ h) ⟨.inr rfl, .inl rfl, .inl rfl, .inl rfl, trivial⟩
set_option maxHeartbeats 4000000 in
set_option maxRecDepth 20000 in
theorem e_X10_cand_17 (σ : Mem)  {q : (Int × Mem)} (h : f_X10_cand_17 σ  = some q) : Ev M_X10_cand 181 181 (some (0, q.1), rho, q.2) 17 181 rho σ [(2, (0 : Int)), (9, 0), (9, 0), (9, 0)] [] := by
  unfold f_X10_cand_17 at h
  refine ev_aload_n dX10_cand_17 rfl (by decide) ?_
  refine ev_bipush dX10_cand_18 (by decide) (by decide) ?_
  obtain ⟨v10, hc11, h⟩ := bind_of h
  refine ev_invV_v (k := (0 : Int)) (av := [(0, (-52 : Int))]) (st := []) (v := (0, v10.1)) (τ := v10.2) dX10_cand_20 ml_X10_88 mv_X10_refuse (T := TX10) (ci := 9) rfl sp0 (by decide) (by decide) rfl ⟨Nat.le_of_ble_eq_true rfl, Nat.le_of_ble_eq_true rfl⟩ (Nat.le_of_ble_eq_true rfl) (c_X10_refuse hc11) ?_
  obtain rfl := Option.some.inj h
  dsimp only
  exact ev_iret dX10_cand_23 rfl rfl
set_option maxHeartbeats 4000000 in
set_option maxRecDepth 20000 in
theorem c_X10_cand {σ : Mem} {x1 x2 : Int}  {q : (Int × Mem)} (h : f_X10_cand σ x1 x2 = some q) : Ms yX10_cand M_X10_cand 181 181 [(2, (0 : Int)), (0, x1), (0, x2)] rho σ (some (0, q.1), rho, q.2) := by
  refine Ms.of 1 (by decide +kernel) rfl (fun z => absurd z (by decide)) (fun _ _ _ => trivial) rfl rfl ?_
  unfold f_X10_cand at h
  show Ev M_X10_cand 181 181 _ 0 181 rho σ [(2, (0 : Int)), (0, x1), (0, x2), (9, 0)] []
  refine ev_iload_n dX10_cand_0 rfl ?_
  obtain ⟨v1, hc2, h⟩ := bind_of h
  refine ev_invS_v (av := [(0, x1)]) (st := []) (v := (0, v1)) (τ := σ) dX10_cand_1 ml_X10_129 mt_X2_isKind rfl ⟨Nat.le_of_ble_eq_true rfl, Nat.le_of_ble_eq_true rfl⟩ (Nat.le_of_ble_eq_true rfl) (c_X2_isKind hc2) ?_
  refine ev_if_eq (tgt := 17) dX10_cand_4 rfl h (fun cb h => ?_) (fun cb h => ?_)
  · exact ev_sub (L2 := [(2, (0 : Int)), (9, 0), (9, 0), (9, 0)]) (e_X10_cand_17 σ h) ⟨.inr rfl, .inl rfl, .inl rfl, .inl rfl, trivial⟩
  refine ev_iload_n dX10_cand_7 rfl ?_
  refine ev_if_lt (tgt := 17) dX10_cand_8 rfl h (fun cb h => ?_) (fun cb h => ?_)
  · exact ev_sub (L2 := [(2, (0 : Int)), (9, 0), (9, 0), (9, 0)]) (e_X10_cand_17 σ h) ⟨.inr rfl, .inl rfl, .inl rfl, .inl rfl, trivial⟩
  refine ev_iload_n dX10_cand_11 rfl ?_
  refine ev_bipush dX10_cand_12 (by decide) (by decide) ?_
  refine ev_icmp_le (tgt := 24) dX10_cand_14 rfl h (fun cb h => ?_) (fun cb h => ?_)
  · refine ev_aload_n dX10_cand_24 rfl (by decide) ?_
    refine ev_getf (j := 0) (t := 2) (x := (1 : Int)) dX10_cand_25 cf_X10 wf_X10_12 sp0 (by decide) (by decide) rfl (by decide) (rp0_0 _) ?_
    refine ev_getf (j := 9) (t := 0) (x := (σ (1 : Int) 9)) dX10_cand_28 cf_X0 wf_X10_174 sp1 (by decide) (by decide) rfl (by decide) rfl ?_
    refine ev_bipush dX10_cand_31 (by decide) (by decide) ?_
    refine ev_icmp_lt (tgt := 43) dX10_cand_33 rfl h (fun cb h => ?_) (fun cb h => ?_)
    · refine ev_aload_n dX10_cand_43 rfl (by decide) ?_
      refine ev_getf (j := 0) (t := 2) (x := (1 : Int)) dX10_cand_44 cf_X10 wf_X10_12 sp0 (by decide) (by decide) rfl (by decide) (rp0_0 _) ?_
      refine ev_iload_n dX10_cand_47 rfl ?_
      refine ev_iload_n dX10_cand_48 rfl ?_
      obtain ⟨v3, hc4, h⟩ := bind_of h
      refine ev_invV_v (k := (1 : Int)) (av := [(0, x1), (0, x2)]) (st := []) (v := (0, v3.1)) (τ := v3.2) dX10_cand_49 ml_X10_177 mv_X0_addCand (T := TX0) (ci := 0) rfl sp1 (by decide) (by decide) rfl ⟨Nat.le_of_ble_eq_true rfl, Nat.le_of_ble_eq_true rfl⟩ (Nat.le_of_ble_eq_true rfl) (c_X0_addCand hB1 hc4) ?_
      refine ev_istore_nG dX10_cand_52 h rfl (by decide) (fun v5 h => ?_)
      show Ev _ _ _ _ 53 _ _ _ [(2, (0 : Int)), (0, x1), (0, x2), (0, v5)] _
      refine ev_aload_n dX10_cand_53 rfl (by decide) ?_
      refine ev_getf (j := 8) (t := 2) (x := (43 : Int)) dX10_cand_54 cf_X10 wf_X10_50 sp0 (by decide) (by decide) rfl (by decide) (rp0_8 _) ?_
      refine ev_iload_n dX10_cand_57 rfl ?_
      obtain ⟨σ6, hc7, h⟩ := bind_of h
      refine ev_invV_n (k := (43 : Int)) (av := [(0, v5)]) (st := []) (τ := σ6) dX10_cand_58 ml_X10_181 mv_X9_forget (T := TX9) (ci := 8) rfl sp43 (by decide) (by decide) rfl ⟨Nat.le_of_ble_eq_true rfl, Nat.le_of_ble_eq_true rfl⟩ (Nat.le_of_ble_eq_true rfl) (c_X9_forget hc7) ?_
      refine ev_iload_n dX10_cand_61 rfl ?_
      show Ev _ _ _ _ 62 _ _ _ _ _
      obtain rfl := Option.some.inj h
      dsimp only
      exact ev_iret dX10_cand_62 rfl rfl
    refine ev_aload_n dX10_cand_36 rfl (by decide) ?_
    refine ev_bipush dX10_cand_37 (by decide) (by decide) ?_
    obtain ⟨v8, hc9, h⟩ := bind_of h
    refine ev_invV_v (k := (0 : Int)) (av := [(0, (-56 : Int))]) (st := []) (v := (0, v8.1)) (τ := v8.2) dX10_cand_39 ml_X10_88 mv_X10_refuse (T := TX10) (ci := 9) rfl sp0 (by decide) (by decide) rfl ⟨Nat.le_of_ble_eq_true rfl, Nat.le_of_ble_eq_true rfl⟩ (Nat.le_of_ble_eq_true rfl) (c_X10_refuse hc9) ?_
    obtain rfl := Option.some.inj h
    dsimp only
    exact ev_iret dX10_cand_42 rfl rfl
  exact ev_sub (L2 := [(2, (0 : Int)), (9, 0), (9, 0), (9, 0)]) (e_X10_cand_17 σ h) ⟨.inr rfl, .inl rfl, .inl rfl, .inl rfl, trivial⟩
set_option maxHeartbeats 4000000 in
set_option maxRecDepth 20000 in
theorem e_X10_isYesOrNo_9 (σ : Mem)  {q : Int} (h : f_X10_isYesOrNo_9 σ  = some q) : Ev M_X10_isYesOrNo 181 181 (some (0, q), rho, σ) 9 181 rho σ [(9, 0)] [] := by
  unfold f_X10_isYesOrNo_9 at h
  refine ev_iconst dX10_isYesOrNo_9 (by decide) ?_
  refine ev_goto (tgt := 14) dX10_isYesOrNo_10 rfl ?_
  obtain rfl := Option.some.inj h
  exact ev_zret dX10_isYesOrNo_14 rfl (chk_pos (.inr rfl))
set_option maxHeartbeats 4000000 in
set_option maxRecDepth 20000 in
theorem c_X10_isYesOrNo {σ : Mem} {x0 : Int}  {q : Int} (h : f_X10_isYesOrNo σ x0 = some q) : Ms yX10_isYesOrNo M_X10_isYesOrNo 181 181 [(0, x0)] rho σ (some (0, q), rho, σ) := by
  refine Ms.of 0 (by decide +kernel) rfl (fun z => absurd z (by decide)) (fun _ _ _ => trivial) rfl rfl ?_
  unfold f_X10_isYesOrNo at h
  show Ev M_X10_isYesOrNo 181 181 _ 0 181 rho σ [(0, x0)] []
  refine ev_iload_n dX10_isYesOrNo_0 rfl ?_
  refine ev_if_eq (tgt := 9) dX10_isYesOrNo_1 rfl h (fun cb h => ?_) (fun cb h => ?_)
  · exact ev_sub (L2 := [(9, 0)]) (e_X10_isYesOrNo_9 σ h) ⟨.inl rfl, trivial⟩
  refine ev_iload_n dX10_isYesOrNo_4 rfl ?_
  refine ev_iconst dX10_isYesOrNo_5 (by decide) ?_
  refine ev_icmp_ne (tgt := 13) dX10_isYesOrNo_6 rfl h (fun cb h => ?_) (fun cb h => ?_)
  · refine ev_iconst dX10_isYesOrNo_13 (by decide) ?_
    obtain rfl := Option.some.inj h
    exact ev_zret dX10_isYesOrNo_14 rfl (chk_pos (.inl rfl))
  exact ev_sub (L2 := [(9, 0)]) (e_X10_isYesOrNo_9 σ h) ⟨.inl rfl, trivial⟩
set_option maxHeartbeats 4000000 in
set_option maxRecDepth 20000 in
theorem e_X10_takes_30 (σ : Mem)  {q : (Int × Mem)} (h : f_X10_takes_30 σ  = some q) : Ev M_X10_takes 181 181 (some (0, q.1), rho, q.2) 30 181 rho σ [(2, (0 : Int)), (9, 0), (9, 0), (9, 0), (9, 0)] [] := by
  unfold f_X10_takes_30 at h
  refine ev_aload_n dX10_takes_30 rfl (by decide) ?_
  refine ev_bipush dX10_takes_31 (by decide) (by decide) ?_
  obtain ⟨v9, hc10, h⟩ := bind_of h
  refine ev_invV_v (k := (0 : Int)) (av := [(0, (-52 : Int))]) (st := []) (v := (0, v9.1)) (τ := v9.2) dX10_takes_33 ml_X10_88 mv_X10_refuse (T := TX10) (ci := 9) rfl sp0 (by decide) (by decide) rfl ⟨Nat.le_of_ble_eq_true rfl, Nat.le_of_ble_eq_true rfl⟩ (Nat.le_of_ble_eq_true rfl) (c_X10_refuse hc10) ?_
  obtain rfl := Option.some.inj h
  dsimp only
  exact ev_iret dX10_takes_36 rfl rfl
set_option maxHeartbeats 4000000 in
set_option maxRecDepth 20000 in
theorem e_X10_takes_54 (σ : Mem) (x1 x2 x3 s0 : Int)  {q : (Int × Mem)} (h : f_X10_takes_54 σ x1 x2 x3 s0 = some q) : Ev M_X10_takes 181 181 (some (0, q.1), rho, q.2) 54 181 rho σ [(2, (0 : Int)), (0, x1), (0, x2), (0, x3), (9, 0)] [(0, s0)] := by
  unfold f_X10_takes_54 at h
  refine ev_istore dX10_takes_54 rfl (by decide) ?_
  show Ev _ _ _ _ 56 _ _ _ [(2, (0 : Int)), (0, x1), (0, x2), (0, x3), (0, s0)] _
  refine ev_iload_n dX10_takes_56 rfl ?_
  refine ev_iload dX10_takes_57 rfl ?_
  refine ev_icmp_eq (tgt := 98) dX10_takes_59 rfl h (fun cb h => ?_) (fun cb h => ?_)
  · refine ev_iload dX10_takes_98 rfl ?_
    obtain rfl := Option.some.inj h
    dsimp only
    exact ev_iret dX10_takes_100 rfl rfl
  refine ev_aload_n dX10_takes_62 rfl (by decide) ?_
  refine ev_getf (j := 0) (t := 2) (x := (1 : Int)) dX10_takes_63 cf_X10 wf_X10_12 sp0 (by decide) (by decide) rfl (by decide) (rp0_0 _) ?_
  refine ev_iload_n dX10_takes_66 rfl ?_
  refine ev_iload_n dX10_takes_67 rfl ?_
  obtain ⟨v11, hc12, h⟩ := bind_of h
  refine ev_invV_v (k := (1 : Int)) (av := [(0, x1), (0, x2)]) (st := []) (v := (0, v11)) (τ := σ) dX10_takes_68 ml_X10_191 mv_X0_mayFlip (T := TX0) (ci := 0) rfl sp1 (by decide) (by decide) rfl ⟨Nat.le_of_ble_eq_true rfl, Nat.le_of_ble_eq_true rfl⟩ (Nat.le_of_ble_eq_true rfl) (c_X0_mayFlip hB1 hc12) ?_
  refine ev_if_ne (tgt := 81) dX10_takes_71 rfl h (fun cb h => ?_) (fun cb h => ?_)
  · refine ev_aload_n dX10_takes_81 rfl (by decide) ?_
    refine ev_getf (j := 0) (t := 2) (x := (1 : Int)) dX10_takes_82 cf_X10 wf_X10_12 sp0 (by decide) (by decide) rfl (by decide) (rp0_0 _) ?_
    refine ev_iload_n dX10_takes_85 rfl ?_
    refine ev_iload_n dX10_takes_86 rfl ?_
    obtain ⟨σ13, hc14, h⟩ := bind_of h
    refine ev_invV_n (k := (1 : Int)) (av := [(0, x1), (0, x2)]) (st := []) (τ := σ13) dX10_takes_87 ml_X10_194 mv_X0_flip (T := TX0) (ci := 0) rfl sp1 (by decide) (by decide) rfl ⟨Nat.le_of_ble_eq_true rfl, Nat.le_of_ble_eq_true rfl⟩ (Nat.le_of_ble_eq_true rfl) (c_X0_flip hB1 hc14) ?_
    refine ev_aload_n dX10_takes_90 rfl (by decide) ?_
    refine ev_getf (j := 8) (t := 2) (x := (43 : Int)) dX10_takes_91 cf_X10 wf_X10_50 sp0 (by decide) (by decide) rfl (by decide) (rp0_8 _) ?_
    refine ev_iload_n dX10_takes_94 rfl ?_
    obtain ⟨σ15, hc16, h⟩ := bind_of h
    refine ev_invV_n (k := (43 : Int)) (av := [(0, x1)]) (st := []) (τ := σ15) dX10_takes_95 ml_X10_181 mv_X9_forget (T := TX9) (ci := 8) rfl sp43 (by decide) (by decide) rfl ⟨Nat.le_of_ble_eq_true rfl, Nat.le_of_ble_eq_true rfl⟩ (Nat.le_of_ble_eq_true rfl) (c_X9_forget hc16) ?_
    refine ev_iload dX10_takes_98 rfl ?_
    obtain rfl := Option.some.inj h
    dsimp only
    exact ev_iret dX10_takes_100 rfl rfl
  refine ev_aload_n dX10_takes_74 rfl (by decide) ?_
  refine ev_bipush dX10_takes_75 (by decide) (by decide) ?_
  obtain ⟨v17, hc18, h⟩ := bind_of h
  refine ev_invV_v (k := (0 : Int)) (av := [(0, (-55 : Int))]) (st := []) (v := (0, v17.1)) (τ := v17.2) dX10_takes_77 ml_X10_88 mv_X10_refuse (T := TX10) (ci := 9) rfl sp0 (by decide) (by decide) rfl ⟨Nat.le_of_ble_eq_true rfl, Nat.le_of_ble_eq_true rfl⟩ (Nat.le_of_ble_eq_true rfl) (c_X10_refuse hc18) ?_
  obtain rfl := Option.some.inj h
  dsimp only
  exact ev_iret dX10_takes_80 rfl rfl
set_option maxHeartbeats 4000000 in
set_option maxRecDepth 20000 in
theorem c_X10_takes {σ : Mem} {x1 x2 x3 : Int}  {q : (Int × Mem)} (h : f_X10_takes σ x1 x2 x3 = some q) : Ms yX10_takes M_X10_takes 181 181 [(2, (0 : Int)), (0, x1), (0, x2), (0, x3)] rho σ (some (0, q.1), rho, q.2) := by
  refine Ms.of 1 (by decide +kernel) rfl (fun z => absurd z (by decide)) (fun _ _ _ => trivial) rfl rfl ?_
  unfold f_X10_takes at h
  show Ev M_X10_takes 181 181 _ 0 181 rho σ [(2, (0 : Int)), (0, x1), (0, x2), (0, x3), (9, 0)] []
  refine ev_aload_n dX10_takes_0 rfl (by decide) ?_
  refine ev_getf (j := 0) (t := 2) (x := (1 : Int)) dX10_takes_1 cf_X10 wf_X10_12 sp0 (by decide) (by decide) rfl (by decide) (rp0_0 _) ?_
  refine ev_iload_n dX10_takes_4 rfl ?_
  obtain ⟨v1, hc2, h⟩ := bind_of h
  refine ev_invV_v (k := (1 : Int)) (av := [(0, x1)]) (st := []) (v := (0, v1)) (τ := σ) dX10_takes_5 ml_X10_122 mv_X0_hasCand (T := TX0) (ci := 0) rfl sp1 (by decide) (by decide) rfl ⟨Nat.le_of_ble_eq_true rfl, Nat.le_of_ble_eq_true rfl⟩ (Nat.le_of_ble_eq_true rfl) (c_X0_hasCand hB1 hc2) ?_
  refine ev_if_eq (tgt := 30) dX10_takes_8 rfl h (fun cb h => ?_) (fun cb h => ?_)
  · exact ev_sub (L2 := [(2, (0 : Int)), (9, 0), (9, 0), (9, 0), (9, 0)]) (e_X10_takes_30 σ h) ⟨.inr rfl, .inl rfl, .inl rfl, .inl rfl, .inl rfl, trivial⟩
  refine ev_aload_n dX10_takes_11 rfl (by decide) ?_
  refine ev_getf (j := 0) (t := 2) (x := (1 : Int)) dX10_takes_12 cf_X10 wf_X10_12 sp0 (by decide) (by decide) rfl (by decide) (rp0_0 _) ?_
  refine ev_iload_n dX10_takes_15 rfl ?_
  refine ev_i2lk dX10_takes_16 ?_
  obtain ⟨v3, hc4, h⟩ := bind_of h
  refine ev_invV_v (k := (1 : Int)) (av := [(1, x2)]) (st := []) (v := (0, v3)) (τ := σ) dX10_takes_17 ml_X10_164 mv_X0_hasPaper (T := TX0) (ci := 0) rfl sp1 (by decide) (by decide) rfl ⟨Nat.le_of_ble_eq_true rfl, Nat.le_of_ble_eq_true rfl⟩ (Nat.le_of_ble_eq_true rfl) (c_X0_hasPaper hB1 hc4) ?_
  refine ev_if_eq (tgt := 30) dX10_takes_20 rfl h (fun cb h => ?_) (fun cb h => ?_)
  · exact ev_sub (L2 := [(2, (0 : Int)), (9, 0), (9, 0), (9, 0), (9, 0)]) (e_X10_takes_30 σ h) ⟨.inr rfl, .inl rfl, .inl rfl, .inl rfl, .inl rfl, trivial⟩
  refine ev_iload_n dX10_takes_23 rfl ?_
  obtain ⟨v5, hc6, h⟩ := bind_of h
  refine ev_invS_v (av := [(0, x3)]) (st := []) (v := (0, v5)) (τ := σ) dX10_takes_24 ml_X10_185 mt_X10_isYesOrNo rfl ⟨Nat.le_of_ble_eq_true rfl, Nat.le_of_ble_eq_true rfl⟩ (Nat.le_of_ble_eq_true rfl) (c_X10_isYesOrNo hc6) ?_
  refine ev_if_ne (tgt := 37) dX10_takes_27 rfl h (fun cb h => ?_) (fun cb h => ?_)
  · refine ev_aload_n dX10_takes_37 rfl (by decide) ?_
    refine ev_getf (j := 0) (t := 2) (x := (1 : Int)) dX10_takes_38 cf_X10 wf_X10_12 sp0 (by decide) (by decide) rfl (by decide) (rp0_0 _) ?_
    refine ev_iload_n dX10_takes_41 rfl ?_
    refine ev_iload_n dX10_takes_42 rfl ?_
    obtain ⟨v7, hc8, h⟩ := bind_of h
    refine ev_invV_v (k := (1 : Int)) (av := [(0, x1), (0, x2)]) (st := []) (v := (0, v7)) (τ := σ) dX10_takes_43 ml_X10_188 mv_X0_doesTake (T := TX0) (ci := 0) rfl sp1 (by decide) (by decide) rfl ⟨Nat.le_of_ble_eq_true rfl, Nat.le_of_ble_eq_true rfl⟩ (Nat.le_of_ble_eq_true rfl) (c_X0_doesTake hB1 hc8) ?_
    refine ev_if_eq (tgt := 53) dX10_takes_46 rfl h (fun cb h => ?_) (fun cb h => ?_)
    · refine ev_iconst dX10_takes_53 (by decide) ?_
      exact ev_sub (L2 := [(2, (0 : Int)), (0, x1), (0, x2), (0, x3), (9, 0)]) (e_X10_takes_54 σ x1 x2 x3 (0 : Int) h) ⟨.inr rfl, .inr rfl, .inr rfl, .inr rfl, .inl rfl, trivial⟩
    refine ev_iconst dX10_takes_49 (by decide) ?_
    refine ev_goto (tgt := 54) dX10_takes_50 rfl ?_
    exact ev_sub (L2 := [(2, (0 : Int)), (0, x1), (0, x2), (0, x3), (9, 0)]) (e_X10_takes_54 σ x1 x2 x3 (1 : Int) h) ⟨.inr rfl, .inr rfl, .inr rfl, .inr rfl, .inl rfl, trivial⟩
  exact ev_sub (L2 := [(2, (0 : Int)), (9, 0), (9, 0), (9, 0), (9, 0)]) (e_X10_takes_30 σ h) ⟨.inr rfl, .inl rfl, .inl rfl, .inl rfl, .inl rfl, trivial⟩
set_option maxHeartbeats 4000000 in
set_option maxRecDepth 20000 in
theorem e_X10_night_18 (σ : Mem)  {q : (Int × Mem)} (h : f_X10_night_18 σ  = some q) : Ev M_X10_night 181 181 (some (0, q.1), rho, q.2) 18 181 rho σ [(2, (0 : Int)), (9, 0), (9, 0), (9, 0)] [] := by
  unfold f_X10_night_18 at h
  refine ev_aload_n dX10_night_18 rfl (by decide) ?_
  refine ev_bipush dX10_night_19 (by decide) (by decide) ?_
  obtain ⟨v9, hc10, h⟩ := bind_of h
  refine ev_invV_v (k := (0 : Int)) (av := [(0, (-52 : Int))]) (st := []) (v := (0, v9.1)) (τ := v9.2) dX10_night_21 ml_X10_88 mv_X10_refuse (T := TX10) (ci := 9) rfl sp0 (by decide) (by decide) rfl ⟨Nat.le_of_ble_eq_true rfl, Nat.le_of_ble_eq_true rfl⟩ (Nat.le_of_ble_eq_true rfl) (c_X10_refuse hc10) ?_
  obtain rfl := Option.some.inj h
  dsimp only
  exact ev_iret dX10_night_24 rfl rfl
set_option maxHeartbeats 4000000 in
set_option maxRecDepth 20000 in
theorem c_X10_night {σ : Mem} {x1 x2 : Int}  {q : (Int × Mem)} (h : f_X10_night σ x1 x2 = some q) : Ms yX10_night M_X10_night 181 181 [(2, (0 : Int)), (0, x1), (0, x2)] rho σ (some (0, q.1), rho, q.2) := by
  refine Ms.of 1 (by decide +kernel) rfl (fun z => absurd z (by decide)) (fun _ _ _ => trivial) rfl rfl ?_
  unfold f_X10_night at h
  show Ev M_X10_night 181 181 _ 0 181 rho σ [(2, (0 : Int)), (0, x1), (0, x2), (9, 0)] []
  refine ev_aload_n dX10_night_0 rfl (by decide) ?_
  refine ev_getf (j := 0) (t := 2) (x := (1 : Int)) dX10_night_1 cf_X10 wf_X10_12 sp0 (by decide) (by decide) rfl (by decide) (rp0_0 _) ?_
  refine ev_iload_n dX10_night_4 rfl ?_
  obtain ⟨v1, hc2, h⟩ := bind_of h
  refine ev_invV_v (k := (1 : Int)) (av := [(0, x1)]) (st := []) (v := (0, v1)) (τ := σ) dX10_night_5 ml_X10_122 mv_X0_hasCand (T := TX0) (ci := 0) rfl sp1 (by decide) (by decide) rfl ⟨Nat.le_of_ble_eq_true rfl, Nat.le_of_ble_eq_true rfl⟩ (Nat.le_of_ble_eq_true rfl) (c_X0_hasCand hB1 hc2) ?_
  refine ev_if_eq (tgt := 18) dX10_night_8 rfl h (fun cb h => ?_) (fun cb h => ?_)
  · exact ev_sub (L2 := [(2, (0 : Int)), (9, 0), (9, 0), (9, 0)]) (e_X10_night_18 σ h) ⟨.inr rfl, .inl rfl, .inl rfl, .inl rfl, trivial⟩
  refine ev_iload_n dX10_night_11 rfl ?_
  obtain ⟨v3, hc4, h⟩ := bind_of h
  refine ev_invS_v (av := [(0, x2)]) (st := []) (v := (0, v3)) (τ := σ) dX10_night_12 ml_X10_185 mt_X10_isYesOrNo rfl ⟨Nat.le_of_ble_eq_true rfl, Nat.le_of_ble_eq_true rfl⟩ (Nat.le_of_ble_eq_true rfl) (c_X10_isYesOrNo hc4) ?_
  refine ev_if_ne (tgt := 25) dX10_night_15 rfl h (fun cb h => ?_) (fun cb h => ?_)
  · refine ev_aload_n dX10_night_25 rfl (by decide) ?_
    refine ev_getf (j := 0) (t := 2) (x := (1 : Int)) dX10_night_26 cf_X10 wf_X10_12 sp0 (by decide) (by decide) rfl (by decide) (rp0_0 _) ?_
    refine ev_getf (j := 5) (t := 2) (x := (7 : Int)) dX10_night_29 cf_X0 wf_X10_197 sp1 (by decide) (by decide) rfl (by decide) (rp1_5 _) ?_
    refine ev_iload_n dX10_night_32 rfl ?_
    refine ev_iald dX10_night_33 sp7 (by decide) (by decide) h (fun h => ?_)
    refine ev_istore_nG dX10_night_34 h rfl (by decide) (fun v5 h => ?_)
    show Ev _ _ _ _ 35 _ _ _ [(2, (0 : Int)), (0, x1), (0, x2), (0, v5)] _
    refine ev_aload_n dX10_night_35 rfl (by decide) ?_
    refine ev_getf (j := 0) (t := 2) (x := (1 : Int)) dX10_night_36 cf_X10 wf_X10_12 sp0 (by decide) (by decide) rfl (by decide) (rp0_0 _) ?_
    refine ev_getf (j := 5) (t := 2) (x := (7 : Int)) dX10_night_39 cf_X0 wf_X10_197 sp1 (by decide) (by decide) rfl (by decide) (rp1_5 _) ?_
    refine ev_iload_n dX10_night_42 rfl ?_
    refine ev_iload_n dX10_night_43 rfl ?_
    show Ev _ _ _ _ 44 _ _ _ _ _
    refine ev_iastG dX10_night_44 sp7 (by decide) (by decide) h (fun σ6 h => ?_)
    refine ev_aload_n dX10_night_45 rfl (by decide) ?_
    refine ev_getf (j := 8) (t := 2) (x := (43 : Int)) dX10_night_46 cf_X10 wf_X10_50 sp0 (by decide) (by decide) rfl (by decide) (rp0_8 _) ?_
    refine ev_iload_n dX10_night_49 rfl ?_
    obtain ⟨σ7, hc8, h⟩ := bind_of h
    refine ev_invV_n (k := (43 : Int)) (av := [(0, x1)]) (st := []) (τ := σ7) dX10_night_50 ml_X10_181 mv_X9_forget (T := TX9) (ci := 8) rfl sp43 (by decide) (by decide) rfl ⟨Nat.le_of_ble_eq_true rfl, Nat.le_of_ble_eq_true rfl⟩ (Nat.le_of_ble_eq_true rfl) (c_X9_forget hc8) ?_
    refine ev_iload_n dX10_night_53 rfl ?_
    obtain rfl := Option.some.inj h
    dsimp only
    exact ev_iret dX10_night_54 rfl rfl
  exact ev_sub (L2 := [(2, (0 : Int)), (9, 0), (9, 0), (9, 0)]) (e_X10_night_18 σ h) ⟨.inr rfl, .inl rfl, .inl rfl, .inl rfl, trivial⟩
set_option maxHeartbeats 4000000 in
set_option maxRecDepth 20000 in
theorem e_X10_room_11 (σ : Mem)  {q : (Int × Mem)} (h : f_X10_room_11 σ  = some q) : Ev M_X10_room 181 181 (some (0, q.1), rho, q.2) 11 181 rho σ [(2, (0 : Int)), (9, 0)] [] := by
  unfold f_X10_room_11 at h
  refine ev_aload_n dX10_room_11 rfl (by decide) ?_
  refine ev_bipush dX10_room_12 (by decide) (by decide) ?_
  obtain ⟨v7, hc8, h⟩ := bind_of h
  refine ev_invV_v (k := (0 : Int)) (av := [(0, (-52 : Int))]) (st := []) (v := (0, v7.1)) (τ := v7.2) dX10_room_14 ml_X10_88 mv_X10_refuse (T := TX10) (ci := 9) rfl sp0 (by decide) (by decide) rfl ⟨Nat.le_of_ble_eq_true rfl, Nat.le_of_ble_eq_true rfl⟩ (Nat.le_of_ble_eq_true rfl) (c_X10_refuse hc8) ?_
  obtain rfl := Option.some.inj h
  dsimp only
  exact ev_iret dX10_room_17 rfl rfl
set_option maxHeartbeats 4000000 in
set_option maxRecDepth 20000 in
theorem c_X10_room {σ : Mem} {x1 : Int}  {q : (Int × Mem)} (h : f_X10_room σ x1 = some q) : Ms yX10_room M_X10_room 181 181 [(2, (0 : Int)), (0, x1)] rho σ (some (0, q.1), rho, q.2) := by
  refine Ms.of 0 (by decide +kernel) rfl (fun z => absurd z (by decide)) (fun _ _ _ => trivial) rfl rfl ?_
  unfold f_X10_room at h
  show Ev M_X10_room 181 181 _ 0 181 rho σ [(2, (0 : Int)), (0, x1)] []
  refine ev_iload_n dX10_room_0 rfl ?_
  refine ev_iconst dX10_room_1 (by decide) ?_
  refine ev_icmp_lt (tgt := 11) dX10_room_2 rfl h (fun cb h => ?_) (fun cb h => ?_)
  · exact ev_sub (L2 := [(2, (0 : Int)), (9, 0)]) (e_X10_room_11 σ h) ⟨.inr rfl, .inl rfl, trivial⟩
  refine ev_iload_n dX10_room_5 rfl ?_
  refine ev_bipush dX10_room_6 (by decide) (by decide) ?_
  refine ev_icmp_le (tgt := 18) dX10_room_8 rfl h (fun cb h => ?_) (fun cb h => ?_)
  · refine ev_aload_n dX10_room_18 rfl (by decide) ?_
    refine ev_getf (j := 0) (t := 2) (x := (1 : Int)) dX10_room_19 cf_X10 wf_X10_12 sp0 (by decide) (by decide) rfl (by decide) (rp0_0 _) ?_
    refine ev_getf (j := 10) (t := 0) (x := (σ (1 : Int) 10)) dX10_room_22 cf_X0 wf_X10_200 sp1 (by decide) (by decide) rfl (by decide) rfl ?_
    refine ev_bipush dX10_room_25 (by decide) (by decide) ?_
    refine ev_icmp_lt (tgt := 37) dX10_room_27 rfl h (fun cb h => ?_) (fun cb h => ?_)
    · refine ev_aload_n dX10_room_37 rfl (by decide) ?_
      refine ev_getf (j := 8) (t := 2) (x := (43 : Int)) dX10_room_38 cf_X10 wf_X10_50 sp0 (by decide) (by decide) rfl (by decide) (rp0_8 _) ?_
      obtain ⟨σ1, hc2, h⟩ := bind_of h
      refine ev_invV_n (k := (43 : Int)) (av := []) (st := []) (τ := σ1) dX10_room_41 ml_X10_203 mv_X9_forgetOthers (T := TX9) (ci := 8) rfl sp43 (by decide) (by decide) rfl ⟨Nat.le_of_ble_eq_true rfl, Nat.le_of_ble_eq_true rfl⟩ (Nat.le_of_ble_eq_true rfl) (c_X9_forgetOthers hc2) ?_
      refine ev_aload_n dX10_room_44 rfl (by decide) ?_
      refine ev_getf (j := 0) (t := 2) (x := (1 : Int)) dX10_room_45 cf_X10 wf_X10_12 sp0 (by decide) (by decide) rfl (by decide) (rp0_0 _) ?_
      refine ev_iload_n dX10_room_48 rfl ?_
      obtain ⟨v3, hc4, h⟩ := bind_of h
      refine ev_invV_v (k := (1 : Int)) (av := [(0, x1)]) (st := []) (v := (0, v3.1)) (τ := v3.2) dX10_room_49 ml_X10_206 mv_X0_addRoom (T := TX0) (ci := 0) rfl sp1 (by decide) (by decide) rfl ⟨Nat.le_of_ble_eq_true rfl, Nat.le_of_ble_eq_true rfl⟩ (Nat.le_of_ble_eq_true rfl) (c_X0_addRoom hB1 hc4) ?_
      obtain rfl := Option.some.inj h
      dsimp only
      exact ev_iret dX10_room_52 rfl rfl
    refine ev_aload_n dX10_room_30 rfl (by decide) ?_
    refine ev_bipush dX10_room_31 (by decide) (by decide) ?_
    obtain ⟨v5, hc6, h⟩ := bind_of h
    refine ev_invV_v (k := (0 : Int)) (av := [(0, (-56 : Int))]) (st := []) (v := (0, v5.1)) (τ := v5.2) dX10_room_33 ml_X10_88 mv_X10_refuse (T := TX10) (ci := 9) rfl sp0 (by decide) (by decide) rfl ⟨Nat.le_of_ble_eq_true rfl, Nat.le_of_ble_eq_true rfl⟩ (Nat.le_of_ble_eq_true rfl) (c_X10_refuse hc6) ?_
    obtain rfl := Option.some.inj h
    dsimp only
    exact ev_iret dX10_room_36 rfl rfl
  exact ev_sub (L2 := [(2, (0 : Int)), (9, 0)]) (e_X10_room_11 σ h) ⟨.inr rfl, .inl rfl, trivial⟩
set_option maxHeartbeats 4000000 in
set_option maxRecDepth 20000 in
theorem e_X10_hours_12 (σ : Mem)  {q : (Int × Mem)} (h : f_X10_hours_12 σ  = some q) : Ev M_X10_hours 181 181 (some (0, q.1), rho, q.2) 12 181 rho σ [(2, (0 : Int)), (9, 0), (9, 0)] [] := by
  unfold f_X10_hours_12 at h
  refine ev_aload_n dX10_hours_12 rfl (by decide) ?_
  refine ev_bipush dX10_hours_13 (by decide) (by decide) ?_
  obtain ⟨v5, hc6, h⟩ := bind_of h
  refine ev_invV_v (k := (0 : Int)) (av := [(0, (-52 : Int))]) (st := []) (v := (0, v5.1)) (τ := v5.2) dX10_hours_15 ml_X10_88 mv_X10_refuse (T := TX10) (ci := 9) rfl sp0 (by decide) (by decide) rfl ⟨Nat.le_of_ble_eq_true rfl, Nat.le_of_ble_eq_true rfl⟩ (Nat.le_of_ble_eq_true rfl) (c_X10_refuse hc6) ?_
  obtain rfl := Option.some.inj h
  dsimp only
  exact ev_iret dX10_hours_18 rfl rfl
set_option maxHeartbeats 4000000 in
set_option maxRecDepth 20000 in
theorem c_X10_hours {σ : Mem} {x1 : Int}  {q : (Int × Mem)} (h : f_X10_hours σ x1 = some q) : Ms yX10_hours M_X10_hours 181 181 [(2, (0 : Int)), (0, x1)] rho σ (some (0, q.1), rho, q.2) := by
  refine Ms.of 1 (by decide +kernel) rfl (fun z => absurd z (by decide)) (fun _ _ _ => trivial) rfl rfl ?_
  unfold f_X10_hours at h
  show Ev M_X10_hours 181 181 _ 0 181 rho σ [(2, (0 : Int)), (0, x1), (9, 0)] []
  refine ev_iload_n dX10_hours_0 rfl ?_
  refine ev_bipush dX10_hours_1 (by decide) (by decide) ?_
  refine ev_icmp_lt (tgt := 12) dX10_hours_3 rfl h (fun cb h => ?_) (fun cb h => ?_)
  · exact ev_sub (L2 := [(2, (0 : Int)), (9, 0), (9, 0)]) (e_X10_hours_12 σ h) ⟨.inr rfl, .inl rfl, .inl rfl, trivial⟩
  refine ev_iload_n dX10_hours_6 rfl ?_
  refine ev_bipush dX10_hours_7 (by decide) (by decide) ?_
  refine ev_icmp_le (tgt := 19) dX10_hours_9 rfl h (fun cb h => ?_) (fun cb h => ?_)
  · refine ev_aload_n dX10_hours_19 rfl (by decide) ?_
    refine ev_getf (j := 0) (t := 2) (x := (1 : Int)) dX10_hours_20 cf_X10 wf_X10_12 sp0 (by decide) (by decide) rfl (by decide) (rp0_0 _) ?_
    refine ev_getf (j := 11) (t := 0) (x := (σ (1 : Int) 11)) dX10_hours_23 cf_X0 wf_X10_209 sp1 (by decide) (by decide) rfl (by decide) rfl ?_
    refine ev_istore_nG dX10_hours_26 h rfl (by decide) (fun v1 h => ?_)
    show Ev _ _ _ _ 27 _ _ _ [(2, (0 : Int)), (0, x1), (0, v1)] _
    refine ev_aload_n dX10_hours_27 rfl (by decide) ?_
    refine ev_getf (j := 0) (t := 2) (x := (1 : Int)) dX10_hours_28 cf_X10 wf_X10_12 sp0 (by decide) (by decide) rfl (by decide) (rp0_0 _) ?_
    refine ev_iload_n dX10_hours_31 rfl ?_
    refine ev_putfG (j := 11) (t := 0) dX10_hours_32 cf_X0 wf_X10_209 sp1 (by decide) (by decide) rfl (by decide) (by decide) rfl (fun z => absurd z (by decide +kernel)) h (fun σ2 h => ?_)
    refine ev_aload_n dX10_hours_35 rfl (by decide) ?_
    refine ev_getf (j := 8) (t := 2) (x := (43 : Int)) dX10_hours_36 cf_X10 wf_X10_50 sp0 (by decide) (by decide) rfl (by decide) (rp0_8 _) ?_
    obtain ⟨σ3, hc4, h⟩ := bind_of h
    refine ev_invV_n (k := (43 : Int)) (av := []) (st := []) (τ := σ3) dX10_hours_39 ml_X10_171 mv_X9_forgetAll (T := TX9) (ci := 8) rfl sp43 (by decide) (by decide) rfl ⟨Nat.le_of_ble_eq_true rfl, Nat.le_of_ble_eq_true rfl⟩ (Nat.le_of_ble_eq_true rfl) (c_X9_forgetAll hc4) ?_
    show Ev _ _ _ _ 42 _ _ _ _ _
    refine ev_iload_n dX10_hours_42 rfl ?_
    obtain rfl := Option.some.inj h
    dsimp only
    exact ev_iret dX10_hours_43 rfl rfl
  exact ev_sub (L2 := [(2, (0 : Int)), (9, 0), (9, 0)]) (e_X10_hours_12 σ h) ⟨.inr rfl, .inl rfl, .inl rfl, trivial⟩
set_option maxHeartbeats 4000000 in
set_option maxRecDepth 20000 in
theorem e_X10_turn_10 (σ : Mem)  {q : (Int × Mem)} (h : f_X10_turn_10 σ  = some q) : Ev M_X10_turn 181 181 (some (0, q.1), rho, q.2) 10 181 rho σ [(2, (0 : Int)), (9, 0), (9, 0)] [] := by
  unfold f_X10_turn_10 at h
  refine ev_aload_n dX10_turn_10 rfl (by decide) ?_
  refine ev_bipush dX10_turn_11 (by decide) (by decide) ?_
  obtain ⟨v5, hc6, h⟩ := bind_of h
  refine ev_invV_v (k := (0 : Int)) (av := [(0, (-52 : Int))]) (st := []) (v := (0, v5.1)) (τ := v5.2) dX10_turn_13 ml_X10_88 mv_X10_refuse (T := TX10) (ci := 9) rfl sp0 (by decide) (by decide) rfl ⟨Nat.le_of_ble_eq_true rfl, Nat.le_of_ble_eq_true rfl⟩ (Nat.le_of_ble_eq_true rfl) (c_X10_refuse hc6) ?_
  obtain rfl := Option.some.inj h
  dsimp only
  exact ev_iret dX10_turn_16 rfl rfl
set_option maxHeartbeats 4000000 in
set_option maxRecDepth 20000 in
theorem c_X10_turn {σ : Mem} {x1 : Int}  {q : (Int × Mem)} (h : f_X10_turn σ x1 = some q) : Ms yX10_turn M_X10_turn 181 181 [(2, (0 : Int)), (0, x1)] rho σ (some (0, q.1), rho, q.2) := by
  refine Ms.of 1 (by decide +kernel) rfl (fun z => absurd z (by decide)) (fun _ _ _ => trivial) rfl rfl ?_
  unfold f_X10_turn at h
  show Ev M_X10_turn 181 181 _ 0 181 rho σ [(2, (0 : Int)), (0, x1), (9, 0)] []
  refine ev_iload_n dX10_turn_0 rfl ?_
  refine ev_if_lt (tgt := 10) dX10_turn_1 rfl h (fun cb h => ?_) (fun cb h => ?_)
  · exact ev_sub (L2 := [(2, (0 : Int)), (9, 0), (9, 0)]) (e_X10_turn_10 σ h) ⟨.inr rfl, .inl rfl, .inl rfl, trivial⟩
  refine ev_iload_n dX10_turn_4 rfl ?_
  refine ev_bipush dX10_turn_5 (by decide) (by decide) ?_
  refine ev_icmp_le (tgt := 17) dX10_turn_7 rfl h (fun cb h => ?_) (fun cb h => ?_)
  · refine ev_aload_n dX10_turn_17 rfl (by decide) ?_
    refine ev_getf (j := 0) (t := 2) (x := (1 : Int)) dX10_turn_18 cf_X10 wf_X10_12 sp0 (by decide) (by decide) rfl (by decide) (rp0_0 _) ?_
    refine ev_getf (j := 12) (t := 0) (x := (σ (1 : Int) 12)) dX10_turn_21 cf_X0 wf_X10_212 sp1 (by decide) (by decide) rfl (by decide) rfl ?_
    refine ev_istore_nG dX10_turn_24 h rfl (by decide) (fun v1 h => ?_)
    show Ev _ _ _ _ 25 _ _ _ [(2, (0 : Int)), (0, x1), (0, v1)] _
    refine ev_aload_n dX10_turn_25 rfl (by decide) ?_
    refine ev_getf (j := 0) (t := 2) (x := (1 : Int)) dX10_turn_26 cf_X10 wf_X10_12 sp0 (by decide) (by decide) rfl (by decide) (rp0_0 _) ?_
    refine ev_iload_n dX10_turn_29 rfl ?_
    refine ev_putfG (j := 12) (t := 0) dX10_turn_30 cf_X0 wf_X10_212 sp1 (by decide) (by decide) rfl (by decide) (by decide) rfl (fun z => absurd z (by decide +kernel)) h (fun σ2 h => ?_)
    refine ev_aload_n dX10_turn_33 rfl (by decide) ?_
    refine ev_getf (j := 8) (t := 2) (x := (43 : Int)) dX10_turn_34 cf_X10 wf_X10_50 sp0 (by decide) (by decide) rfl (by decide) (rp0_8 _) ?_
    obtain ⟨σ3, hc4, h⟩ := bind_of h
    refine ev_invV_n (k := (43 : Int)) (av := []) (st := []) (τ := σ3) dX10_turn_37 ml_X10_203 mv_X9_forgetOthers (T := TX9) (ci := 8) rfl sp43 (by decide) (by decide) rfl ⟨Nat.le_of_ble_eq_true rfl, Nat.le_of_ble_eq_true rfl⟩ (Nat.le_of_ble_eq_true rfl) (c_X9_forgetOthers hc4) ?_
    show Ev _ _ _ _ 40 _ _ _ _ _
    refine ev_iload_n dX10_turn_40 rfl ?_
    obtain rfl := Option.some.inj h
    dsimp only
    exact ev_iret dX10_turn_41 rfl rfl
  exact ev_sub (L2 := [(2, (0 : Int)), (9, 0), (9, 0)]) (e_X10_turn_10 σ h) ⟨.inr rfl, .inl rfl, .inl rfl, trivial⟩
set_option maxHeartbeats 4000000 in
set_option maxRecDepth 20000 in
theorem c_X10_candOf {σ : Mem} {x1 x2 : Int}  {q : (Int × Mem)} (h : f_X10_candOf σ x1 x2 = some q) : Ms yX10_candOf M_X10_candOf 181 181 [(2, (0 : Int)), (0, x1), (0, x2)] rho σ (some (0, q.1), rho, q.2) := by
  refine Ms.of 0 (by decide +kernel) rfl (fun z => absurd z (by decide)) (fun _ _ _ => trivial) rfl rfl ?_
  unfold f_X10_candOf at h
  show Ev M_X10_candOf 181 181 _ 0 181 rho σ [(2, (0 : Int)), (0, x1), (0, x2)] []
  refine ev_aload_n dX10_candOf_0 rfl (by decide) ?_
  refine ev_getf (j := 0) (t := 2) (x := (1 : Int)) dX10_candOf_1 cf_X10 wf_X10_12 sp0 (by decide) (by decide) rfl (by decide) (rp0_0 _) ?_
  refine ev_iload_n dX10_candOf_4 rfl ?_
  obtain ⟨v1, hc2, h⟩ := bind_of h
  refine ev_invV_v (k := (1 : Int)) (av := [(0, x1)]) (st := []) (v := (0, v1)) (τ := σ) dX10_candOf_5 ml_X10_122 mv_X0_hasCand (T := TX0) (ci := 0) rfl sp1 (by decide) (by decide) rfl ⟨Nat.le_of_ble_eq_true rfl, Nat.le_of_ble_eq_true rfl⟩ (Nat.le_of_ble_eq_true rfl) (c_X0_hasCand hB1 hc2) ?_
  refine ev_if_ne (tgt := 18) dX10_candOf_8 rfl h (fun cb h => ?_) (fun cb h => ?_)
  · refine ev_iload_n dX10_candOf_18 rfl ?_
    refine ev_by h (fun cs h => ?_) (fun cs0 h => ?_)
    · refine ev_tswIn (off := 37) (tgt := 56) dX10_candOf_19 (by rw [cs]; decide) (by rw [cs]; decide) (by rw [cs]; rfl) rfl ?_
      refine ev_aload_n dX10_candOf_56 rfl (by decide) ?_
      refine ev_getf (j := 0) (t := 2) (x := (1 : Int)) dX10_candOf_57 cf_X10 wf_X10_12 sp0 (by decide) (by decide) rfl (by decide) (rp0_0 _) ?_
      refine ev_getf (j := 3) (t := 2) (x := (5 : Int)) dX10_candOf_60 cf_X0 wf_X10_137 sp1 (by decide) (by decide) rfl (by decide) (rp1_3 _) ?_
      refine ev_iload_n dX10_candOf_63 rfl ?_
      refine ev_iald dX10_candOf_64 sp5 (by decide) (by decide) h (fun h => ?_)
      obtain rfl := Option.some.inj h
      dsimp only
      exact ev_iret dX10_candOf_65 rfl rfl
    refine ev_by h (fun cs h => ?_) (fun cs1 h => ?_)
    · refine ev_tswIn (off := 47) (tgt := 66) dX10_candOf_19 (by rw [cs]; decide) (by rw [cs]; decide) (by rw [cs]; rfl) rfl ?_
      refine ev_aload_n dX10_candOf_66 rfl (by decide) ?_
      refine ev_getf (j := 0) (t := 2) (x := (1 : Int)) dX10_candOf_67 cf_X10 wf_X10_12 sp0 (by decide) (by decide) rfl (by decide) (rp0_0 _) ?_
      refine ev_getf (j := 4) (t := 2) (x := (6 : Int)) dX10_candOf_70 cf_X0 wf_X10_143 sp1 (by decide) (by decide) rfl (by decide) (rp1_4 _) ?_
      refine ev_iload_n dX10_candOf_73 rfl ?_
      refine ev_iald dX10_candOf_74 sp6 (by decide) (by decide) h (fun h => ?_)
      obtain rfl := Option.some.inj h
      dsimp only
      exact ev_iret dX10_candOf_75 rfl rfl
    refine ev_by h (fun cs h => ?_) (fun cs2 h => ?_)
    · refine ev_tswIn (off := 57) (tgt := 76) dX10_candOf_19 (by rw [cs]; decide) (by rw [cs]; decide) (by rw [cs]; rfl) rfl ?_
      refine ev_aload_n dX10_candOf_76 rfl (by decide) ?_
      refine ev_getf (j := 0) (t := 2) (x := (1 : Int)) dX10_candOf_77 cf_X10 wf_X10_12 sp0 (by decide) (by decide) rfl (by decide) (rp0_0 _) ?_
      refine ev_getf (j := 5) (t := 2) (x := (7 : Int)) dX10_candOf_80 cf_X0 wf_X10_197 sp1 (by decide) (by decide) rfl (by decide) (rp1_5 _) ?_
      refine ev_iload_n dX10_candOf_83 rfl ?_
      refine ev_iald dX10_candOf_84 sp7 (by decide) (by decide) h (fun h => ?_)
      obtain rfl := Option.some.inj h
      dsimp only
      exact ev_iret dX10_candOf_85 rfl rfl
    refine ev_by h (fun cs h => ?_) (fun cs3 h => ?_)
    · refine ev_tswIn (off := 67) (tgt := 86) dX10_candOf_19 (by rw [cs]; decide) (by rw [cs]; decide) (by rw [cs]; rfl) rfl ?_
      refine ev_aload_n dX10_candOf_86 rfl (by decide) ?_
      refine ev_getf (j := 0) (t := 2) (x := (1 : Int)) dX10_candOf_87 cf_X10 wf_X10_12 sp0 (by decide) (by decide) rfl (by decide) (rp0_0 _) ?_
      refine ev_getf (j := 6) (t := 2) (x := (8 : Int)) dX10_candOf_90 cf_X0 wf_X10_237 sp1 (by decide) (by decide) rfl (by decide) (rp1_6 _) ?_
      refine ev_iload_n dX10_candOf_93 rfl ?_
      refine ev_iald dX10_candOf_94 sp8 (by decide) (by decide) h (fun h => ?_)
      obtain rfl := Option.some.inj h
      dsimp only
      exact ev_iret dX10_candOf_95 rfl rfl
    refine ev_by h (fun cs h => ?_) (fun cs4 h => ?_)
    · refine ev_tswIn (off := 77) (tgt := 96) dX10_candOf_19 (by rw [cs]; decide) (by rw [cs]; decide) (by rw [cs]; rfl) rfl ?_
      refine ev_aload_n dX10_candOf_96 rfl (by decide) ?_
      refine ev_getf (j := 0) (t := 2) (x := (1 : Int)) dX10_candOf_97 cf_X10 wf_X10_12 sp0 (by decide) (by decide) rfl (by decide) (rp0_0 _) ?_
      refine ev_iload_n dX10_candOf_100 rfl ?_
      obtain ⟨v3, hc4, h⟩ := bind_of h
      refine ev_invV_v (k := (1 : Int)) (av := [(0, x1)]) (st := []) (v := (0, v3)) (τ := σ) dX10_candOf_101 ml_X10_240 mv_X0_restFor (T := TX0) (ci := 0) rfl sp1 (by decide) (by decide) rfl ⟨Nat.le_of_ble_eq_true rfl, Nat.le_of_ble_eq_true rfl⟩ (Nat.le_of_ble_eq_true rfl) (c_X0_restFor hB1 hc4) ?_
      obtain rfl := Option.some.inj h
      dsimp only
      exact ev_iret dX10_candOf_104 rfl rfl
    refine ev_by h (fun cs h => ?_) (fun cs5 h => ?_)
    · refine ev_tswIn (off := 86) (tgt := 105) dX10_candOf_19 (by rw [cs]; decide) (by rw [cs]; decide) (by rw [cs]; rfl) rfl ?_
      refine ev_aload_n dX10_candOf_105 rfl (by decide) ?_
      refine ev_getf (j := 8) (t := 2) (x := (43 : Int)) dX10_candOf_106 cf_X10 wf_X10_50 sp0 (by decide) (by decide) rfl (by decide) (rp0_8 _) ?_
      refine ev_aload_n dX10_candOf_109 rfl (by decide) ?_
      refine ev_getf (j := 0) (t := 2) (x := (1 : Int)) dX10_candOf_110 cf_X10 wf_X10_12 sp0 (by decide) (by decide) rfl (by decide) (rp0_0 _) ?_
      refine ev_iload_n dX10_candOf_113 rfl ?_
      obtain ⟨v5, hc6, h⟩ := bind_of h
      refine ev_invV_v (k := (43 : Int)) (av := [(2, (1 : Int)), (0, x1)]) (st := []) (v := (2, v5.1)) (τ := v5.2) dX10_candOf_114 ml_X10_243 mv_X9_of (T := TX9) (ci := 8) rfl sp43 (by decide) (by decide) rfl ⟨Nat.le_of_ble_eq_true rfl, Nat.le_of_ble_eq_true rfl⟩ (Nat.le_of_ble_eq_true rfl) (c_X9_of hc6) ?_
      have hw7 := w_X9_of hc6
      obtain ⟨v8, hc9, h⟩ := bind_of h
      refine ev_invV_v (k := v5.1) (av := []) (st := []) (v := (0, v8)) (τ := v5.2) dX10_candOf_117 ml_X10_247 mv_X8_cants (T := TX8) (ci := 7) rfl (sW hw7) (pW hw7).1 (pW hw7).2 rfl ⟨Nat.le_of_ble_eq_true rfl, Nat.le_of_ble_eq_true rfl⟩ (Nat.le_of_ble_eq_true rfl) (c_X8_cants hw7 hc9) ?_
      obtain rfl := Option.some.inj h
      dsimp only
      exact ev_iret dX10_candOf_120 rfl rfl
    refine ev_tswOut (tgt := 121) dX10_candOf_19 (by omega) rfl ?_
    refine ev_aload_n dX10_candOf_121 rfl (by decide) ?_
    refine ev_bipush dX10_candOf_122 (by decide) (by decide) ?_
    obtain ⟨v10, hc11, h⟩ := bind_of h
    refine ev_invV_v (k := (0 : Int)) (av := [(0, (-52 : Int))]) (st := []) (v := (0, v10.1)) (τ := v10.2) dX10_candOf_124 ml_X10_88 mv_X10_refuse (T := TX10) (ci := 9) rfl sp0 (by decide) (by decide) rfl ⟨Nat.le_of_ble_eq_true rfl, Nat.le_of_ble_eq_true rfl⟩ (Nat.le_of_ble_eq_true rfl) (c_X10_refuse hc11) ?_
    obtain rfl := Option.some.inj h
    dsimp only
    exact ev_iret dX10_candOf_127 rfl rfl
  refine ev_aload_n dX10_candOf_11 rfl (by decide) ?_
  refine ev_bipush dX10_candOf_12 (by decide) (by decide) ?_
  obtain ⟨v12, hc13, h⟩ := bind_of h
  refine ev_invV_v (k := (0 : Int)) (av := [(0, (-52 : Int))]) (st := []) (v := (0, v12.1)) (τ := v12.2) dX10_candOf_14 ml_X10_88 mv_X10_refuse (T := TX10) (ci := 9) rfl sp0 (by decide) (by decide) rfl ⟨Nat.le_of_ble_eq_true rfl, Nat.le_of_ble_eq_true rfl⟩ (Nat.le_of_ble_eq_true rfl) (c_X10_refuse hc13) ?_
  obtain rfl := Option.some.inj h
  dsimp only
  exact ev_iret dX10_candOf_17 rfl rfl
def K_X10_takersOf_4 (σ : Mem) (x1 : Int) (r : Option V × Mem × Mem) : (Int × Int) ⊕ ((Int)) → Prop := Sum.elim (fun a => Ev M_X10_takersOf 181 181 r 4 181 rho σ [(2, (0 : Int)), (0, x1), (0, a.1), (0, a.2)] []) (fun e => Ev M_X10_takersOf 181 181 r 36 181 rho σ [(9, 0), (9, 0), (0, e), (9, 0)] [])
set_option maxHeartbeats 4000000 in
set_option maxRecDepth 20000 in
theorem e_X10_takersOf_30 (σ : Mem) (x1 x2 x3 : Int)  {q : ((Int × Int) ⊕ ((Int)))} (h : f_X10_takersOf_30 σ x1 x2 x3 = some q) {r : Option V × Mem × Mem} (K : K_X10_takersOf_4 σ x1 r q) : Ev M_X10_takersOf 181 181 r 30 181 rho σ [(2, (0 : Int)), (0, x1), (0, x2), (0, x3)] [] := by
  unfold f_X10_takersOf_30 at h
  refine ev_iincG dX10_takersOf_30 rfl h rfl (fun v4 h => ?_)
  show Ev _ _ _ _ 33 _ _ _ [(2, (0 : Int)), (0, x1), (0, x2), (0, v4)] _
  refine ev_goto (tgt := 4) dX10_takersOf_33 rfl ?_
  obtain rfl := Option.some.inj h
  exact ev_sub (L2 := [(2, (0 : Int)), (0, x1), (0, x2), (0, v4)]) K ⟨.inr rfl, .inr rfl, .inr rfl, .inr rfl, trivial⟩
set_option maxHeartbeats 4000000 in
set_option maxRecDepth 20000 in
theorem b_X10_takersOf_4 (σ : Mem) (x1 : Int)  {r : Option V × Mem × Mem} : ∀ a x, f_X10_takersOf_4B σ x1 a = some x → K_X10_takersOf_4 σ x1 r x → K_X10_takersOf_4 σ x1 r (.inl a) := by
  intro a x h K
  obtain ⟨x2, x3⟩ := a
  have h : f_X10_takersOf_4C σ x1 x2 x3 = some x := h
  unfold f_X10_takersOf_4C at h
  show Ev M_X10_takersOf 181 181 r 4 181 rho σ [(2, (0 : Int)), (0, x1), (0, x2), (0, x3)] []
  refine ev_iload_n dX10_takersOf_4 rfl ?_
  refine ev_aload_n dX10_takersOf_5 rfl (by decide) ?_
  refine ev_getf (j := 0) (t := 2) (x := (1 : Int)) dX10_takersOf_6 cf_X10 wf_X10_12 sp0 (by decide) (by decide) rfl (by decide) (rp0_0 _) ?_
  refine ev_getf (j := 9) (t := 0) (x := (σ (1 : Int) 9)) dX10_takersOf_9 cf_X0 wf_X10_174 sp1 (by decide) (by decide) rfl (by decide) rfl ?_
  refine ev_icmp_ge (tgt := 36) dX10_takersOf_12 rfl h (fun cb h => ?_) (fun cb h => ?_)
  · obtain rfl := Option.some.inj h
    exact ev_sub (L2 := [(9, 0), (9, 0), (0, x2), (9, 0)]) K ⟨.inl rfl, .inl rfl, .inr rfl, .inl rfl, trivial⟩
  refine ev_aload_n dX10_takersOf_15 rfl (by decide) ?_
  refine ev_getf (j := 0) (t := 2) (x := (1 : Int)) dX10_takersOf_16 cf_X10 wf_X10_12 sp0 (by decide) (by decide) rfl (by decide) (rp0_0 _) ?_
  refine ev_iload_n dX10_takersOf_19 rfl ?_
  refine ev_iload_n dX10_takersOf_20 rfl ?_
  obtain ⟨v1, hc2, h⟩ := bind_of h
  refine ev_invV_v (k := (1 : Int)) (av := [(0, x3), (0, x1)]) (st := []) (v := (0, v1)) (τ := σ) dX10_takersOf_21 ml_X10_188 mv_X0_doesTake (T := TX0) (ci := 0) rfl sp1 (by decide) (by decide) rfl ⟨Nat.le_of_ble_eq_true rfl, Nat.le_of_ble_eq_true rfl⟩ (Nat.le_of_ble_eq_true rfl) (c_X0_doesTake hB1 hc2) ?_
  refine ev_if_eq (tgt := 30) dX10_takersOf_24 rfl h (fun cb h => ?_) (fun cb h => ?_)
  · exact ev_sub (L2 := [(2, (0 : Int)), (0, x1), (0, x2), (0, x3)]) (e_X10_takersOf_30 σ x1 x2 x3 h K) ⟨.inr rfl, .inr rfl, .inr rfl, .inr rfl, trivial⟩
  refine ev_iincG dX10_takersOf_27 rfl h rfl (fun v3 h => ?_)
  show Ev _ _ _ _ 30 _ _ _ [(2, (0 : Int)), (0, x1), (0, v3), (0, x3)] _
  exact ev_sub (L2 := [(2, (0 : Int)), (0, x1), (0, v3), (0, x3)]) (e_X10_takersOf_30 σ x1 v3 x3 h K) ⟨.inr rfl, .inr rfl, .inr rfl, .inr rfl, trivial⟩
set_option maxHeartbeats 4000000 in
set_option maxRecDepth 20000 in
theorem e_X10_takersOf_4 (σ : Mem) (x1 x2 x3 : Int)  {q : Int} (h : f_X10_takersOf_4 σ x1 x2 x3 = some q) : Ev M_X10_takersOf 181 181 (some (0, q), rho, σ) 4 181 rho σ [(2, (0 : Int)), (0, x1), (0, x2), (0, x3)] [] := by
  unfold f_X10_takersOf_4 at h
  obtain ⟨e, hl, h⟩ := bind_of h
  refine loop_ev (K := K_X10_takersOf_4 σ x1 (some (0, q), rho, σ)) (b_X10_takersOf_4 σ x1) FU (x2, x3) e hl ?_
  show Ev M_X10_takersOf 181 181 _ 36 181 rho σ [(9, 0), (9, 0), (0, e), (9, 0)] []
  replace h : some e = some q := h
  refine ev_iload_n dX10_takersOf_36 rfl ?_
  obtain rfl := Option.some.inj h
  exact ev_iret dX10_takersOf_37 rfl rfl
set_option maxHeartbeats 4000000 in
set_option maxRecDepth 20000 in
theorem c_X10_takersOf {σ : Mem} {x1 : Int}  {q : Int} (h : f_X10_takersOf σ x1 = some q) : Ms yX10_takersOf M_X10_takersOf 181 181 [(2, (0 : Int)), (0, x1)] rho σ (some (0, q), rho, σ) := by
  refine Ms.of 2 (by decide +kernel) rfl (fun z => absurd z (by decide)) (fun _ _ _ => trivial) rfl rfl ?_
  unfold f_X10_takersOf at h
  show Ev M_X10_takersOf 181 181 _ 0 181 rho σ [(2, (0 : Int)), (0, x1), (9, 0), (9, 0)] []
  refine ev_iconst dX10_takersOf_0 (by decide) ?_
  refine ev_istore_n dX10_takersOf_1 rfl (by decide) ?_
  show Ev _ _ _ _ 2 _ _ _ [(2, (0 : Int)), (0, x1), (0, (0 : Int)), (9, 0)] _
  refine ev_iconst dX10_takersOf_2 (by decide) ?_
  refine ev_istore_n dX10_takersOf_3 rfl (by decide) ?_
  show Ev _ _ _ _ 4 _ _ _ [(2, (0 : Int)), (0, x1), (0, (0 : Int)), (0, (0 : Int))] _
  exact ev_sub (L2 := [(2, (0 : Int)), (0, x1), (0, (0 : Int)), (0, (0 : Int))]) (e_X10_takersOf_4 σ x1 (0 : Int) (0 : Int) h) ⟨.inr rfl, .inr rfl, .inr rfl, .inr rfl, trivial⟩
def K_X10_lateOnesOf_4 (x1 : Int) (r : Option V × Mem × Mem) : (Int × Int × Mem) ⊕ ((Int × Mem)) → Prop := Sum.elim (fun a => Ev M_X10_lateOnesOf 181 181 r 4 181 rho a.2.2 [(2, (0 : Int)), (0, x1), (0, a.1), (0, a.2.1)] []) (fun e => Ev M_X10_lateOnesOf 181 181 r 47 181 rho e.2 [(9, 0), (9, 0), (0, e.1), (9, 0)] [])
set_option maxHeartbeats 4000000 in
set_option maxRecDepth 20000 in
theorem e_X10_lateOnesOf_41 (σ : Mem) (x1 x2 x3 : Int)  {q : ((Int × Int × Mem) ⊕ ((Int × Mem)))} (h : f_X10_lateOnesOf_41 σ x1 x2 x3 = some q) {r : Option V × Mem × Mem} (K : K_X10_lateOnesOf_4 x1 r q) : Ev M_X10_lateOnesOf 181 181 r 41 181 rho σ [(2, (0 : Int)), (0, x1), (0, x2), (0, x3)] [] := by
  unfold f_X10_lateOnesOf_41 at h
  refine ev_iincG dX10_lateOnesOf_41 rfl h rfl (fun v7 h => ?_)
  show Ev _ _ _ _ 44 _ _ _ [(2, (0 : Int)), (0, x1), (0, x2), (0, v7)] _
  refine ev_goto (tgt := 4) dX10_lateOnesOf_44 rfl ?_
  obtain rfl := Option.some.inj h
  exact ev_sub (L2 := [(2, (0 : Int)), (0, x1), (0, x2), (0, v7)]) K ⟨.inr rfl, .inr rfl, .inr rfl, .inr rfl, trivial⟩
set_option maxHeartbeats 4000000 in
set_option maxRecDepth 20000 in
theorem b_X10_lateOnesOf_4 (x1 : Int)  {r : Option V × Mem × Mem} : ∀ a x, f_X10_lateOnesOf_4B x1 a = some x → K_X10_lateOnesOf_4 x1 r x → K_X10_lateOnesOf_4 x1 r (.inl a) := by
  intro a x h K
  obtain ⟨x2, x3, σ⟩ := a
  have h : f_X10_lateOnesOf_4C x1 x2 x3 σ = some x := h
  unfold f_X10_lateOnesOf_4C at h
  show Ev M_X10_lateOnesOf 181 181 r 4 181 rho σ [(2, (0 : Int)), (0, x1), (0, x2), (0, x3)] []
  refine ev_iload_n dX10_lateOnesOf_4 rfl ?_
  refine ev_aload_n dX10_lateOnesOf_5 rfl (by decide) ?_
  refine ev_getf (j := 0) (t := 2) (x := (1 : Int)) dX10_lateOnesOf_6 cf_X10 wf_X10_12 sp0 (by decide) (by decide) rfl (by decide) (rp0_0 _) ?_
  refine ev_getf (j := 9) (t := 0) (x := (σ (1 : Int) 9)) dX10_lateOnesOf_9 cf_X0 wf_X10_174 sp1 (by decide) (by decide) rfl (by decide) rfl ?_
  refine ev_icmp_ge (tgt := 47) dX10_lateOnesOf_12 rfl h (fun cb h => ?_) (fun cb h => ?_)
  · obtain rfl := Option.some.inj h
    exact ev_sub (L2 := [(9, 0), (9, 0), (0, x2), (9, 0)]) K ⟨.inl rfl, .inl rfl, .inr rfl, .inl rfl, trivial⟩
  refine ev_aload_n dX10_lateOnesOf_15 rfl (by decide) ?_
  refine ev_getf (j := 8) (t := 2) (x := (43 : Int)) dX10_lateOnesOf_16 cf_X10 wf_X10_50 sp0 (by decide) (by decide) rfl (by decide) (rp0_8 _) ?_
  refine ev_aload_n dX10_lateOnesOf_19 rfl (by decide) ?_
  refine ev_getf (j := 0) (t := 2) (x := (1 : Int)) dX10_lateOnesOf_20 cf_X10 wf_X10_12 sp0 (by decide) (by decide) rfl (by decide) (rp0_0 _) ?_
  refine ev_iload_n dX10_lateOnesOf_23 rfl ?_
  obtain ⟨v1, hc2, h⟩ := bind_of h
  refine ev_invV_v (k := (43 : Int)) (av := [(2, (1 : Int)), (0, x3)]) (st := []) (v := (2, v1.1)) (τ := v1.2) dX10_lateOnesOf_24 ml_X10_243 mv_X9_of (T := TX9) (ci := 8) rfl sp43 (by decide) (by decide) rfl ⟨Nat.le_of_ble_eq_true rfl, Nat.le_of_ble_eq_true rfl⟩ (Nat.le_of_ble_eq_true rfl) (c_X9_of hc2) ?_
  have hw3 := w_X9_of hc2
  refine ev_aload_n dX10_lateOnesOf_27 rfl (by decide) ?_
  refine ev_getf (j := 0) (t := 2) (x := (1 : Int)) dX10_lateOnesOf_28 cf_X10 wf_X10_12 sp0 (by decide) (by decide) rfl (by decide) (rp0_0 _) ?_
  refine ev_iload_n dX10_lateOnesOf_31 rfl ?_
  obtain ⟨v4, hc5, h⟩ := bind_of h
  refine ev_invV_v (k := v1.1) (av := [(2, (1 : Int)), (0, x1)]) (st := []) (v := (0, v4)) (τ := v1.2) dX10_lateOnesOf_32 ml_X10_421 mv_X8_beginsLate (T := TX8) (ci := 7) rfl (sW hw3) (pW hw3).1 (pW hw3).2 rfl ⟨Nat.le_of_ble_eq_true rfl, Nat.le_of_ble_eq_true rfl⟩ (Nat.le_of_ble_eq_true rfl) (c_X8_beginsLate hw3 hB1 hc5) ?_
  refine ev_if_eq (tgt := 41) dX10_lateOnesOf_35 rfl h (fun cb h => ?_) (fun cb h => ?_)
  · exact ev_sub (L2 := [(2, (0 : Int)), (0, x1), (0, x2), (0, x3)]) (e_X10_lateOnesOf_41 v1.2 x1 x2 x3 h K) ⟨.inr rfl, .inr rfl, .inr rfl, .inr rfl, trivial⟩
  refine ev_iincG dX10_lateOnesOf_38 rfl h rfl (fun v6 h => ?_)
  show Ev _ _ _ _ 41 _ _ _ [(2, (0 : Int)), (0, x1), (0, v6), (0, x3)] _
  exact ev_sub (L2 := [(2, (0 : Int)), (0, x1), (0, v6), (0, x3)]) (e_X10_lateOnesOf_41 v1.2 x1 v6 x3 h K) ⟨.inr rfl, .inr rfl, .inr rfl, .inr rfl, trivial⟩
set_option maxHeartbeats 4000000 in
set_option maxRecDepth 20000 in
theorem e_X10_lateOnesOf_4 (σ : Mem) (x1 x2 x3 : Int)  {q : (Int × Mem)} (h : f_X10_lateOnesOf_4 σ x1 x2 x3 = some q) : Ev M_X10_lateOnesOf 181 181 (some (0, q.1), rho, q.2) 4 181 rho σ [(2, (0 : Int)), (0, x1), (0, x2), (0, x3)] [] := by
  unfold f_X10_lateOnesOf_4 at h
  obtain ⟨e, hl, h⟩ := bind_of h
  refine loop_ev (K := K_X10_lateOnesOf_4 x1 (some (0, q.1), rho, q.2)) (b_X10_lateOnesOf_4 x1) FU (x2, x3, σ) e hl ?_
  show Ev M_X10_lateOnesOf 181 181 _ 47 181 rho e.2 [(9, 0), (9, 0), (0, e.1), (9, 0)] []
  replace h : some (e.1, e.2) = some q := h
  refine ev_iload_n dX10_lateOnesOf_47 rfl ?_
  obtain rfl := Option.some.inj h
  dsimp only
  exact ev_iret dX10_lateOnesOf_48 rfl rfl
set_option maxHeartbeats 4000000 in
set_option maxRecDepth 20000 in
theorem c_X10_lateOnesOf {σ : Mem} {x1 : Int}  {q : (Int × Mem)} (h : f_X10_lateOnesOf σ x1 = some q) : Ms yX10_lateOnesOf M_X10_lateOnesOf 181 181 [(2, (0 : Int)), (0, x1)] rho σ (some (0, q.1), rho, q.2) := by
  refine Ms.of 2 (by decide +kernel) rfl (fun z => absurd z (by decide)) (fun _ _ _ => trivial) rfl rfl ?_
  unfold f_X10_lateOnesOf at h
  show Ev M_X10_lateOnesOf 181 181 _ 0 181 rho σ [(2, (0 : Int)), (0, x1), (9, 0), (9, 0)] []
  refine ev_iconst dX10_lateOnesOf_0 (by decide) ?_
  refine ev_istore_n dX10_lateOnesOf_1 rfl (by decide) ?_
  show Ev _ _ _ _ 2 _ _ _ [(2, (0 : Int)), (0, x1), (0, (0 : Int)), (9, 0)] _
  refine ev_iconst dX10_lateOnesOf_2 (by decide) ?_
  refine ev_istore_n dX10_lateOnesOf_3 rfl (by decide) ?_
  show Ev _ _ _ _ 4 _ _ _ [(2, (0 : Int)), (0, x1), (0, (0 : Int)), (0, (0 : Int))] _
  exact ev_sub (L2 := [(2, (0 : Int)), (0, x1), (0, (0 : Int)), (0, (0 : Int))]) (e_X10_lateOnesOf_4 σ x1 (0 : Int) (0 : Int) h) ⟨.inr rfl, .inr rfl, .inr rfl, .inr rfl, trivial⟩
set_option maxHeartbeats 4000000 in
set_option maxRecDepth 20000 in
theorem c_X10_paperOf {σ : Mem} {x1 x2 : Int}  {q : (Int × Mem)} (h : f_X10_paperOf σ x1 x2 = some q) : Ms yX10_paperOf M_X10_paperOf 181 181 [(2, (0 : Int)), (0, x1), (0, x2)] rho σ (some (0, q.1), rho, q.2) := by
  refine Ms.of 0 (by decide +kernel) rfl (fun z => absurd z (by decide)) (fun _ _ _ => trivial) rfl rfl ?_
  unfold f_X10_paperOf at h
  show Ev M_X10_paperOf 181 181 _ 0 181 rho σ [(2, (0 : Int)), (0, x1), (0, x2)] []
  refine ev_aload_n dX10_paperOf_0 rfl (by decide) ?_
  refine ev_getf (j := 0) (t := 2) (x := (1 : Int)) dX10_paperOf_1 cf_X10 wf_X10_12 sp0 (by decide) (by decide) rfl (by decide) (rp0_0 _) ?_
  refine ev_iload_n dX10_paperOf_4 rfl ?_
  refine ev_i2lk dX10_paperOf_5 ?_
  obtain ⟨v1, hc2, h⟩ := bind_of h
  refine ev_invV_v (k := (1 : Int)) (av := [(1, x1)]) (st := []) (v := (0, v1)) (τ := σ) dX10_paperOf_6 ml_X10_164 mv_X0_hasPaper (T := TX0) (ci := 0) rfl sp1 (by decide) (by decide) rfl ⟨Nat.le_of_ble_eq_true rfl, Nat.le_of_ble_eq_true rfl⟩ (Nat.le_of_ble_eq_true rfl) (c_X0_hasPaper hB1 hc2) ?_
  refine ev_if_ne (tgt := 19) dX10_paperOf_9 rfl h (fun cb h => ?_) (fun cb h => ?_)
  · refine ev_iload_n dX10_paperOf_19 rfl ?_
    refine ev_by h (fun cs h => ?_) (fun cs0 h => ?_)
    · refine ev_tswIn (off := 36) (tgt := 56) dX10_paperOf_20 (by rw [cs]; decide) (by rw [cs]; decide) (by rw [cs]; rfl) rfl ?_
      refine ev_aload_n dX10_paperOf_56 rfl (by decide) ?_
      refine ev_getf (j := 0) (t := 2) (x := (1 : Int)) dX10_paperOf_57 cf_X10 wf_X10_12 sp0 (by decide) (by decide) rfl (by decide) (rp0_0 _) ?_
      refine ev_getf (j := 0) (t := 2) (x := (2 : Int)) dX10_paperOf_60 cf_X0 wf_X10_250 sp1 (by decide) (by decide) rfl (by decide) (rp1_0 _) ?_
      refine ev_iload_n dX10_paperOf_63 rfl ?_
      refine ev_iald dX10_paperOf_64 sp2 (by decide) (by decide) h (fun h => ?_)
      obtain rfl := Option.some.inj h
      dsimp only
      exact ev_iret dX10_paperOf_65 rfl rfl
    refine ev_by h (fun cs h => ?_) (fun cs1 h => ?_)
    · refine ev_tswIn (off := 46) (tgt := 66) dX10_paperOf_20 (by rw [cs]; decide) (by rw [cs]; decide) (by rw [cs]; rfl) rfl ?_
      refine ev_aload_n dX10_paperOf_66 rfl (by decide) ?_
      refine ev_getf (j := 0) (t := 2) (x := (1 : Int)) dX10_paperOf_67 cf_X10 wf_X10_12 sp0 (by decide) (by decide) rfl (by decide) (rp0_0 _) ?_
      refine ev_getf (j := 1) (t := 2) (x := (3 : Int)) dX10_paperOf_70 cf_X0 wf_X10_168 sp1 (by decide) (by decide) rfl (by decide) (rp1_1 _) ?_
      refine ev_iload_n dX10_paperOf_73 rfl ?_
      refine ev_iald dX10_paperOf_74 sp3 (by decide) (by decide) h (fun h => ?_)
      obtain rfl := Option.some.inj h
      dsimp only
      exact ev_iret dX10_paperOf_75 rfl rfl
    refine ev_by h (fun cs h => ?_) (fun cs2 h => ?_)
    · refine ev_tswIn (off := 56) (tgt := 76) dX10_paperOf_20 (by rw [cs]; decide) (by rw [cs]; decide) (by rw [cs]; rfl) rfl ?_
      refine ev_aload_n dX10_paperOf_76 rfl (by decide) ?_
      refine ev_getf (j := 0) (t := 2) (x := (1 : Int)) dX10_paperOf_77 cf_X10 wf_X10_12 sp0 (by decide) (by decide) rfl (by decide) (rp0_0 _) ?_
      refine ev_getf (j := 2) (t := 2) (x := (4 : Int)) dX10_paperOf_80 cf_X0 wf_X10_253 sp1 (by decide) (by decide) rfl (by decide) (rp1_2 _) ?_
      refine ev_iload_n dX10_paperOf_83 rfl ?_
      refine ev_iald dX10_paperOf_84 sp4 (by decide) (by decide) h (fun h => ?_)
      obtain rfl := Option.some.inj h
      dsimp only
      exact ev_iret dX10_paperOf_85 rfl rfl
    refine ev_by h (fun cs h => ?_) (fun cs3 h => ?_)
    · refine ev_tswIn (off := 66) (tgt := 86) dX10_paperOf_20 (by rw [cs]; decide) (by rw [cs]; decide) (by rw [cs]; rfl) rfl ?_
      refine ev_aload_n dX10_paperOf_86 rfl (by decide) ?_
      refine ev_iload_n dX10_paperOf_87 rfl ?_
      obtain ⟨v3, hc4, h⟩ := bind_of h
      refine ev_invV_v (k := (0 : Int)) (av := [(0, x1)]) (st := []) (v := (0, v3)) (τ := σ) dX10_paperOf_88 ml_X10_256 mv_X10_takersOf (T := TX10) (ci := 9) rfl sp0 (by decide) (by decide) rfl ⟨Nat.le_of_ble_eq_true rfl, Nat.le_of_ble_eq_true rfl⟩ (Nat.le_of_ble_eq_true rfl) (c_X10_takersOf hc4) ?_
      obtain rfl := Option.some.inj h
      dsimp only
      exact ev_iret dX10_paperOf_91 rfl rfl
    refine ev_by h (fun cs h => ?_) (fun cs4 h => ?_)
    · refine ev_tswIn (off := 72) (tgt := 92) dX10_paperOf_20 (by rw [cs]; decide) (by rw [cs]; decide) (by rw [cs]; rfl) rfl ?_
      refine ev_aload_n dX10_paperOf_92 rfl (by decide) ?_
      refine ev_iload_n dX10_paperOf_93 rfl ?_
      obtain ⟨v5, hc6, h⟩ := bind_of h
      refine ev_invV_v (k := (0 : Int)) (av := [(0, x1)]) (st := []) (v := (0, v5.1)) (τ := v5.2) dX10_paperOf_94 ml_X10_259 mv_X10_lateOnesOf (T := TX10) (ci := 9) rfl sp0 (by decide) (by decide) rfl ⟨Nat.le_of_ble_eq_true rfl, Nat.le_of_ble_eq_true rfl⟩ (Nat.le_of_ble_eq_true rfl) (c_X10_lateOnesOf hc6) ?_
      obtain rfl := Option.some.inj h
      dsimp only
      exact ev_iret dX10_paperOf_97 rfl rfl
    refine ev_tswOut (tgt := 98) dX10_paperOf_20 (by omega) rfl ?_
    refine ev_aload_n dX10_paperOf_98 rfl (by decide) ?_
    refine ev_bipush dX10_paperOf_99 (by decide) (by decide) ?_
    obtain ⟨v7, hc8, h⟩ := bind_of h
    refine ev_invV_v (k := (0 : Int)) (av := [(0, (-52 : Int))]) (st := []) (v := (0, v7.1)) (τ := v7.2) dX10_paperOf_101 ml_X10_88 mv_X10_refuse (T := TX10) (ci := 9) rfl sp0 (by decide) (by decide) rfl ⟨Nat.le_of_ble_eq_true rfl, Nat.le_of_ble_eq_true rfl⟩ (Nat.le_of_ble_eq_true rfl) (c_X10_refuse hc8) ?_
    obtain rfl := Option.some.inj h
    dsimp only
    exact ev_iret dX10_paperOf_104 rfl rfl
  refine ev_aload_n dX10_paperOf_12 rfl (by decide) ?_
  refine ev_bipush dX10_paperOf_13 (by decide) (by decide) ?_
  obtain ⟨v9, hc10, h⟩ := bind_of h
  refine ev_invV_v (k := (0 : Int)) (av := [(0, (-52 : Int))]) (st := []) (v := (0, v9.1)) (τ := v9.2) dX10_paperOf_15 ml_X10_88 mv_X10_refuse (T := TX10) (ci := 9) rfl sp0 (by decide) (by decide) rfl ⟨Nat.le_of_ble_eq_true rfl, Nat.le_of_ble_eq_true rfl⟩ (Nat.le_of_ble_eq_true rfl) (c_X10_refuse hc10) ?_
  obtain rfl := Option.some.inj h
  dsimp only
  exact ev_iret dX10_paperOf_18 rfl rfl
set_option maxHeartbeats 4000000 in
set_option maxRecDepth 20000 in
theorem e_X10_time_23 (σ : Mem)  {q : (Int × Mem)} (h : f_X10_time_23 σ  = some q) : Ev M_X10_time 181 181 (some (0, q.1), rho, q.2) 23 181 rho σ [(2, (0 : Int)), (9, 0), (9, 0)] [] := by
  unfold f_X10_time_23 at h
  refine ev_aload_n dX10_time_23 rfl (by decide) ?_
  refine ev_bipush dX10_time_24 (by decide) (by decide) ?_
  obtain ⟨v7, hc8, h⟩ := bind_of h
  refine ev_invV_v (k := (0 : Int)) (av := [(0, (-52 : Int))]) (st := []) (v := (0, v7.1)) (τ := v7.2) dX10_time_26 ml_X10_88 mv_X10_refuse (T := TX10) (ci := 9) rfl sp0 (by decide) (by decide) rfl ⟨Nat.le_of_ble_eq_true rfl, Nat.le_of_ble_eq_true rfl⟩ (Nat.le_of_ble_eq_true rfl) (c_X10_refuse hc8) ?_
  obtain rfl := Option.some.inj h
  dsimp only
  exact ev_iret dX10_time_29 rfl rfl
set_option maxHeartbeats 4000000 in
set_option maxRecDepth 20000 in
theorem c_X10_time {σ : Mem} {x1 x2 : Int}  {q : (Int × Mem)} (h : f_X10_time σ x1 x2 = some q) : Ms yX10_time M_X10_time 181 181 [(2, (0 : Int)), (0, x1), (0, x2)] rho σ (some (0, q.1), rho, q.2) := by
  refine Ms.of 0 (by decide +kernel) rfl (fun z => absurd z (by decide)) (fun _ _ _ => trivial) rfl rfl ?_
  unfold f_X10_time at h
  show Ev M_X10_time 181 181 _ 0 181 rho σ [(2, (0 : Int)), (0, x1), (0, x2)] []
  refine ev_aload_n dX10_time_0 rfl (by decide) ?_
  refine ev_getf (j := 0) (t := 2) (x := (1 : Int)) dX10_time_1 cf_X10 wf_X10_12 sp0 (by decide) (by decide) rfl (by decide) (rp0_0 _) ?_
  refine ev_iload_n dX10_time_4 rfl ?_
  obtain ⟨v1, hc2, h⟩ := bind_of h
  refine ev_invV_v (k := (1 : Int)) (av := [(0, x1)]) (st := []) (v := (0, v1)) (τ := σ) dX10_time_5 ml_X10_122 mv_X0_hasCand (T := TX0) (ci := 0) rfl sp1 (by decide) (by decide) rfl ⟨Nat.le_of_ble_eq_true rfl, Nat.le_of_ble_eq_true rfl⟩ (Nat.le_of_ble_eq_true rfl) (c_X0_hasCand hB1 hc2) ?_
  refine ev_if_eq (tgt := 23) dX10_time_8 rfl h (fun cb h => ?_) (fun cb h => ?_)
  · exact ev_sub (L2 := [(2, (0 : Int)), (9, 0), (9, 0)]) (e_X10_time_23 σ h) ⟨.inr rfl, .inl rfl, .inl rfl, trivial⟩
  refine ev_aload_n dX10_time_11 rfl (by decide) ?_
  refine ev_getf (j := 0) (t := 2) (x := (1 : Int)) dX10_time_12 cf_X10 wf_X10_12 sp0 (by decide) (by decide) rfl (by decide) (rp0_0 _) ?_
  refine ev_iload_n dX10_time_15 rfl ?_
  refine ev_i2lk dX10_time_16 ?_
  obtain ⟨v3, hc4, h⟩ := bind_of h
  refine ev_invV_v (k := (1 : Int)) (av := [(1, x2)]) (st := []) (v := (0, v3)) (τ := σ) dX10_time_17 ml_X10_164 mv_X0_hasPaper (T := TX0) (ci := 0) rfl sp1 (by decide) (by decide) rfl ⟨Nat.le_of_ble_eq_true rfl, Nat.le_of_ble_eq_true rfl⟩ (Nat.le_of_ble_eq_true rfl) (c_X0_hasPaper hB1 hc4) ?_
  refine ev_if_ne (tgt := 30) dX10_time_20 rfl h (fun cb h => ?_) (fun cb h => ?_)
  · refine ev_aload_n dX10_time_30 rfl (by decide) ?_
    refine ev_getf (j := 0) (t := 2) (x := (1 : Int)) dX10_time_31 cf_X10 wf_X10_12 sp0 (by decide) (by decide) rfl (by decide) (rp0_0 _) ?_
    refine ev_iload_n dX10_time_34 rfl ?_
    refine ev_iload_n dX10_time_35 rfl ?_
    obtain ⟨v5, hc6, h⟩ := bind_of h
    refine ev_invV_v (k := (1 : Int)) (av := [(0, x1), (0, x2)]) (st := []) (v := (0, v5)) (τ := σ) dX10_time_36 ml_X10_262 mv_X0_timeFor (T := TX0) (ci := 0) rfl sp1 (by decide) (by decide) rfl ⟨Nat.le_of_ble_eq_true rfl, Nat.le_of_ble_eq_true rfl⟩ (Nat.le_of_ble_eq_true rfl) (c_X0_timeFor hB1 hc6) ?_
    obtain rfl := Option.some.inj h
    dsimp only
    exact ev_iret dX10_time_39 rfl rfl
  exact ev_sub (L2 := [(2, (0 : Int)), (9, 0), (9, 0)]) (e_X10_time_23 σ h) ⟨.inr rfl, .inl rfl, .inl rfl, trivial⟩
set_option maxHeartbeats 4000000 in
set_option maxRecDepth 20000 in
theorem e_X10_plan_18 (σ : Mem)  {q : (Int × Mem)} (h : f_X10_plan_18 σ  = some q) : Ev M_X10_plan 181 181 (some (0, q.1), rho, q.2) 18 181 rho σ [(2, (0 : Int)), (9, 0), (9, 0), (9, 0), (9, 0)] [] := by
  unfold f_X10_plan_18 at h
  refine ev_aload_n dX10_plan_18 rfl (by decide) ?_
  refine ev_bipush dX10_plan_19 (by decide) (by decide) ?_
  obtain ⟨v14, hc15, h⟩ := bind_of h
  refine ev_invV_v (k := (0 : Int)) (av := [(0, (-52 : Int))]) (st := []) (v := (0, v14.1)) (τ := v14.2) dX10_plan_21 ml_X10_88 mv_X10_refuse (T := TX10) (ci := 9) rfl sp0 (by decide) (by decide) rfl ⟨Nat.le_of_ble_eq_true rfl, Nat.le_of_ble_eq_true rfl⟩ (Nat.le_of_ble_eq_true rfl) (c_X10_refuse hc15) ?_
  obtain rfl := Option.some.inj h
  dsimp only
  exact ev_iret dX10_plan_24 rfl rfl
set_option maxHeartbeats 4000000 in
set_option maxRecDepth 20000 in
theorem c_X10_plan {σ : Mem} {x1 x2 x3 : Int}  {q : (Int × Mem)} (h : f_X10_plan σ x1 x2 x3 = some q) : Ms yX10_plan M_X10_plan 181 181 [(2, (0 : Int)), (0, x1), (0, x2), (0, x3)] rho σ (some (0, q.1), rho, q.2) := by
  refine Ms.of 1 (by decide +kernel) rfl (fun z => absurd z (by decide)) (fun _ _ _ => trivial) rfl rfl ?_
  unfold f_X10_plan at h
  show Ev M_X10_plan 181 181 _ 0 181 rho σ [(2, (0 : Int)), (0, x1), (0, x2), (0, x3), (9, 0)] []
  refine ev_aload_n dX10_plan_0 rfl (by decide) ?_
  refine ev_getf (j := 0) (t := 2) (x := (1 : Int)) dX10_plan_1 cf_X10 wf_X10_12 sp0 (by decide) (by decide) rfl (by decide) (rp0_0 _) ?_
  refine ev_iload_n dX10_plan_4 rfl ?_
  obtain ⟨v1, hc2, h⟩ := bind_of h
  refine ev_invV_v (k := (1 : Int)) (av := [(0, x1)]) (st := []) (v := (0, v1)) (τ := σ) dX10_plan_5 ml_X10_122 mv_X0_hasCand (T := TX0) (ci := 0) rfl sp1 (by decide) (by decide) rfl ⟨Nat.le_of_ble_eq_true rfl, Nat.le_of_ble_eq_true rfl⟩ (Nat.le_of_ble_eq_true rfl) (c_X0_hasCand hB1 hc2) ?_
  refine ev_if_eq (tgt := 18) dX10_plan_8 rfl h (fun cb h => ?_) (fun cb h => ?_)
  · exact ev_sub (L2 := [(2, (0 : Int)), (9, 0), (9, 0), (9, 0), (9, 0)]) (e_X10_plan_18 σ h) ⟨.inr rfl, .inl rfl, .inl rfl, .inl rfl, .inl rfl, trivial⟩
  refine ev_iload_n dX10_plan_11 rfl ?_
  obtain ⟨v3, hc4, h⟩ := bind_of h
  refine ev_invS_v (av := [(0, x2)]) (st := []) (v := (0, v3)) (τ := σ) dX10_plan_12 ml_X10_150 mt_X10_isDay rfl ⟨Nat.le_of_ble_eq_true rfl, Nat.le_of_ble_eq_true rfl⟩ (Nat.le_of_ble_eq_true rfl) (c_X10_isDay hc4) ?_
  refine ev_if_ne (tgt := 25) dX10_plan_15 rfl h (fun cb h => ?_) (fun cb h => ?_)
  · refine ev_aload_n dX10_plan_25 rfl (by decide) ?_
    refine ev_getf (j := 8) (t := 2) (x := (43 : Int)) dX10_plan_26 cf_X10 wf_X10_50 sp0 (by decide) (by decide) rfl (by decide) (rp0_8 _) ?_
    refine ev_aload_n dX10_plan_29 rfl (by decide) ?_
    refine ev_getf (j := 0) (t := 2) (x := (1 : Int)) dX10_plan_30 cf_X10 wf_X10_12 sp0 (by decide) (by decide) rfl (by decide) (rp0_0 _) ?_
    refine ev_iload_n dX10_plan_33 rfl ?_
    obtain ⟨v5, hc6, h⟩ := bind_of h
    refine ev_invV_v (k := (43 : Int)) (av := [(2, (1 : Int)), (0, x1)]) (st := []) (v := (2, v5.1)) (τ := v5.2) dX10_plan_34 ml_X10_243 mv_X9_of (T := TX9) (ci := 8) rfl sp43 (by decide) (by decide) rfl ⟨Nat.le_of_ble_eq_true rfl, Nat.le_of_ble_eq_true rfl⟩ (Nat.le_of_ble_eq_true rfl) (c_X9_of hc6) ?_
    have hw7 := w_X9_of hc6
    refine ev_astore dX10_plan_37 rfl (by decide) (pW hw7).1 ?_
    show Ev _ _ _ _ 39 _ _ _ [(2, (0 : Int)), (0, x1), (0, x2), (0, x3), (2, v5.1)] _
    refine ev_iload_n dX10_plan_39 rfl ?_
    refine ev_by h (fun cs h => ?_) (fun cs0 h => ?_)
    · refine ev_tswIn (off := 44) (tgt := 84) dX10_plan_40 (by rw [cs]; decide) (by rw [cs]; decide) (by rw [cs]; rfl) rfl ?_
      refine ev_aload dX10_plan_84 rfl (pW hw7).1 ?_
      refine ev_getf (j := 0) (t := 2) (x := (v5.1 + 1)) dX10_plan_86 cf_X8 wf_X10_265 (sW hw7) (pW hw7).1 (pW hw7).2 rfl (by decide) (rW0 _ hw7) ?_
      refine ev_iload_n dX10_plan_89 rfl ?_
      refine ev_zald dX10_plan_90 (sW0 hw7) (pW0 hw7).1 (pW0 hw7).2 h (fun h => ?_)
      refine ev_if_eq (tgt := 98) dX10_plan_91 rfl h (fun cb h => ?_) (fun cb h => ?_)
      · refine ev_iconst dX10_plan_98 (by decide) ?_
        obtain rfl := Option.some.inj h
        dsimp only
        exact ev_iret dX10_plan_99 rfl rfl
      refine ev_iconst dX10_plan_94 (by decide) ?_
      refine ev_goto (tgt := 99) dX10_plan_95 rfl ?_
      obtain rfl := Option.some.inj h
      dsimp only
      exact ev_iret dX10_plan_99 rfl rfl
    refine ev_by h (fun cs h => ?_) (fun cs1 h => ?_)
    · refine ev_tswIn (off := 60) (tgt := 100) dX10_plan_40 (by rw [cs]; decide) (by rw [cs]; decide) (by rw [cs]; rfl) rfl ?_
      refine ev_aload dX10_plan_100 rfl (pW hw7).1 ?_
      refine ev_getf (j := 5) (t := 2) (x := (v5.1 + 6)) dX10_plan_102 cf_X8 wf_X10_269 (sW hw7) (pW hw7).1 (pW hw7).2 rfl (by decide) (rW5 _ hw7) ?_
      refine ev_iload_n dX10_plan_105 rfl ?_
      refine ev_lald dX10_plan_106 (sW5 hw7) (pW5 hw7).1 (pW5 hw7).2 h (fun h => ?_)
      obtain ⟨v8, hc9, h⟩ := bind_of h
      refine ev_invS_v (av := [(1, (v5.2 (v5.1 + 6) x2))]) (st := []) (v := (0, v8)) (τ := v5.2) dX10_plan_107 ml_X10_273 mt_J13_bitCount_95d88 rfl ⟨Nat.le_of_ble_eq_true rfl, Nat.le_of_ble_eq_true rfl⟩ (Nat.le_of_ble_eq_true rfl) (c_J13_bitCount_95d88 hc9) ?_
      obtain rfl := Option.some.inj h
      dsimp only
      exact ev_iret dX10_plan_110 rfl rfl
    refine ev_by h (fun cs h => ?_) (fun cs2 h => ?_)
    · refine ev_tswIn (off := 71) (tgt := 111) dX10_plan_40 (by rw [cs]; decide) (by rw [cs]; decide) (by rw [cs]; rfl) rfl ?_
      refine ev_aload dX10_plan_111 rfl (pW hw7).1 ?_
      refine ev_getf (j := 1) (t := 2) (x := (v5.1 + 2)) dX10_plan_113 cf_X8 wf_X10_279 (sW hw7) (pW hw7).1 (pW hw7).2 rfl (by decide) (rW1 _ hw7) ?_
      refine ev_iload_n dX10_plan_116 rfl ?_
      refine ev_iald dX10_plan_117 (sW1 hw7) (pW1 hw7).1 (pW1 hw7).2 h (fun h => ?_)
      obtain rfl := Option.some.inj h
      dsimp only
      exact ev_iret dX10_plan_118 rfl rfl
    refine ev_by h (fun cs h => ?_) (fun cs3 h => ?_)
    · refine ev_tswIn (off := 79) (tgt := 119) dX10_plan_40 (by rw [cs]; decide) (by rw [cs]; decide) (by rw [cs]; rfl) rfl ?_
      refine ev_aload dX10_plan_119 rfl (pW hw7).1 ?_
      refine ev_getf (j := 2) (t := 2) (x := (v5.1 + 3)) dX10_plan_121 cf_X8 wf_X10_282 (sW hw7) (pW hw7).1 (pW hw7).2 rfl (by decide) (rW2 _ hw7) ?_
      refine ev_iload_n dX10_plan_124 rfl ?_
      refine ev_iald dX10_plan_125 (sW2 hw7) (pW2 hw7).1 (pW2 hw7).2 h (fun h => ?_)
      obtain rfl := Option.some.inj h
      dsimp only
      exact ev_iret dX10_plan_126 rfl rfl
    refine ev_by h (fun cs h => ?_) (fun cs4 h => ?_)
    · refine ev_tswIn (off := 87) (tgt := 127) dX10_plan_40 (by rw [cs]; decide) (by rw [cs]; decide) (by rw [cs]; rfl) rfl ?_
      refine ev_aload dX10_plan_127 rfl (pW hw7).1 ?_
      refine ev_getf (j := 3) (t := 2) (x := (v5.1 + 4)) dX10_plan_129 cf_X8 wf_X10_285 (sW hw7) (pW hw7).1 (pW hw7).2 rfl (by decide) (rW3 _ hw7) ?_
      refine ev_iload_n dX10_plan_132 rfl ?_
      refine ev_iald dX10_plan_133 (sW3 hw7) (pW3 hw7).1 (pW3 hw7).2 h (fun h => ?_)
      obtain rfl := Option.some.inj h
      dsimp only
      exact ev_iret dX10_plan_134 rfl rfl
    refine ev_by h (fun cs h => ?_) (fun cs5 h => ?_)
    · refine ev_tswIn (off := 95) (tgt := 135) dX10_plan_40 (by rw [cs]; decide) (by rw [cs]; decide) (by rw [cs]; rfl) rfl ?_
      refine ev_aload dX10_plan_135 rfl (pW hw7).1 ?_
      refine ev_getf (j := 4) (t := 2) (x := (v5.1 + 5)) dX10_plan_137 cf_X8 wf_X10_288 (sW hw7) (pW hw7).1 (pW hw7).2 rfl (by decide) (rW4 _ hw7) ?_
      refine ev_iload_n dX10_plan_140 rfl ?_
      refine ev_iald dX10_plan_141 (sW4 hw7) (pW4 hw7).1 (pW4 hw7).2 h (fun h => ?_)
      obtain rfl := Option.some.inj h
      dsimp only
      exact ev_iret dX10_plan_142 rfl rfl
    refine ev_by h (fun cs h => ?_) (fun cs6 h => ?_)
    · refine ev_tswIn (off := 103) (tgt := 143) dX10_plan_40 (by rw [cs]; decide) (by rw [cs]; decide) (by rw [cs]; rfl) rfl ?_
      refine ev_aload dX10_plan_143 rfl (pW hw7).1 ?_
      refine ev_getf (j := 0) (t := 2) (x := (v5.1 + 1)) dX10_plan_145 cf_X8 wf_X10_265 (sW hw7) (pW hw7).1 (pW hw7).2 rfl (by decide) (rW0 _ hw7) ?_
      refine ev_iload_n dX10_plan_148 rfl ?_
      refine ev_zald dX10_plan_149 (sW0 hw7) (pW0 hw7).1 (pW0 hw7).2 h (fun h => ?_)
      refine ev_if_eq (tgt := 157) dX10_plan_150 rfl h (fun cb h => ?_) (fun cb h => ?_)
      · refine ev_aload_n dX10_plan_157 rfl (by decide) ?_
        refine ev_getf (j := 7) (t := 2) (x := (35 : Int)) dX10_plan_158 cf_X10 wf_X10_43 sp0 (by decide) (by decide) rfl (by decide) (rp0_7 _) ?_
        refine ev_aload_n dX10_plan_161 rfl (by decide) ?_
        refine ev_getf (j := 0) (t := 2) (x := (1 : Int)) dX10_plan_162 cf_X10 wf_X10_12 sp0 (by decide) (by decide) rfl (by decide) (rp0_0 _) ?_
        refine ev_iload_n dX10_plan_165 rfl ?_
        refine ev_iload_n dX10_plan_166 rfl ?_
        refine ev_aload dX10_plan_167 rfl (pW hw7).1 ?_
        obtain ⟨v10, hc11, h⟩ := bind_of h
        refine ev_invV_v (k := (35 : Int)) (av := [(2, (1 : Int)), (0, x1), (0, x2), (2, v5.1)]) (st := []) (v := (0, v10.1)) (τ := v10.2) dX10_plan_169 ml_X10_291 mv_X4_clash (T := TX4) (ci := 3) rfl sp35 (by decide) (by decide) rfl ⟨Nat.le_of_ble_eq_true rfl, Nat.le_of_ble_eq_true rfl⟩ (Nat.le_of_ble_eq_true rfl) (c_X4_clash hB1 hw7 hc11) ?_
        obtain rfl := Option.some.inj h
        dsimp only
        exact ev_iret dX10_plan_172 rfl rfl
      refine ev_iconst dX10_plan_153 (by decide) ?_
      refine ev_goto (tgt := 172) dX10_plan_154 rfl ?_
      obtain rfl := Option.some.inj h
      dsimp only
      exact ev_iret dX10_plan_172 rfl rfl
    refine ev_tswOut (tgt := 173) dX10_plan_40 (by omega) rfl ?_
    refine ev_aload_n dX10_plan_173 rfl (by decide) ?_
    refine ev_bipush dX10_plan_174 (by decide) (by decide) ?_
    obtain ⟨v12, hc13, h⟩ := bind_of h
    refine ev_invV_v (k := (0 : Int)) (av := [(0, (-52 : Int))]) (st := []) (v := (0, v12.1)) (τ := v12.2) dX10_plan_176 ml_X10_88 mv_X10_refuse (T := TX10) (ci := 9) rfl sp0 (by decide) (by decide) rfl ⟨Nat.le_of_ble_eq_true rfl, Nat.le_of_ble_eq_true rfl⟩ (Nat.le_of_ble_eq_true rfl) (c_X10_refuse hc13) ?_
    obtain rfl := Option.some.inj h
    dsimp only
    exact ev_iret dX10_plan_179 rfl rfl
  exact ev_sub (L2 := [(2, (0 : Int)), (9, 0), (9, 0), (9, 0), (9, 0)]) (e_X10_plan_18 σ h) ⟨.inr rfl, .inl rfl, .inl rfl, .inl rfl, .inl rfl, trivial⟩
set_option maxHeartbeats 4000000 in
set_option maxRecDepth 20000 in
theorem e_X10_sits_18 (σ : Mem)  {q : (Int × Mem)} (h : f_X10_sits_18 σ  = some q) : Ev M_X10_sits 181 181 (some (0, q.1), rho, q.2) 18 181 rho σ [(2, (0 : Int)), (9, 0), (9, 0), (9, 0), (9, 0), (9, 0), (9, 0)] [] := by
  unfold f_X10_sits_18 at h
  refine ev_aload_n dX10_sits_18 rfl (by decide) ?_
  refine ev_bipush dX10_sits_19 (by decide) (by decide) ?_
  obtain ⟨v11, hc12, h⟩ := bind_of h
  refine ev_invV_v (k := (0 : Int)) (av := [(0, (-52 : Int))]) (st := []) (v := (0, v11.1)) (τ := v11.2) dX10_sits_21 ml_X10_88 mv_X10_refuse (T := TX10) (ci := 9) rfl sp0 (by decide) (by decide) rfl ⟨Nat.le_of_ble_eq_true rfl, Nat.le_of_ble_eq_true rfl⟩ (Nat.le_of_ble_eq_true rfl) (c_X10_refuse hc12) ?_
  obtain rfl := Option.some.inj h
  dsimp only
  exact ev_iret dX10_sits_24 rfl rfl
set_option maxHeartbeats 4000000 in
set_option maxRecDepth 20000 in
theorem e_X10_sits_54 (σ : Mem)  {q : (Int × Mem)} (h : f_X10_sits_54 σ  = some q) : Ev M_X10_sits 181 181 (some (0, q.1), rho, q.2) 54 181 rho σ [(2, (0 : Int)), (9, 0), (9, 0), (9, 0), (9, 0), (9, 0), (9, 0)] [] := by
  unfold f_X10_sits_54 at h
  refine ev_aload_n dX10_sits_54 rfl (by decide) ?_
  refine ev_bipush dX10_sits_55 (by decide) (by decide) ?_
  obtain ⟨v13, hc14, h⟩ := bind_of h
  refine ev_invV_v (k := (0 : Int)) (av := [(0, (-52 : Int))]) (st := []) (v := (0, v13.1)) (τ := v13.2) dX10_sits_57 ml_X10_88 mv_X10_refuse (T := TX10) (ci := 9) rfl sp0 (by decide) (by decide) rfl ⟨Nat.le_of_ble_eq_true rfl, Nat.le_of_ble_eq_true rfl⟩ (Nat.le_of_ble_eq_true rfl) (c_X10_refuse hc14) ?_
  obtain rfl := Option.some.inj h
  dsimp only
  exact ev_iret dX10_sits_60 rfl rfl
set_option maxHeartbeats 4000000 in
set_option maxRecDepth 20000 in
theorem c_X10_sits {σ : Mem} {x1 x2 x3 x4 : Int}  {q : (Int × Mem)} (h : f_X10_sits σ x1 x2 x3 x4 = some q) : Ms yX10_sits M_X10_sits 181 181 [(2, (0 : Int)), (0, x1), (0, x2), (0, x3), (0, x4)] rho σ (some (0, q.1), rho, q.2) := by
  refine Ms.of 2 (by decide +kernel) rfl (fun z => absurd z (by decide)) (fun _ _ _ => trivial) rfl rfl ?_
  unfold f_X10_sits at h
  show Ev M_X10_sits 181 181 _ 0 181 rho σ [(2, (0 : Int)), (0, x1), (0, x2), (0, x3), (0, x4), (9, 0), (9, 0)] []
  refine ev_aload_n dX10_sits_0 rfl (by decide) ?_
  refine ev_getf (j := 0) (t := 2) (x := (1 : Int)) dX10_sits_1 cf_X10 wf_X10_12 sp0 (by decide) (by decide) rfl (by decide) (rp0_0 _) ?_
  refine ev_iload_n dX10_sits_4 rfl ?_
  obtain ⟨v1, hc2, h⟩ := bind_of h
  refine ev_invV_v (k := (1 : Int)) (av := [(0, x1)]) (st := []) (v := (0, v1)) (τ := σ) dX10_sits_5 ml_X10_122 mv_X0_hasCand (T := TX0) (ci := 0) rfl sp1 (by decide) (by decide) rfl ⟨Nat.le_of_ble_eq_true rfl, Nat.le_of_ble_eq_true rfl⟩ (Nat.le_of_ble_eq_true rfl) (c_X0_hasCand hB1 hc2) ?_
  refine ev_if_eq (tgt := 18) dX10_sits_8 rfl h (fun cb h => ?_) (fun cb h => ?_)
  · exact ev_sub (L2 := [(2, (0 : Int)), (9, 0), (9, 0), (9, 0), (9, 0), (9, 0), (9, 0)]) (e_X10_sits_18 σ h) ⟨.inr rfl, .inl rfl, .inl rfl, .inl rfl, .inl rfl, .inl rfl, .inl rfl, trivial⟩
  refine ev_iload_n dX10_sits_11 rfl ?_
  obtain ⟨v3, hc4, h⟩ := bind_of h
  refine ev_invS_v (av := [(0, x2)]) (st := []) (v := (0, v3)) (τ := σ) dX10_sits_12 ml_X10_150 mt_X10_isDay rfl ⟨Nat.le_of_ble_eq_true rfl, Nat.le_of_ble_eq_true rfl⟩ (Nat.le_of_ble_eq_true rfl) (c_X10_isDay hc4) ?_
  refine ev_if_ne (tgt := 25) dX10_sits_15 rfl h (fun cb h => ?_) (fun cb h => ?_)
  · refine ev_aload_n dX10_sits_25 rfl (by decide) ?_
    refine ev_getf (j := 8) (t := 2) (x := (43 : Int)) dX10_sits_26 cf_X10 wf_X10_50 sp0 (by decide) (by decide) rfl (by decide) (rp0_8 _) ?_
    refine ev_aload_n dX10_sits_29 rfl (by decide) ?_
    refine ev_getf (j := 0) (t := 2) (x := (1 : Int)) dX10_sits_30 cf_X10 wf_X10_12 sp0 (by decide) (by decide) rfl (by decide) (rp0_0 _) ?_
    refine ev_iload_n dX10_sits_33 rfl ?_
    obtain ⟨v5, hc6, h⟩ := bind_of h
    refine ev_invV_v (k := (43 : Int)) (av := [(2, (1 : Int)), (0, x1)]) (st := []) (v := (2, v5.1)) (τ := v5.2) dX10_sits_34 ml_X10_243 mv_X9_of (T := TX9) (ci := 8) rfl sp43 (by decide) (by decide) rfl ⟨Nat.le_of_ble_eq_true rfl, Nat.le_of_ble_eq_true rfl⟩ (Nat.le_of_ble_eq_true rfl) (c_X9_of hc6) ?_
    have hw7 := w_X9_of hc6
    refine ev_astore dX10_sits_37 rfl (by decide) (pW hw7).1 ?_
    show Ev _ _ _ _ 39 _ _ _ [(2, (0 : Int)), (0, x1), (0, x2), (0, x3), (0, x4), (2, v5.1), (9, 0)] _
    refine ev_iload_n dX10_sits_39 rfl ?_
    refine ev_if_lt (tgt := 54) dX10_sits_40 rfl h (fun cb h => ?_) (fun cb h => ?_)
    · exact ev_sub (L2 := [(2, (0 : Int)), (9, 0), (9, 0), (9, 0), (9, 0), (9, 0), (9, 0)]) (e_X10_sits_54 v5.2 h) ⟨.inr rfl, .inl rfl, .inl rfl, .inl rfl, .inl rfl, .inl rfl, .inl rfl, trivial⟩
    refine ev_iload_n dX10_sits_43 rfl ?_
    refine ev_aload dX10_sits_44 rfl (pW hw7).1 ?_
    refine ev_getf (j := 4) (t := 2) (x := (v5.1 + 5)) dX10_sits_46 cf_X8 wf_X10_288 (sW hw7) (pW hw7).1 (pW hw7).2 rfl (by decide) (rW4 _ hw7) ?_
    refine ev_iload_n dX10_sits_49 rfl ?_
    refine ev_iald dX10_sits_50 (sW4 hw7) (pW4 hw7).1 (pW4 hw7).2 h (fun h => ?_)
    refine ev_icmp_lt (tgt := 61) dX10_sits_51 rfl h (fun cb h => ?_) (fun cb h => ?_)
    · refine ev_iload_n dX10_sits_61 rfl ?_
      refine ev_iconst dX10_sits_62 (by decide) ?_
      refine ev_imul dX10_sits_63 ?_
      refine ev_iload_n dX10_sits_64 rfl ?_
      refine ev_iadd dX10_sits_65 ?_
      refine ev_istoreG dX10_sits_66 h rfl (by decide) (fun v8 h => ?_)
      show Ev _ _ _ _ 68 _ _ _ [(2, (0 : Int)), (0, x1), (0, x2), (0, x3), (0, x4), (2, v5.1), (0, v8)] _
      refine ev_iload dX10_sits_68 rfl ?_
      refine ev_by h (fun cs h => ?_) (fun cs0 h => ?_)
      · refine ev_tswIn (off := 26) (tgt := 96) dX10_sits_70 (by rw [cs]; decide) (by rw [cs]; decide) (by rw [cs]; rfl) rfl ?_
        refine ev_aload dX10_sits_96 rfl (pW hw7).1 ?_
        refine ev_getf (j := 6) (t := 2) (x := (v5.1 + 7)) dX10_sits_98 cf_X8 wf_X10_295 (sW hw7) (pW hw7).1 (pW hw7).2 rfl (by decide) (rW6 _ hw7) ?_
        refine ev_iload dX10_sits_101 rfl ?_
        refine ev_iald dX10_sits_103 (sW6 hw7) (pW6 hw7).1 (pW6 hw7).2 h (fun h => ?_)
        obtain rfl := Option.some.inj h
        dsimp only
        exact ev_iret dX10_sits_104 rfl rfl
      refine ev_by h (fun cs h => ?_) (fun cs1 h => ?_)
      · refine ev_tswIn (off := 35) (tgt := 105) dX10_sits_70 (by rw [cs]; decide) (by rw [cs]; decide) (by rw [cs]; rfl) rfl ?_
        refine ev_aload dX10_sits_105 rfl (pW hw7).1 ?_
        refine ev_getf (j := 7) (t := 2) (x := (v5.1 + 8)) dX10_sits_107 cf_X8 wf_X10_298 (sW hw7) (pW hw7).1 (pW hw7).2 rfl (by decide) (rW7 _ hw7) ?_
        refine ev_iload dX10_sits_110 rfl ?_
        refine ev_iald dX10_sits_112 (sW7 hw7) (pW7 hw7).1 (pW7 hw7).2 h (fun h => ?_)
        obtain rfl := Option.some.inj h
        dsimp only
        exact ev_iret dX10_sits_113 rfl rfl
      refine ev_by h (fun cs h => ?_) (fun cs2 h => ?_)
      · refine ev_tswIn (off := 44) (tgt := 114) dX10_sits_70 (by rw [cs]; decide) (by rw [cs]; decide) (by rw [cs]; rfl) rfl ?_
        refine ev_aload dX10_sits_114 rfl (pW hw7).1 ?_
        refine ev_getf (j := 8) (t := 2) (x := (v5.1 + 9)) dX10_sits_116 cf_X8 wf_X10_301 (sW hw7) (pW hw7).1 (pW hw7).2 rfl (by decide) (rW8 _ hw7) ?_
        refine ev_iload dX10_sits_119 rfl ?_
        refine ev_iald dX10_sits_121 (sW8 hw7) (pW8 hw7).1 (pW8 hw7).2 h (fun h => ?_)
        obtain rfl := Option.some.inj h
        dsimp only
        exact ev_iret dX10_sits_122 rfl rfl
      refine ev_tswOut (tgt := 123) dX10_sits_70 (by omega) rfl ?_
      refine ev_aload_n dX10_sits_123 rfl (by decide) ?_
      refine ev_bipush dX10_sits_124 (by decide) (by decide) ?_
      obtain ⟨v9, hc10, h⟩ := bind_of h
      refine ev_invV_v (k := (0 : Int)) (av := [(0, (-52 : Int))]) (st := []) (v := (0, v9.1)) (τ := v9.2) dX10_sits_126 ml_X10_88 mv_X10_refuse (T := TX10) (ci := 9) rfl sp0 (by decide) (by decide) rfl ⟨Nat.le_of_ble_eq_true rfl, Nat.le_of_ble_eq_true rfl⟩ (Nat.le_of_ble_eq_true rfl) (c_X10_refuse hc10) ?_
      obtain rfl := Option.some.inj h
      dsimp only
      exact ev_iret dX10_sits_129 rfl rfl
    exact ev_sub (L2 := [(2, (0 : Int)), (9, 0), (9, 0), (9, 0), (9, 0), (9, 0), (9, 0)]) (e_X10_sits_54 v5.2 h) ⟨.inr rfl, .inl rfl, .inl rfl, .inl rfl, .inl rfl, .inl rfl, .inl rfl, trivial⟩
  exact ev_sub (L2 := [(2, (0 : Int)), (9, 0), (9, 0), (9, 0), (9, 0), (9, 0), (9, 0)]) (e_X10_sits_18 σ h) ⟨.inr rfl, .inl rfl, .inl rfl, .inl rfl, .inl rfl, .inl rfl, .inl rfl, trivial⟩
set_option maxHeartbeats 4000000 in
set_option maxRecDepth 20000 in
theorem e_X10_does_25 (σ : Mem)  {q : (Int × Mem)} (h : f_X10_does_25 σ  = some q) : Ev M_X10_does 181 181 (some (0, q.1), rho, q.2) 25 181 rho σ [(2, (0 : Int)), (9, 0), (9, 0), (9, 0)] [] := by
  unfold f_X10_does_25 at h
  refine ev_aload_n dX10_does_25 rfl (by decide) ?_
  refine ev_bipush dX10_does_26 (by decide) (by decide) ?_
  obtain ⟨v12, hc13, h⟩ := bind_of h
  refine ev_invV_v (k := (0 : Int)) (av := [(0, (-52 : Int))]) (st := []) (v := (0, v12.1)) (τ := v12.2) dX10_does_28 ml_X10_88 mv_X10_refuse (T := TX10) (ci := 9) rfl sp0 (by decide) (by decide) rfl ⟨Nat.le_of_ble_eq_true rfl, Nat.le_of_ble_eq_true rfl⟩ (Nat.le_of_ble_eq_true rfl) (c_X10_refuse hc13) ?_
  obtain rfl := Option.some.inj h
  dsimp only
  exact ev_iret dX10_does_31 rfl rfl
set_option maxHeartbeats 4000000 in
set_option maxRecDepth 20000 in
theorem c_X10_does {σ : Mem} {x1 x2 x3 : Int}  {q : (Int × Mem)} (h : f_X10_does σ x1 x2 x3 = some q) : Ms yX10_does M_X10_does 181 181 [(2, (0 : Int)), (0, x1), (0, x2), (0, x3)] rho σ (some (0, q.1), rho, q.2) := by
  refine Ms.of 0 (by decide +kernel) rfl (fun z => absurd z (by decide)) (fun _ _ _ => trivial) rfl rfl ?_
  unfold f_X10_does at h
  show Ev M_X10_does 181 181 _ 0 181 rho σ [(2, (0 : Int)), (0, x1), (0, x2), (0, x3)] []
  refine ev_aload_n dX10_does_0 rfl (by decide) ?_
  refine ev_getf (j := 0) (t := 2) (x := (1 : Int)) dX10_does_1 cf_X10 wf_X10_12 sp0 (by decide) (by decide) rfl (by decide) (rp0_0 _) ?_
  refine ev_iload_n dX10_does_4 rfl ?_
  obtain ⟨v1, hc2, h⟩ := bind_of h
  refine ev_invV_v (k := (1 : Int)) (av := [(0, x1)]) (st := []) (v := (0, v1)) (τ := σ) dX10_does_5 ml_X10_122 mv_X0_hasCand (T := TX0) (ci := 0) rfl sp1 (by decide) (by decide) rfl ⟨Nat.le_of_ble_eq_true rfl, Nat.le_of_ble_eq_true rfl⟩ (Nat.le_of_ble_eq_true rfl) (c_X0_hasCand hB1 hc2) ?_
  refine ev_if_eq (tgt := 25) dX10_does_8 rfl h (fun cb h => ?_) (fun cb h => ?_)
  · exact ev_sub (L2 := [(2, (0 : Int)), (9, 0), (9, 0), (9, 0)]) (e_X10_does_25 σ h) ⟨.inr rfl, .inl rfl, .inl rfl, .inl rfl, trivial⟩
  refine ev_iload_n dX10_does_11 rfl ?_
  obtain ⟨v3, hc4, h⟩ := bind_of h
  refine ev_invS_v (av := [(0, x2)]) (st := []) (v := (0, v3)) (τ := σ) dX10_does_12 ml_X10_150 mt_X10_isDay rfl ⟨Nat.le_of_ble_eq_true rfl, Nat.le_of_ble_eq_true rfl⟩ (Nat.le_of_ble_eq_true rfl) (c_X10_isDay hc4) ?_
  refine ev_if_eq (tgt := 25) dX10_does_15 rfl h (fun cb h => ?_) (fun cb h => ?_)
  · exact ev_sub (L2 := [(2, (0 : Int)), (9, 0), (9, 0), (9, 0)]) (e_X10_does_25 σ h) ⟨.inr rfl, .inl rfl, .inl rfl, .inl rfl, trivial⟩
  refine ev_iload_n dX10_does_18 rfl ?_
  obtain ⟨v5, hc6, h⟩ := bind_of h
  refine ev_invS_v (av := [(0, x3)]) (st := []) (v := (0, v5)) (τ := σ) dX10_does_19 ml_X10_153 mt_X10_isSlot rfl ⟨Nat.le_of_ble_eq_true rfl, Nat.le_of_ble_eq_true rfl⟩ (Nat.le_of_ble_eq_true rfl) (c_X10_isSlot hc6) ?_
  refine ev_if_ne (tgt := 32) dX10_does_22 rfl h (fun cb h => ?_) (fun cb h => ?_)
  · refine ev_aload_n dX10_does_32 rfl (by decide) ?_
    refine ev_getf (j := 8) (t := 2) (x := (43 : Int)) dX10_does_33 cf_X10 wf_X10_50 sp0 (by decide) (by decide) rfl (by decide) (rp0_8 _) ?_
    refine ev_aload_n dX10_does_36 rfl (by decide) ?_
    refine ev_getf (j := 0) (t := 2) (x := (1 : Int)) dX10_does_37 cf_X10 wf_X10_12 sp0 (by decide) (by decide) rfl (by decide) (rp0_0 _) ?_
    refine ev_iload_n dX10_does_40 rfl ?_
    obtain ⟨v7, hc8, h⟩ := bind_of h
    refine ev_invV_v (k := (43 : Int)) (av := [(2, (1 : Int)), (0, x1)]) (st := []) (v := (2, v7.1)) (τ := v7.2) dX10_does_41 ml_X10_243 mv_X9_of (T := TX9) (ci := 8) rfl sp43 (by decide) (by decide) rfl ⟨Nat.le_of_ble_eq_true rfl, Nat.le_of_ble_eq_true rfl⟩ (Nat.le_of_ble_eq_true rfl) (c_X9_of hc8) ?_
    have hw9 := w_X9_of hc8
    refine ev_iload_n dX10_does_44 rfl ?_
    refine ev_iload_n dX10_does_45 rfl ?_
    obtain ⟨v10, hc11, h⟩ := bind_of h
    refine ev_invV_v (k := v7.1) (av := [(0, x2), (0, x3)]) (st := []) (v := (0, v10)) (τ := v7.2) dX10_does_46 ml_X10_304 mv_X8_deed (T := TX8) (ci := 7) rfl (sW hw9) (pW hw9).1 (pW hw9).2 rfl ⟨Nat.le_of_ble_eq_true rfl, Nat.le_of_ble_eq_true rfl⟩ (Nat.le_of_ble_eq_true rfl) (c_X8_deed hw9 hc11) ?_
    obtain rfl := Option.some.inj h
    dsimp only
    exact ev_iret dX10_does_49 rfl rfl
  exact ev_sub (L2 := [(2, (0 : Int)), (9, 0), (9, 0), (9, 0)]) (e_X10_does_25 σ h) ⟨.inr rfl, .inl rfl, .inl rfl, .inl rfl, trivial⟩
set_option maxHeartbeats 4000000 in
set_option maxRecDepth 20000 in
theorem c_X10_isMeasure {σ : Mem} {x0 : Int}  {q : Int} (h : f_X10_isMeasure σ x0 = some q) : Ms yX10_isMeasure M_X10_isMeasure 181 181 [(0, x0)] rho σ (some (0, q), rho, σ) := by
  refine Ms.of 0 (by decide +kernel) rfl (fun z => absurd z (by decide)) (fun _ _ _ => trivial) rfl rfl ?_
  unfold f_X10_isMeasure at h
  show Ev M_X10_isMeasure 181 181 _ 0 181 rho σ [(0, x0)] []
  refine ev_iload_n dX10_isMeasure_0 rfl ?_
  refine ev_if_lt (tgt := 13) dX10_isMeasure_1 rfl h (fun cb h => ?_) (fun cb h => ?_)
  · refine ev_iconst dX10_isMeasure_13 (by decide) ?_
    obtain rfl := Option.some.inj h
    exact ev_zret dX10_isMeasure_14 rfl (chk_pos (.inl rfl))
  refine ev_iload_n dX10_isMeasure_4 rfl ?_
  refine ev_iconst dX10_isMeasure_5 (by decide) ?_
  refine ev_icmp_ge (tgt := 13) dX10_isMeasure_6 rfl h (fun cb h => ?_) (fun cb h => ?_)
  · refine ev_iconst dX10_isMeasure_13 (by decide) ?_
    obtain rfl := Option.some.inj h
    exact ev_zret dX10_isMeasure_14 rfl (chk_pos (.inl rfl))
  refine ev_iconst dX10_isMeasure_9 (by decide) ?_
  refine ev_goto (tgt := 14) dX10_isMeasure_10 rfl ?_
  obtain rfl := Option.some.inj h
  exact ev_zret dX10_isMeasure_14 rfl (chk_pos (.inr rfl))
set_option maxHeartbeats 4000000 in
set_option maxRecDepth 20000 in
theorem e_X10_measure_25 (σ : Mem)  {q : (Int × Mem)} (h : f_X10_measure_25 σ  = some q) : Ev M_X10_measure 181 181 (some (0, q.1), rho, q.2) 25 181 rho σ [(2, (0 : Int)), (9, 0), (9, 0), (9, 0), (9, 0)] [] := by
  unfold f_X10_measure_25 at h
  refine ev_aload_n dX10_measure_25 rfl (by decide) ?_
  refine ev_bipush dX10_measure_26 (by decide) (by decide) ?_
  obtain ⟨v12, hc13, h⟩ := bind_of h
  refine ev_invV_v (k := (0 : Int)) (av := [(0, (-52 : Int))]) (st := []) (v := (0, v12.1)) (τ := v12.2) dX10_measure_28 ml_X10_88 mv_X10_refuse (T := TX10) (ci := 9) rfl sp0 (by decide) (by decide) rfl ⟨Nat.le_of_ble_eq_true rfl, Nat.le_of_ble_eq_true rfl⟩ (Nat.le_of_ble_eq_true rfl) (c_X10_refuse hc13) ?_
  obtain rfl := Option.some.inj h
  dsimp only
  exact ev_iret dX10_measure_31 rfl rfl
set_option maxHeartbeats 4000000 in
set_option maxRecDepth 20000 in
theorem e_X10_measure_77 (σ : Mem)  {q : (Int × Mem)} (h : f_X10_measure_77 σ  = some q) : Ev M_X10_measure 181 181 (some (0, q.1), rho, q.2) 77 181 rho σ [(2, (0 : Int)), (9, 0), (9, 0), (9, 0), (9, 0)] [] := by
  unfold f_X10_measure_77 at h
  refine ev_aload_n dX10_measure_77 rfl (by decide) ?_
  refine ev_bipush dX10_measure_78 (by decide) (by decide) ?_
  obtain ⟨v14, hc15, h⟩ := bind_of h
  refine ev_invV_v (k := (0 : Int)) (av := [(0, (-55 : Int))]) (st := []) (v := (0, v14.1)) (τ := v14.2) dX10_measure_80 ml_X10_88 mv_X10_refuse (T := TX10) (ci := 9) rfl sp0 (by decide) (by decide) rfl ⟨Nat.le_of_ble_eq_true rfl, Nat.le_of_ble_eq_true rfl⟩ (Nat.le_of_ble_eq_true rfl) (c_X10_refuse hc15) ?_
  obtain rfl := Option.some.inj h
  dsimp only
  exact ev_iret dX10_measure_83 rfl rfl
set_option maxHeartbeats 4000000 in
set_option maxRecDepth 20000 in
theorem c_X10_measure {σ : Mem} {x1 x2 x3 : Int}  {q : (Int × Mem)} (h : f_X10_measure σ x1 x2 x3 = some q) : Ms yX10_measure M_X10_measure 181 181 [(2, (0 : Int)), (0, x1), (0, x2), (0, x3)] rho σ (some (0, q.1), rho, q.2) := by
  refine Ms.of 1 (by decide +kernel) rfl (fun z => absurd z (by decide)) (fun _ _ _ => trivial) rfl rfl ?_
  unfold f_X10_measure at h
  show Ev M_X10_measure 181 181 _ 0 181 rho σ [(2, (0 : Int)), (0, x1), (0, x2), (0, x3), (9, 0)] []
  refine ev_aload_n dX10_measure_0 rfl (by decide) ?_
  refine ev_getf (j := 0) (t := 2) (x := (1 : Int)) dX10_measure_1 cf_X10 wf_X10_12 sp0 (by decide) (by decide) rfl (by decide) (rp0_0 _) ?_
  refine ev_iload_n dX10_measure_4 rfl ?_
  obtain ⟨v1, hc2, h⟩ := bind_of h
  refine ev_invV_v (k := (1 : Int)) (av := [(0, x1)]) (st := []) (v := (0, v1)) (τ := σ) dX10_measure_5 ml_X10_122 mv_X0_hasCand (T := TX0) (ci := 0) rfl sp1 (by decide) (by decide) rfl ⟨Nat.le_of_ble_eq_true rfl, Nat.le_of_ble_eq_true rfl⟩ (Nat.le_of_ble_eq_true rfl) (c_X0_hasCand hB1 hc2) ?_
  refine ev_if_eq (tgt := 25) dX10_measure_8 rfl h (fun cb h => ?_) (fun cb h => ?_)
  · exact ev_sub (L2 := [(2, (0 : Int)), (9, 0), (9, 0), (9, 0), (9, 0)]) (e_X10_measure_25 σ h) ⟨.inr rfl, .inl rfl, .inl rfl, .inl rfl, .inl rfl, trivial⟩
  refine ev_iload_n dX10_measure_11 rfl ?_
  obtain ⟨v3, hc4, h⟩ := bind_of h
  refine ev_invS_v (av := [(0, x2)]) (st := []) (v := (0, v3)) (τ := σ) dX10_measure_12 ml_X10_150 mt_X10_isDay rfl ⟨Nat.le_of_ble_eq_true rfl, Nat.le_of_ble_eq_true rfl⟩ (Nat.le_of_ble_eq_true rfl) (c_X10_isDay hc4) ?_
  refine ev_if_eq (tgt := 25) dX10_measure_15 rfl h (fun cb h => ?_) (fun cb h => ?_)
  · exact ev_sub (L2 := [(2, (0 : Int)), (9, 0), (9, 0), (9, 0), (9, 0)]) (e_X10_measure_25 σ h) ⟨.inr rfl, .inl rfl, .inl rfl, .inl rfl, .inl rfl, trivial⟩
  refine ev_iload_n dX10_measure_18 rfl ?_
  obtain ⟨v5, hc6, h⟩ := bind_of h
  refine ev_invS_v (av := [(0, x3)]) (st := []) (v := (0, v5)) (τ := σ) dX10_measure_19 ml_X10_307 mt_X10_isMeasure rfl ⟨Nat.le_of_ble_eq_true rfl, Nat.le_of_ble_eq_true rfl⟩ (Nat.le_of_ble_eq_true rfl) (c_X10_isMeasure hc6) ?_
  refine ev_if_ne (tgt := 32) dX10_measure_22 rfl h (fun cb h => ?_) (fun cb h => ?_)
  · refine ev_aload_n dX10_measure_32 rfl (by decide) ?_
    refine ev_getf (j := 8) (t := 2) (x := (43 : Int)) dX10_measure_33 cf_X10 wf_X10_50 sp0 (by decide) (by decide) rfl (by decide) (rp0_8 _) ?_
    refine ev_aload_n dX10_measure_36 rfl (by decide) ?_
    refine ev_getf (j := 0) (t := 2) (x := (1 : Int)) dX10_measure_37 cf_X10 wf_X10_12 sp0 (by decide) (by decide) rfl (by decide) (rp0_0 _) ?_
    refine ev_iload_n dX10_measure_40 rfl ?_
    obtain ⟨v7, hc8, h⟩ := bind_of h
    refine ev_invV_v (k := (43 : Int)) (av := [(2, (1 : Int)), (0, x1)]) (st := []) (v := (2, v7.1)) (τ := v7.2) dX10_measure_41 ml_X10_243 mv_X9_of (T := TX9) (ci := 8) rfl sp43 (by decide) (by decide) rfl ⟨Nat.le_of_ble_eq_true rfl, Nat.le_of_ble_eq_true rfl⟩ (Nat.le_of_ble_eq_true rfl) (c_X9_of hc8) ?_
    have hw9 := w_X9_of hc8
    refine ev_astore dX10_measure_44 rfl (by decide) (pW hw9).1 ?_
    show Ev _ _ _ _ 46 _ _ _ [(2, (0 : Int)), (0, x1), (0, x2), (0, x3), (2, v7.1)] _
    refine ev_aload dX10_measure_46 rfl (pW hw9).1 ?_
    refine ev_getf (j := 0) (t := 2) (x := (v7.1 + 1)) dX10_measure_48 cf_X8 wf_X10_265 (sW hw9) (pW hw9).1 (pW hw9).2 rfl (by decide) (rW0 _ hw9) ?_
    refine ev_iload_n dX10_measure_51 rfl ?_
    refine ev_zald dX10_measure_52 (sW0 hw9) (pW0 hw9).1 (pW0 hw9).2 h (fun h => ?_)
    show Ev _ _ _ _ 53 _ _ _ _ _
    refine ev_if_eq (tgt := 77) dX10_measure_53 rfl h (fun cb h => ?_) (fun cb h => ?_)
    · exact ev_sub (L2 := [(2, (0 : Int)), (9, 0), (9, 0), (9, 0), (9, 0)]) (e_X10_measure_77 v7.2 h) ⟨.inr rfl, .inl rfl, .inl rfl, .inl rfl, .inl rfl, trivial⟩
    refine ev_aload dX10_measure_56 rfl (pW hw9).1 ?_
    refine ev_getf (j := 1) (t := 2) (x := (v7.1 + 2)) dX10_measure_58 cf_X8 wf_X10_279 (sW hw9) (pW hw9).1 (pW hw9).2 rfl (by decide) (rW1 _ hw9) ?_
    refine ev_iload_n dX10_measure_61 rfl ?_
    refine ev_iald dX10_measure_62 (sW1 hw9) (pW1 hw9).1 (pW1 hw9).2 h (fun h => ?_)
    refine ev_iconst dX10_measure_63 (by decide) ?_
    refine ev_icmp_ne (tgt := 77) dX10_measure_64 rfl h (fun cb h => ?_) (fun cb h => ?_)
    · exact ev_sub (L2 := [(2, (0 : Int)), (9, 0), (9, 0), (9, 0), (9, 0)]) (e_X10_measure_77 v7.2 h) ⟨.inr rfl, .inl rfl, .inl rfl, .inl rfl, .inl rfl, trivial⟩
    refine ev_aload dX10_measure_67 rfl (pW hw9).1 ?_
    refine ev_getf (j := 4) (t := 2) (x := (v7.1 + 5)) dX10_measure_69 cf_X8 wf_X10_288 (sW hw9) (pW hw9).1 (pW hw9).2 rfl (by decide) (rW4 _ hw9) ?_
    refine ev_iload_n dX10_measure_72 rfl ?_
    refine ev_iald dX10_measure_73 (sW4 hw9) (pW4 hw9).1 (pW4 hw9).2 h (fun h => ?_)
    refine ev_if_ne (tgt := 84) dX10_measure_74 rfl h (fun cb h => ?_) (fun cb h => ?_)
    · refine ev_aload dX10_measure_84 rfl (pW hw9).1 ?_
      refine ev_aload_n dX10_measure_86 rfl (by decide) ?_
      refine ev_getf (j := 0) (t := 2) (x := (1 : Int)) dX10_measure_87 cf_X10 wf_X10_12 sp0 (by decide) (by decide) rfl (by decide) (rp0_0 _) ?_
      refine ev_iload_n dX10_measure_90 rfl ?_
      refine ev_iload_n dX10_measure_91 rfl ?_
      obtain ⟨v10, hc11, h⟩ := bind_of h
      refine ev_invV_v (k := v7.1) (av := [(2, (1 : Int)), (0, x2), (0, x3)]) (st := []) (v := (0, v10)) (τ := v7.2) dX10_measure_92 ml_X10_310 mv_X8_measured (T := TX8) (ci := 7) rfl (sW hw9) (pW hw9).1 (pW hw9).2 rfl ⟨Nat.le_of_ble_eq_true rfl, Nat.le_of_ble_eq_true rfl⟩ (Nat.le_of_ble_eq_true rfl) (c_X8_measured hw9 hB1 hc11) ?_
      obtain rfl := Option.some.inj h
      dsimp only
      exact ev_iret dX10_measure_95 rfl rfl
    exact ev_sub (L2 := [(2, (0 : Int)), (9, 0), (9, 0), (9, 0), (9, 0)]) (e_X10_measure_77 v7.2 h) ⟨.inr rfl, .inl rfl, .inl rfl, .inl rfl, .inl rfl, trivial⟩
  exact ev_sub (L2 := [(2, (0 : Int)), (9, 0), (9, 0), (9, 0), (9, 0)]) (e_X10_measure_25 σ h) ⟨.inr rfl, .inl rfl, .inl rfl, .inl rfl, .inl rfl, trivial⟩
set_option maxHeartbeats 4000000 in
set_option maxRecDepth 20000 in
theorem e_X10_best_25 (σ : Mem)  {q : (Int × Mem)} (h : f_X10_best_25 σ  = some q) : Ev M_X10_best 181 181 (some (0, q.1), rho, q.2) 25 181 rho σ [(2, (0 : Int)), (9, 0), (9, 0), (9, 0), (9, 0), (9, 0)] [] := by
  unfold f_X10_best_25 at h
  refine ev_aload_n dX10_best_25 rfl (by decide) ?_
  refine ev_bipush dX10_best_26 (by decide) (by decide) ?_
  obtain ⟨v22, hc23, h⟩ := bind_of h
  refine ev_invV_v (k := (0 : Int)) (av := [(0, (-52 : Int))]) (st := []) (v := (0, v22.1)) (τ := v22.2) dX10_best_28 ml_X10_88 mv_X10_refuse (T := TX10) (ci := 9) rfl sp0 (by decide) (by decide) rfl ⟨Nat.le_of_ble_eq_true rfl, Nat.le_of_ble_eq_true rfl⟩ (Nat.le_of_ble_eq_true rfl) (c_X10_refuse hc23) ?_
  obtain rfl := Option.some.inj h
  dsimp only
  exact ev_iret dX10_best_31 rfl rfl
set_option maxHeartbeats 4000000 in
set_option maxRecDepth 20000 in
theorem e_X10_best_106 (σ : Mem)  {q : (Int × Mem)} (h : f_X10_best_106 σ  = some q) : Ev M_X10_best 181 181 (some (0, q.1), rho, q.2) 106 181 rho σ [(2, (0 : Int)), (9, 0), (9, 0), (9, 0), (9, 0), (9, 0)] [] := by
  unfold f_X10_best_106 at h
  refine ev_aload_n dX10_best_106 rfl (by decide) ?_
  refine ev_bipush dX10_best_107 (by decide) (by decide) ?_
  obtain ⟨v24, hc25, h⟩ := bind_of h
  refine ev_invV_v (k := (0 : Int)) (av := [(0, (-52 : Int))]) (st := []) (v := (0, v24.1)) (τ := v24.2) dX10_best_109 ml_X10_88 mv_X10_refuse (T := TX10) (ci := 9) rfl sp0 (by decide) (by decide) rfl ⟨Nat.le_of_ble_eq_true rfl, Nat.le_of_ble_eq_true rfl⟩ (Nat.le_of_ble_eq_true rfl) (c_X10_refuse hc25) ?_
  obtain rfl := Option.some.inj h
  dsimp only
  exact ev_iret dX10_best_112 rfl rfl
set_option maxHeartbeats 4000000 in
set_option maxRecDepth 20000 in
theorem c_X10_best {σ : Mem} {x1 x2 x3 x4 : Int}  {q : (Int × Mem)} (h : f_X10_best σ x1 x2 x3 x4 = some q) : Ms yX10_best M_X10_best 181 181 [(2, (0 : Int)), (0, x1), (0, x2), (0, x3), (0, x4)] rho σ (some (0, q.1), rho, q.2) := by
  refine Ms.of 1 (by decide +kernel) rfl (fun z => absurd z (by decide)) (fun _ _ _ => trivial) rfl rfl ?_
  unfold f_X10_best at h
  show Ev M_X10_best 181 181 _ 0 181 rho σ [(2, (0 : Int)), (0, x1), (0, x2), (0, x3), (0, x4), (9, 0)] []
  refine ev_aload_n dX10_best_0 rfl (by decide) ?_
  refine ev_getf (j := 0) (t := 2) (x := (1 : Int)) dX10_best_1 cf_X10 wf_X10_12 sp0 (by decide) (by decide) rfl (by decide) (rp0_0 _) ?_
  refine ev_iload_n dX10_best_4 rfl ?_
  obtain ⟨v1, hc2, h⟩ := bind_of h
  refine ev_invV_v (k := (1 : Int)) (av := [(0, x1)]) (st := []) (v := (0, v1)) (τ := σ) dX10_best_5 ml_X10_122 mv_X0_hasCand (T := TX0) (ci := 0) rfl sp1 (by decide) (by decide) rfl ⟨Nat.le_of_ble_eq_true rfl, Nat.le_of_ble_eq_true rfl⟩ (Nat.le_of_ble_eq_true rfl) (c_X0_hasCand hB1 hc2) ?_
  refine ev_if_eq (tgt := 25) dX10_best_8 rfl h (fun cb h => ?_) (fun cb h => ?_)
  · exact ev_sub (L2 := [(2, (0 : Int)), (9, 0), (9, 0), (9, 0), (9, 0), (9, 0)]) (e_X10_best_25 σ h) ⟨.inr rfl, .inl rfl, .inl rfl, .inl rfl, .inl rfl, .inl rfl, trivial⟩
  refine ev_iload_n dX10_best_11 rfl ?_
  obtain ⟨v3, hc4, h⟩ := bind_of h
  refine ev_invS_v (av := [(0, x2)]) (st := []) (v := (0, v3)) (τ := σ) dX10_best_12 ml_X10_150 mt_X10_isDay rfl ⟨Nat.le_of_ble_eq_true rfl, Nat.le_of_ble_eq_true rfl⟩ (Nat.le_of_ble_eq_true rfl) (c_X10_isDay hc4) ?_
  refine ev_if_eq (tgt := 25) dX10_best_15 rfl h (fun cb h => ?_) (fun cb h => ?_)
  · exact ev_sub (L2 := [(2, (0 : Int)), (9, 0), (9, 0), (9, 0), (9, 0), (9, 0)]) (e_X10_best_25 σ h) ⟨.inr rfl, .inl rfl, .inl rfl, .inl rfl, .inl rfl, .inl rfl, trivial⟩
  refine ev_iload_n dX10_best_18 rfl ?_
  obtain ⟨v5, hc6, h⟩ := bind_of h
  refine ev_invS_v (av := [(0, x3)]) (st := []) (v := (0, v5)) (τ := σ) dX10_best_19 ml_X10_307 mt_X10_isMeasure rfl ⟨Nat.le_of_ble_eq_true rfl, Nat.le_of_ble_eq_true rfl⟩ (Nat.le_of_ble_eq_true rfl) (c_X10_isMeasure hc6) ?_
  refine ev_if_ne (tgt := 32) dX10_best_22 rfl h (fun cb h => ?_) (fun cb h => ?_)
  · refine ev_aload_n dX10_best_32 rfl (by decide) ?_
    refine ev_getf (j := 7) (t := 2) (x := (35 : Int)) dX10_best_33 cf_X10 wf_X10_43 sp0 (by decide) (by decide) rfl (by decide) (rp0_7 _) ?_
    refine ev_aload_n dX10_best_36 rfl (by decide) ?_
    refine ev_getf (j := 0) (t := 2) (x := (1 : Int)) dX10_best_37 cf_X10 wf_X10_12 sp0 (by decide) (by decide) rfl (by decide) (rp0_0 _) ?_
    refine ev_iload_n dX10_best_40 rfl ?_
    refine ev_iload_n dX10_best_41 rfl ?_
    refine ev_aload_n dX10_best_42 rfl (by decide) ?_
    refine ev_getf (j := 8) (t := 2) (x := (43 : Int)) dX10_best_43 cf_X10 wf_X10_50 sp0 (by decide) (by decide) rfl (by decide) (rp0_8 _) ?_
    refine ev_aload_n dX10_best_46 rfl (by decide) ?_
    refine ev_getf (j := 0) (t := 2) (x := (1 : Int)) dX10_best_47 cf_X10 wf_X10_12 sp0 (by decide) (by decide) rfl (by decide) (rp0_0 _) ?_
    refine ev_iload_n dX10_best_50 rfl ?_
    show Ev _ _ _ _ 51 _ _ _ _ _
    obtain ⟨v7, hc8, h⟩ := bind_of h
    refine ev_invV_v (k := (43 : Int)) (av := [(2, (1 : Int)), (0, x1)]) (st := [(0, x2), (0, x1), (2, (1 : Int)), (2, (35 : Int))]) (v := (2, v7.1)) (τ := v7.2) dX10_best_51 ml_X10_243 mv_X9_of (T := TX9) (ci := 8) rfl sp43 (by decide) (by decide) rfl ⟨Nat.le_of_ble_eq_true rfl, Nat.le_of_ble_eq_true rfl⟩ (Nat.le_of_ble_eq_true rfl) (c_X9_of hc8) ?_
    have hw9 := w_X9_of hc8
    obtain ⟨σ10, hc11, h⟩ := bind_of h
    refine ev_invV_v (k := (35 : Int)) (av := [(2, (1 : Int)), (0, x1), (0, x2), (2, v7.1)]) (st := []) (v := (2, (36 : Int))) (τ := σ10) dX10_best_54 ml_X10_314 mv_X4_ordersOf (T := TX4) (ci := 3) rfl sp35 (by decide) (by decide) rfl ⟨Nat.le_of_ble_eq_true rfl, Nat.le_of_ble_eq_true rfl⟩ (Nat.le_of_ble_eq_true rfl) (c_X4_ordersOf hB1 hw9 hc11) ?_
    refine ev_astore dX10_best_57 rfl (by decide) (by decide) ?_
    show Ev _ _ _ _ 59 _ _ _ [(2, (0 : Int)), (0, x1), (0, x2), (0, x3), (0, x4), (2, (36 : Int))] _
    refine ev_aload dX10_best_59 rfl (by decide) ?_
    obtain ⟨v12, hc13, h⟩ := bind_of h
    refine ev_invV_v (k := (36 : Int)) (av := []) (st := []) (v := (0, v12)) (τ := σ10) dX10_best_61 ml_X10_318 mv_X3_count (T := TX3) (ci := 2) rfl sp36 (by decide) (by decide) rfl ⟨Nat.le_of_ble_eq_true rfl, Nat.le_of_ble_eq_true rfl⟩ (Nat.le_of_ble_eq_true rfl) (c_X3_count hc13) ?_
    refine ev_if_eq (tgt := 77) dX10_best_64 rfl h (fun cb h => ?_) (fun cb h => ?_)
    · refine ev_iconst dX10_best_77 (by decide) ?_
      obtain rfl := Option.some.inj h
      dsimp only
      exact ev_iret dX10_best_78 rfl rfl
    refine ev_aload dX10_best_67 rfl (by decide) ?_
    refine ev_iload_n dX10_best_69 rfl ?_
    refine ev_lconst (x := (0 : Int)) dX10_best_70 (by decide) (by decide) ?_
    obtain ⟨v14, hc15, h⟩ := bind_of h
    refine ev_invV_v (k := (36 : Int)) (av := [(0, x3), (1, (0 : Int))]) (st := []) (v := (0, v14.1)) (τ := v14.2) dX10_best_71 ml_X10_322 mv_X3_search (T := TX3) (ci := 2) rfl sp36 (by decide) (by decide) rfl ⟨Nat.le_of_ble_eq_true rfl, Nat.le_of_ble_eq_true rfl⟩ (Nat.le_of_ble_eq_true rfl) (c_X3_search hc15) ?_
    refine ev_if_ne (tgt := 79) dX10_best_74 rfl h (fun cb h => ?_) (fun cb h => ?_)
    · refine ev_iload dX10_best_79 rfl ?_
      refine ev_iconst dX10_best_81 (by decide) ?_
      refine ev_icmp_ne (tgt := 91) dX10_best_82 rfl h (fun cb h => ?_) (fun cb h => ?_)
      · refine ev_iload dX10_best_91 rfl ?_
        refine ev_if_lt (tgt := 106) dX10_best_93 rfl h (fun cb h => ?_) (fun cb h => ?_)
        · exact ev_sub (L2 := [(2, (0 : Int)), (9, 0), (9, 0), (9, 0), (9, 0), (9, 0)]) (e_X10_best_106 v14.2 h) ⟨.inr rfl, .inl rfl, .inl rfl, .inl rfl, .inl rfl, .inl rfl, trivial⟩
        refine ev_iload dX10_best_96 rfl ?_
        refine ev_aload dX10_best_98 rfl (by decide) ?_
        obtain ⟨v16, hc17, h⟩ := bind_of h
        refine ev_invV_v (k := (36 : Int)) (av := []) (st := [(0, x4)]) (v := (0, v16)) (τ := v14.2) dX10_best_100 ml_X10_318 mv_X3_count (T := TX3) (ci := 2) rfl sp36 (by decide) (by decide) rfl ⟨Nat.le_of_ble_eq_true rfl, Nat.le_of_ble_eq_true rfl⟩ (Nat.le_of_ble_eq_true rfl) (c_X3_count hc17) ?_
        refine ev_icmp_lt (tgt := 113) dX10_best_103 rfl h (fun cb h => ?_) (fun cb h => ?_)
        · refine ev_aload dX10_best_113 rfl (by decide) ?_
          refine ev_iload dX10_best_115 rfl ?_
          obtain ⟨v18, hc19, h⟩ := bind_of h
          refine ev_invV_v (k := (36 : Int)) (av := [(0, x4)]) (st := []) (v := (0, v18)) (τ := v14.2) dX10_best_117 ml_X10_329 mv_X3_paperAt (T := TX3) (ci := 2) rfl sp36 (by decide) (by decide) rfl ⟨Nat.le_of_ble_eq_true rfl, Nat.le_of_ble_eq_true rfl⟩ (Nat.le_of_ble_eq_true rfl) (c_X3_paperAt hc19) ?_
          obtain rfl := Option.some.inj h
          dsimp only
          exact ev_iret dX10_best_120 rfl rfl
        exact ev_sub (L2 := [(2, (0 : Int)), (9, 0), (9, 0), (9, 0), (9, 0), (9, 0)]) (e_X10_best_106 v14.2 h) ⟨.inr rfl, .inl rfl, .inl rfl, .inl rfl, .inl rfl, .inl rfl, trivial⟩
      refine ev_aload dX10_best_85 rfl (by decide) ?_
      obtain ⟨v20, hc21, h⟩ := bind_of h
      refine ev_invV_v (k := (36 : Int)) (av := []) (st := []) (v := (0, v20)) (τ := v14.2) dX10_best_87 ml_X10_326 mv_X3_least (T := TX3) (ci := 2) rfl sp36 (by decide) (by decide) rfl ⟨Nat.le_of_ble_eq_true rfl, Nat.le_of_ble_eq_true rfl⟩ (Nat.le_of_ble_eq_true rfl) (c_X3_least hc21) ?_
      obtain rfl := Option.some.inj h
      dsimp only
      exact ev_iret dX10_best_90 rfl rfl
    refine ev_iconst dX10_best_77 (by decide) ?_
    obtain rfl := Option.some.inj h
    dsimp only
    exact ev_iret dX10_best_78 rfl rfl
  exact ev_sub (L2 := [(2, (0 : Int)), (9, 0), (9, 0), (9, 0), (9, 0), (9, 0)]) (e_X10_best_25 σ h) ⟨.inr rfl, .inl rfl, .inl rfl, .inl rfl, .inl rfl, .inl rfl, trivial⟩
set_option maxHeartbeats 4000000 in
set_option maxRecDepth 20000 in
theorem e_X10_lawful_18 (σ : Mem)  {q : (Int × Mem)} (h : f_X10_lawful_18 σ  = some q) : Ev M_X10_lawful 181 181 (some (0, q.1), rho, q.2) 18 181 rho σ [(2, (0 : Int)), (9, 0), (9, 0), (9, 0)] [] := by
  unfold f_X10_lawful_18 at h
  refine ev_aload_n dX10_lawful_18 rfl (by decide) ?_
  refine ev_bipush dX10_lawful_19 (by decide) (by decide) ?_
  obtain ⟨v14, hc15, h⟩ := bind_of h
  refine ev_invV_v (k := (0 : Int)) (av := [(0, (-52 : Int))]) (st := []) (v := (0, v14.1)) (τ := v14.2) dX10_lawful_21 ml_X10_88 mv_X10_refuse (T := TX10) (ci := 9) rfl sp0 (by decide) (by decide) rfl ⟨Nat.le_of_ble_eq_true rfl, Nat.le_of_ble_eq_true rfl⟩ (Nat.le_of_ble_eq_true rfl) (c_X10_refuse hc15) ?_
  obtain rfl := Option.some.inj h
  dsimp only
  exact ev_iret dX10_lawful_24 rfl rfl
set_option maxHeartbeats 4000000 in
set_option maxRecDepth 20000 in
theorem c_X10_lawful {σ : Mem} {x1 x2 : Int}  {q : (Int × Mem)} (h : f_X10_lawful σ x1 x2 = some q) : Ms yX10_lawful M_X10_lawful 181 181 [(2, (0 : Int)), (0, x1), (0, x2)] rho σ (some (0, q.1), rho, q.2) := by
  refine Ms.of 1 (by decide +kernel) rfl (fun z => absurd z (by decide)) (fun _ _ _ => trivial) rfl rfl ?_
  unfold f_X10_lawful at h
  show Ev M_X10_lawful 181 181 _ 0 181 rho σ [(2, (0 : Int)), (0, x1), (0, x2), (9, 0)] []
  refine ev_aload_n dX10_lawful_0 rfl (by decide) ?_
  refine ev_getf (j := 0) (t := 2) (x := (1 : Int)) dX10_lawful_1 cf_X10 wf_X10_12 sp0 (by decide) (by decide) rfl (by decide) (rp0_0 _) ?_
  refine ev_iload_n dX10_lawful_4 rfl ?_
  obtain ⟨v1, hc2, h⟩ := bind_of h
  refine ev_invV_v (k := (1 : Int)) (av := [(0, x1)]) (st := []) (v := (0, v1)) (τ := σ) dX10_lawful_5 ml_X10_122 mv_X0_hasCand (T := TX0) (ci := 0) rfl sp1 (by decide) (by decide) rfl ⟨Nat.le_of_ble_eq_true rfl, Nat.le_of_ble_eq_true rfl⟩ (Nat.le_of_ble_eq_true rfl) (c_X0_hasCand hB1 hc2) ?_
  refine ev_if_eq (tgt := 18) dX10_lawful_8 rfl h (fun cb h => ?_) (fun cb h => ?_)
  · exact ev_sub (L2 := [(2, (0 : Int)), (9, 0), (9, 0), (9, 0)]) (e_X10_lawful_18 σ h) ⟨.inr rfl, .inl rfl, .inl rfl, .inl rfl, trivial⟩
  refine ev_iload_n dX10_lawful_11 rfl ?_
  obtain ⟨v3, hc4, h⟩ := bind_of h
  refine ev_invS_v (av := [(0, x2)]) (st := []) (v := (0, v3)) (τ := σ) dX10_lawful_12 ml_X10_150 mt_X10_isDay rfl ⟨Nat.le_of_ble_eq_true rfl, Nat.le_of_ble_eq_true rfl⟩ (Nat.le_of_ble_eq_true rfl) (c_X10_isDay hc4) ?_
  refine ev_if_ne (tgt := 25) dX10_lawful_15 rfl h (fun cb h => ?_) (fun cb h => ?_)
  · refine ev_aload_n dX10_lawful_25 rfl (by decide) ?_
    refine ev_getf (j := 7) (t := 2) (x := (35 : Int)) dX10_lawful_26 cf_X10 wf_X10_43 sp0 (by decide) (by decide) rfl (by decide) (rp0_7 _) ?_
    refine ev_aload_n dX10_lawful_29 rfl (by decide) ?_
    refine ev_getf (j := 0) (t := 2) (x := (1 : Int)) dX10_lawful_30 cf_X10 wf_X10_12 sp0 (by decide) (by decide) rfl (by decide) (rp0_0 _) ?_
    refine ev_iload_n dX10_lawful_33 rfl ?_
    refine ev_iload_n dX10_lawful_34 rfl ?_
    refine ev_aload_n dX10_lawful_35 rfl (by decide) ?_
    refine ev_getf (j := 8) (t := 2) (x := (43 : Int)) dX10_lawful_36 cf_X10 wf_X10_50 sp0 (by decide) (by decide) rfl (by decide) (rp0_8 _) ?_
    refine ev_aload_n dX10_lawful_39 rfl (by decide) ?_
    refine ev_getf (j := 0) (t := 2) (x := (1 : Int)) dX10_lawful_40 cf_X10 wf_X10_12 sp0 (by decide) (by decide) rfl (by decide) (rp0_0 _) ?_
    refine ev_iload_n dX10_lawful_43 rfl ?_
    show Ev _ _ _ _ 44 _ _ _ _ _
    obtain ⟨v5, hc6, h⟩ := bind_of h
    refine ev_invV_v (k := (43 : Int)) (av := [(2, (1 : Int)), (0, x1)]) (st := [(0, x2), (0, x1), (2, (1 : Int)), (2, (35 : Int))]) (v := (2, v5.1)) (τ := v5.2) dX10_lawful_44 ml_X10_243 mv_X9_of (T := TX9) (ci := 8) rfl sp43 (by decide) (by decide) rfl ⟨Nat.le_of_ble_eq_true rfl, Nat.le_of_ble_eq_true rfl⟩ (Nat.le_of_ble_eq_true rfl) (c_X9_of hc6) ?_
    have hw7 := w_X9_of hc6
    obtain ⟨σ8, hc9, h⟩ := bind_of h
    refine ev_invV_v (k := (35 : Int)) (av := [(2, (1 : Int)), (0, x1), (0, x2), (2, v5.1)]) (st := []) (v := (2, (36 : Int))) (τ := σ8) dX10_lawful_47 ml_X10_314 mv_X4_ordersOf (T := TX4) (ci := 3) rfl sp35 (by decide) (by decide) rfl ⟨Nat.le_of_ble_eq_true rfl, Nat.le_of_ble_eq_true rfl⟩ (Nat.le_of_ble_eq_true rfl) (c_X4_ordersOf hB1 hw7 hc9) ?_
    refine ev_astore_n dX10_lawful_50 rfl (by decide) (by decide) ?_
    show Ev _ _ _ _ 51 _ _ _ [(2, (0 : Int)), (0, x1), (0, x2), (2, (36 : Int))] _
    refine ev_aload_n dX10_lawful_51 rfl (by decide) ?_
    refine ev_iconst dX10_lawful_52 (by decide) ?_
    refine ev_lconst (x := (0 : Int)) dX10_lawful_53 (by decide) (by decide) ?_
    obtain ⟨v10, hc11, h⟩ := bind_of h
    refine ev_invV_v (k := (36 : Int)) (av := [(0, (0 : Int)), (1, (0 : Int))]) (st := []) (v := (0, v10.1)) (τ := v10.2) dX10_lawful_54 ml_X10_322 mv_X3_search (T := TX3) (ci := 2) rfl sp36 (by decide) (by decide) rfl ⟨Nat.le_of_ble_eq_true rfl, Nat.le_of_ble_eq_true rfl⟩ (Nat.le_of_ble_eq_true rfl) (c_X3_search hc11) ?_
    refine ev_pop dX10_lawful_57 (show (0 : Nat) ≠ 1 by decide) ?_
    refine ev_aload_n dX10_lawful_58 rfl (by decide) ?_
    obtain ⟨v12, hc13, h⟩ := bind_of h
    refine ev_invV_v (k := (36 : Int)) (av := []) (st := []) (v := (0, v12)) (τ := v10.2) dX10_lawful_59 ml_X10_332 mv_X3_lawfulOnes (T := TX3) (ci := 2) rfl sp36 (by decide) (by decide) rfl ⟨Nat.le_of_ble_eq_true rfl, Nat.le_of_ble_eq_true rfl⟩ (Nat.le_of_ble_eq_true rfl) (c_X3_lawfulOnes hc13) ?_
    obtain rfl := Option.some.inj h
    dsimp only
    exact ev_iret dX10_lawful_62 rfl rfl
  exact ev_sub (L2 := [(2, (0 : Int)), (9, 0), (9, 0), (9, 0)]) (e_X10_lawful_18 σ h) ⟨.inr rfl, .inl rfl, .inl rfl, .inl rfl, trivial⟩
set_option maxHeartbeats 4000000 in
set_option maxRecDepth 20000 in
theorem e_X10_watch_9 (σ : Mem)  {q : (Int × Mem)} (h : f_X10_watch_9 σ  = some q) : Ev M_X10_watch 181 181 (some (0, q.1), rho, q.2) 9 181 rho σ [(2, (0 : Int)), (9, 0)] [] := by
  unfold f_X10_watch_9 at h
  refine ev_aload_n dX10_watch_9 rfl (by decide) ?_
  refine ev_bipush dX10_watch_10 (by decide) (by decide) ?_
  obtain ⟨v9, hc10, h⟩ := bind_of h
  refine ev_invV_v (k := (0 : Int)) (av := [(0, (-52 : Int))]) (st := []) (v := (0, v9.1)) (τ := v9.2) dX10_watch_12 ml_X10_88 mv_X10_refuse (T := TX10) (ci := 9) rfl sp0 (by decide) (by decide) rfl ⟨Nat.le_of_ble_eq_true rfl, Nat.le_of_ble_eq_true rfl⟩ (Nat.le_of_ble_eq_true rfl) (c_X10_refuse hc10) ?_
  obtain rfl := Option.some.inj h
  dsimp only
  exact ev_iret dX10_watch_15 rfl rfl
set_option maxHeartbeats 4000000 in
set_option maxRecDepth 20000 in
theorem c_X10_watch {σ : Mem} {x1 : Int}  {q : (Int × Mem)} (h : f_X10_watch σ x1 = some q) : Ms yX10_watch M_X10_watch 181 181 [(2, (0 : Int)), (0, x1)] rho σ (some (0, q.1), rho, q.2) := by
  refine Ms.of 0 (by decide +kernel) rfl (fun z => absurd z (by decide)) (fun _ _ _ => trivial) rfl rfl ?_
  unfold f_X10_watch at h
  show Ev M_X10_watch 181 181 _ 0 181 rho σ [(2, (0 : Int)), (0, x1)] []
  refine ev_iload_n dX10_watch_0 rfl ?_
  refine ev_if_lt (tgt := 9) dX10_watch_1 rfl h (fun cb h => ?_) (fun cb h => ?_)
  · exact ev_sub (L2 := [(2, (0 : Int)), (9, 0)]) (e_X10_watch_9 σ h) ⟨.inr rfl, .inl rfl, trivial⟩
  refine ev_iload_n dX10_watch_4 rfl ?_
  refine ev_iconst dX10_watch_5 (by decide) ?_
  refine ev_icmp_le (tgt := 16) dX10_watch_6 rfl h (fun cb h => ?_) (fun cb h => ?_)
  · refine ev_aload_n dX10_watch_16 rfl (by decide) ?_
    refine ev_getf (j := 10) (t := 2) (x := (164 : Int)) dX10_watch_17 cf_X10 wf_X10_64 sp0 (by decide) (by decide) rfl (by decide) (rp0_10 _) ?_
    refine ev_aload_n dX10_watch_20 rfl (by decide) ?_
    refine ev_getf (j := 0) (t := 2) (x := (1 : Int)) dX10_watch_21 cf_X10 wf_X10_12 sp0 (by decide) (by decide) rfl (by decide) (rp0_0 _) ?_
    refine ev_aload_n dX10_watch_24 rfl (by decide) ?_
    refine ev_getf (j := 8) (t := 2) (x := (43 : Int)) dX10_watch_25 cf_X10 wf_X10_50 sp0 (by decide) (by decide) rfl (by decide) (rp0_8 _) ?_
    obtain ⟨σ1, hc2, h⟩ := bind_of h
    refine ev_invV_n (k := (164 : Int)) (av := [(2, (1 : Int)), (2, (43 : Int))]) (st := []) (τ := σ1) dX10_watch_28 ml_X10_335 mv_X1_gather (T := TX1) (ci := 1) rfl sp164 (by decide) (by decide) rfl ⟨Nat.le_of_ble_eq_true rfl, Nat.le_of_ble_eq_true rfl⟩ (Nat.le_of_ble_eq_true rfl) (c_X1_gather hc2) ?_
    refine ev_iload_n dX10_watch_31 rfl ?_
    refine ev_by h (fun cs h => ?_) (fun cs0 h => ?_)
    · refine ev_lsw (off := 28) (tgt := 60) dX10_watch_32 (by decide) (by rw [cs]; rfl) rfl ?_
      refine ev_aload_n dX10_watch_60 rfl (by decide) ?_
      refine ev_getf (j := 10) (t := 2) (x := (164 : Int)) dX10_watch_61 cf_X10 wf_X10_64 sp0 (by decide) (by decide) rfl (by decide) (rp0_10 _) ?_
      obtain ⟨v3, hc4, h⟩ := bind_of h
      refine ev_invV_v (k := (164 : Int)) (av := []) (st := []) (v := (0, v3)) (τ := σ1) dX10_watch_64 ml_X10_339 mv_X1_count (T := TX1) (ci := 1) rfl sp164 (by decide) (by decide) rfl ⟨Nat.le_of_ble_eq_true rfl, Nat.le_of_ble_eq_true rfl⟩ (Nat.le_of_ble_eq_true rfl) (c_X1_count hc4) ?_
      obtain rfl := Option.some.inj h
      dsimp only
      exact ev_iret dX10_watch_67 rfl rfl
    refine ev_by h (fun cs h => ?_) (fun cs1 h => ?_)
    · refine ev_lsw (off := 36) (tgt := 68) dX10_watch_32 (by decide) (by rw [cs]; rfl) rfl ?_
      refine ev_aload_n dX10_watch_68 rfl (by decide) ?_
      refine ev_getf (j := 10) (t := 2) (x := (164 : Int)) dX10_watch_69 cf_X10 wf_X10_64 sp0 (by decide) (by decide) rfl (by decide) (rp0_10 _) ?_
      obtain ⟨v5, hc6, h⟩ := bind_of h
      refine ev_invV_v (k := (164 : Int)) (av := []) (st := []) (v := (0, v5)) (τ := σ1) dX10_watch_72 ml_X10_340 mv_X1_watchers (T := TX1) (ci := 1) rfl sp164 (by decide) (by decide) rfl ⟨Nat.le_of_ble_eq_true rfl, Nat.le_of_ble_eq_true rfl⟩ (Nat.le_of_ble_eq_true rfl) (c_X1_watchers hc6) ?_
      obtain rfl := Option.some.inj h
      dsimp only
      exact ev_iret dX10_watch_75 rfl rfl
    refine ev_lsw (off := 44) (tgt := 76) dX10_watch_32 (by decide) (by simp [Op.lookupswitch.offset, Ne.symm cs0, Ne.symm cs1, cs0, cs1]) rfl ?_
    refine ev_aload_n dX10_watch_76 rfl (by decide) ?_
    refine ev_getf (j := 10) (t := 2) (x := (164 : Int)) dX10_watch_77 cf_X10 wf_X10_64 sp0 (by decide) (by decide) rfl (by decide) (rp0_10 _) ?_
    obtain ⟨v7, hc8, h⟩ := bind_of h
    refine ev_invV_v (k := (164 : Int)) (av := []) (st := []) (v := (0, v7)) (τ := σ1) dX10_watch_80 ml_X10_343 mv_X1_atOnce (T := TX1) (ci := 1) rfl sp164 (by decide) (by decide) rfl ⟨Nat.le_of_ble_eq_true rfl, Nat.le_of_ble_eq_true rfl⟩ (Nat.le_of_ble_eq_true rfl) (c_X1_atOnce hc8) ?_
    obtain rfl := Option.some.inj h
    dsimp only
    exact ev_iret dX10_watch_83 rfl rfl
  exact ev_sub (L2 := [(2, (0 : Int)), (9, 0)]) (e_X10_watch_9 σ h) ⟨.inr rfl, .inl rfl, trivial⟩
set_option maxHeartbeats 4000000 in
set_option maxRecDepth 20000 in
theorem e_X10_duty_39 (σ : Mem)  {q : (Int × Mem)} (h : f_X10_duty_39 σ  = some q) : Ev M_X10_duty 181 181 (some (0, q.1), rho, q.2) 39 181 rho σ [(2, (0 : Int)), (9, 0), (9, 0)] [] := by
  unfold f_X10_duty_39 at h
  refine ev_aload_n dX10_duty_39 rfl (by decide) ?_
  refine ev_bipush dX10_duty_40 (by decide) (by decide) ?_
  obtain ⟨v7, hc8, h⟩ := bind_of h
  refine ev_invV_v (k := (0 : Int)) (av := [(0, (-52 : Int))]) (st := []) (v := (0, v7.1)) (τ := v7.2) dX10_duty_42 ml_X10_88 mv_X10_refuse (T := TX10) (ci := 9) rfl sp0 (by decide) (by decide) rfl ⟨Nat.le_of_ble_eq_true rfl, Nat.le_of_ble_eq_true rfl⟩ (Nat.le_of_ble_eq_true rfl) (c_X10_refuse hc8) ?_
  obtain rfl := Option.some.inj h
  dsimp only
  exact ev_iret dX10_duty_45 rfl rfl
set_option maxHeartbeats 4000000 in
set_option maxRecDepth 20000 in
theorem c_X10_duty {σ : Mem} {x1 x2 : Int}  {q : (Int × Mem)} (h : f_X10_duty σ x1 x2 = some q) : Ms yX10_duty M_X10_duty 181 181 [(2, (0 : Int)), (0, x1), (0, x2)] rho σ (some (0, q.1), rho, q.2) := by
  refine Ms.of 0 (by decide +kernel) rfl (fun z => absurd z (by decide)) (fun _ _ _ => trivial) rfl rfl ?_
  unfold f_X10_duty at h
  show Ev M_X10_duty 181 181 _ 0 181 rho σ [(2, (0 : Int)), (0, x1), (0, x2)] []
  refine ev_aload_n dX10_duty_0 rfl (by decide) ?_
  refine ev_getf (j := 10) (t := 2) (x := (164 : Int)) dX10_duty_1 cf_X10 wf_X10_64 sp0 (by decide) (by decide) rfl (by decide) (rp0_10 _) ?_
  refine ev_aload_n dX10_duty_4 rfl (by decide) ?_
  refine ev_getf (j := 0) (t := 2) (x := (1 : Int)) dX10_duty_5 cf_X10 wf_X10_12 sp0 (by decide) (by decide) rfl (by decide) (rp0_0 _) ?_
  refine ev_aload_n dX10_duty_8 rfl (by decide) ?_
  refine ev_getf (j := 8) (t := 2) (x := (43 : Int)) dX10_duty_9 cf_X10 wf_X10_50 sp0 (by decide) (by decide) rfl (by decide) (rp0_8 _) ?_
  obtain ⟨σ1, hc2, h⟩ := bind_of h
  refine ev_invV_n (k := (164 : Int)) (av := [(2, (1 : Int)), (2, (43 : Int))]) (st := []) (τ := σ1) dX10_duty_12 ml_X10_335 mv_X1_gather (T := TX1) (ci := 1) rfl sp164 (by decide) (by decide) rfl ⟨Nat.le_of_ble_eq_true rfl, Nat.le_of_ble_eq_true rfl⟩ (Nat.le_of_ble_eq_true rfl) (c_X1_gather hc2) ?_
  refine ev_iload_n dX10_duty_15 rfl ?_
  refine ev_if_lt (tgt := 39) dX10_duty_16 rfl h (fun cb h => ?_) (fun cb h => ?_)
  · exact ev_sub (L2 := [(2, (0 : Int)), (9, 0), (9, 0)]) (e_X10_duty_39 σ1 h) ⟨.inr rfl, .inl rfl, .inl rfl, trivial⟩
  refine ev_iload_n dX10_duty_19 rfl ?_
  refine ev_aload_n dX10_duty_20 rfl (by decide) ?_
  refine ev_getf (j := 10) (t := 2) (x := (164 : Int)) dX10_duty_21 cf_X10 wf_X10_64 sp0 (by decide) (by decide) rfl (by decide) (rp0_10 _) ?_
  obtain ⟨v3, hc4, h⟩ := bind_of h
  refine ev_invV_v (k := (164 : Int)) (av := []) (st := [(0, x1)]) (v := (0, v3)) (τ := σ1) dX10_duty_24 ml_X10_339 mv_X1_count (T := TX1) (ci := 1) rfl sp164 (by decide) (by decide) rfl ⟨Nat.le_of_ble_eq_true rfl, Nat.le_of_ble_eq_true rfl⟩ (Nat.le_of_ble_eq_true rfl) (c_X1_count hc4) ?_
  refine ev_icmp_ge (tgt := 39) dX10_duty_27 rfl h (fun cb h => ?_) (fun cb h => ?_)
  · exact ev_sub (L2 := [(2, (0 : Int)), (9, 0), (9, 0)]) (e_X10_duty_39 σ1 h) ⟨.inr rfl, .inl rfl, .inl rfl, trivial⟩
  refine ev_iload_n dX10_duty_30 rfl ?_
  refine ev_if_lt (tgt := 39) dX10_duty_31 rfl h (fun cb h => ?_) (fun cb h => ?_)
  · exact ev_sub (L2 := [(2, (0 : Int)), (9, 0), (9, 0)]) (e_X10_duty_39 σ1 h) ⟨.inr rfl, .inl rfl, .inl rfl, trivial⟩
  refine ev_iload_n dX10_duty_34 rfl ?_
  refine ev_iconst dX10_duty_35 (by decide) ?_
  refine ev_icmp_le (tgt := 46) dX10_duty_36 rfl h (fun cb h => ?_) (fun cb h => ?_)
  · refine ev_aload_n dX10_duty_46 rfl (by decide) ?_
    refine ev_getf (j := 10) (t := 2) (x := (164 : Int)) dX10_duty_47 cf_X10 wf_X10_64 sp0 (by decide) (by decide) rfl (by decide) (rp0_10 _) ?_
    refine ev_iload_n dX10_duty_50 rfl ?_
    refine ev_iload_n dX10_duty_51 rfl ?_
    obtain ⟨v5, hc6, h⟩ := bind_of h
    refine ev_invV_v (k := (164 : Int)) (av := [(0, x1), (0, x2)]) (st := []) (v := (0, v5)) (τ := σ1) dX10_duty_52 ml_X10_346 mv_X1_tell (T := TX1) (ci := 1) rfl sp164 (by decide) (by decide) rfl ⟨Nat.le_of_ble_eq_true rfl, Nat.le_of_ble_eq_true rfl⟩ (Nat.le_of_ble_eq_true rfl) (c_X1_tell hc6) ?_
    obtain rfl := Option.some.inj h
    dsimp only
    exact ev_iret dX10_duty_55 rfl rfl
  exact ev_sub (L2 := [(2, (0 : Int)), (9, 0), (9, 0)]) (e_X10_duty_39 σ1 h) ⟨.inr rfl, .inl rfl, .inl rfl, trivial⟩
set_option maxHeartbeats 4000000 in
set_option maxRecDepth 20000 in
theorem e_X10_pieces_27 (σ : Mem)  {q : (Int × Mem)} (h : f_X10_pieces_27 σ  = some q) : Ev M_X10_pieces 181 181 (some (0, q.1), rho, q.2) 27 181 rho σ [(2, (0 : Int)), (9, 0), (9, 0), (9, 0)] [] := by
  unfold f_X10_pieces_27 at h
  refine ev_aload_n dX10_pieces_27 rfl (by decide) ?_
  refine ev_bipush dX10_pieces_28 (by decide) (by decide) ?_
  obtain ⟨v11, hc12, h⟩ := bind_of h
  refine ev_invV_v (k := (0 : Int)) (av := [(0, (-52 : Int))]) (st := []) (v := (0, v11.1)) (τ := v11.2) dX10_pieces_30 ml_X10_88 mv_X10_refuse (T := TX10) (ci := 9) rfl sp0 (by decide) (by decide) rfl ⟨Nat.le_of_ble_eq_true rfl, Nat.le_of_ble_eq_true rfl⟩ (Nat.le_of_ble_eq_true rfl) (c_X10_refuse hc12) ?_
  obtain rfl := Option.some.inj h
  dsimp only
  exact ev_iret dX10_pieces_33 rfl rfl
set_option maxHeartbeats 4000000 in
set_option maxRecDepth 20000 in
theorem c_X10_pieces {σ : Mem} {x1 x2 x3 : Int}  {q : (Int × Mem)} (h : f_X10_pieces σ x1 x2 x3 = some q) : Ms yX10_pieces M_X10_pieces 181 181 [(2, (0 : Int)), (0, x1), (0, x2), (0, x3)] rho σ (some (0, q.1), rho, q.2) := by
  refine Ms.of 0 (by decide +kernel) rfl (fun z => absurd z (by decide)) (fun _ _ _ => trivial) rfl rfl ?_
  unfold f_X10_pieces at h
  show Ev M_X10_pieces 181 181 _ 0 181 rho σ [(2, (0 : Int)), (0, x1), (0, x2), (0, x3)] []
  refine ev_aload_n dX10_pieces_0 rfl (by decide) ?_
  refine ev_getf (j := 0) (t := 2) (x := (1 : Int)) dX10_pieces_1 cf_X10 wf_X10_12 sp0 (by decide) (by decide) rfl (by decide) (rp0_0 _) ?_
  refine ev_iload_n dX10_pieces_4 rfl ?_
  obtain ⟨v1, hc2, h⟩ := bind_of h
  refine ev_invV_v (k := (1 : Int)) (av := [(0, x1)]) (st := []) (v := (0, v1)) (τ := σ) dX10_pieces_5 ml_X10_122 mv_X0_hasCand (T := TX0) (ci := 0) rfl sp1 (by decide) (by decide) rfl ⟨Nat.le_of_ble_eq_true rfl, Nat.le_of_ble_eq_true rfl⟩ (Nat.le_of_ble_eq_true rfl) (c_X0_hasCand hB1 hc2) ?_
  refine ev_if_eq (tgt := 27) dX10_pieces_8 rfl h (fun cb h => ?_) (fun cb h => ?_)
  · exact ev_sub (L2 := [(2, (0 : Int)), (9, 0), (9, 0), (9, 0)]) (e_X10_pieces_27 σ h) ⟨.inr rfl, .inl rfl, .inl rfl, .inl rfl, trivial⟩
  refine ev_iload_n dX10_pieces_11 rfl ?_
  obtain ⟨v3, hc4, h⟩ := bind_of h
  refine ev_invS_v (av := [(0, x2)]) (st := []) (v := (0, v3)) (τ := σ) dX10_pieces_12 ml_X10_150 mt_X10_isDay rfl ⟨Nat.le_of_ble_eq_true rfl, Nat.le_of_ble_eq_true rfl⟩ (Nat.le_of_ble_eq_true rfl) (c_X10_isDay hc4) ?_
  refine ev_if_eq (tgt := 27) dX10_pieces_15 rfl h (fun cb h => ?_) (fun cb h => ?_)
  · exact ev_sub (L2 := [(2, (0 : Int)), (9, 0), (9, 0), (9, 0)]) (e_X10_pieces_27 σ h) ⟨.inr rfl, .inl rfl, .inl rfl, .inl rfl, trivial⟩
  refine ev_iload_n dX10_pieces_18 rfl ?_
  refine ev_if_lt (tgt := 27) dX10_pieces_19 rfl h (fun cb h => ?_) (fun cb h => ?_)
  · exact ev_sub (L2 := [(2, (0 : Int)), (9, 0), (9, 0), (9, 0)]) (e_X10_pieces_27 σ h) ⟨.inr rfl, .inl rfl, .inl rfl, .inl rfl, trivial⟩
  refine ev_iload_n dX10_pieces_22 rfl ?_
  refine ev_iconst dX10_pieces_23 (by decide) ?_
  refine ev_icmp_le (tgt := 34) dX10_pieces_24 rfl h (fun cb h => ?_) (fun cb h => ?_)
  · refine ev_aload_n dX10_pieces_34 rfl (by decide) ?_
    refine ev_getf (j := 11) (t := 2) (x := (171 : Int)) dX10_pieces_35 cf_X10 wf_X10_71 sp0 (by decide) (by decide) rfl (by decide) (rp0_11 _) ?_
    refine ev_aload_n dX10_pieces_38 rfl (by decide) ?_
    refine ev_getf (j := 0) (t := 2) (x := (1 : Int)) dX10_pieces_39 cf_X10 wf_X10_12 sp0 (by decide) (by decide) rfl (by decide) (rp0_0 _) ?_
    refine ev_aload_n dX10_pieces_42 rfl (by decide) ?_
    refine ev_getf (j := 8) (t := 2) (x := (43 : Int)) dX10_pieces_43 cf_X10 wf_X10_50 sp0 (by decide) (by decide) rfl (by decide) (rp0_8 _) ?_
    refine ev_iload_n dX10_pieces_46 rfl ?_
    obtain ⟨σ5, hc6, h⟩ := bind_of h
    refine ev_invV_n (k := (171 : Int)) (av := [(2, (1 : Int)), (2, (43 : Int)), (0, x2)]) (st := []) (τ := σ5) dX10_pieces_47 ml_X10_349 mv_X5_lay (T := TX5) (ci := 4) rfl sp171 (by decide) (by decide) rfl ⟨Nat.le_of_ble_eq_true rfl, Nat.le_of_ble_eq_true rfl⟩ (Nat.le_of_ble_eq_true rfl) (c_X5_lay hc6) ?_
    refine ev_iload_n dX10_pieces_50 rfl ?_
    refine ev_if_ne (tgt := 65) dX10_pieces_51 rfl h (fun cb h => ?_) (fun cb h => ?_)
    · refine ev_aload_n dX10_pieces_65 rfl (by decide) ?_
      refine ev_getf (j := 11) (t := 2) (x := (171 : Int)) dX10_pieces_66 cf_X10 wf_X10_71 sp0 (by decide) (by decide) rfl (by decide) (rp0_11 _) ?_
      refine ev_iload_n dX10_pieces_69 rfl ?_
      obtain ⟨v7, hc8, h⟩ := bind_of h
      refine ev_invV_v (k := (171 : Int)) (av := [(0, x1)]) (st := []) (v := (0, v7)) (τ := σ5) dX10_pieces_70 ml_X10_356 mv_X5_movesOf (T := TX5) (ci := 4) rfl sp171 (by decide) (by decide) rfl ⟨Nat.le_of_ble_eq_true rfl, Nat.le_of_ble_eq_true rfl⟩ (Nat.le_of_ble_eq_true rfl) (c_X5_movesOf hc8) ?_
      obtain rfl := Option.some.inj h
      dsimp only
      exact ev_iret dX10_pieces_73 rfl rfl
    refine ev_aload_n dX10_pieces_54 rfl (by decide) ?_
    refine ev_getf (j := 11) (t := 2) (x := (171 : Int)) dX10_pieces_55 cf_X10 wf_X10_71 sp0 (by decide) (by decide) rfl (by decide) (rp0_11 _) ?_
    refine ev_iload_n dX10_pieces_58 rfl ?_
    obtain ⟨v9, hc10, h⟩ := bind_of h
    refine ev_invV_v (k := (171 : Int)) (av := [(0, x1)]) (st := []) (v := (0, v9)) (τ := σ5) dX10_pieces_59 ml_X10_353 mv_X5_piecesOf (T := TX5) (ci := 4) rfl sp171 (by decide) (by decide) rfl ⟨Nat.le_of_ble_eq_true rfl, Nat.le_of_ble_eq_true rfl⟩ (Nat.le_of_ble_eq_true rfl) (c_X5_piecesOf hc10) ?_
    refine ev_goto (tgt := 73) dX10_pieces_62 rfl ?_
    obtain rfl := Option.some.inj h
    dsimp only
    exact ev_iret dX10_pieces_73 rfl rfl
  exact ev_sub (L2 := [(2, (0 : Int)), (9, 0), (9, 0), (9, 0)]) (e_X10_pieces_27 σ h) ⟨.inr rfl, .inl rfl, .inl rfl, .inl rfl, trivial⟩
set_option maxHeartbeats 4000000 in
set_option maxRecDepth 20000 in
theorem e_X10_roomOf_18 (σ : Mem)  {q : (Int × Mem)} (h : f_X10_roomOf_18 σ  = some q) : Ev M_X10_roomOf 181 181 (some (0, q.1), rho, q.2) 18 181 rho σ [(2, (0 : Int)), (9, 0), (9, 0), (9, 0)] [] := by
  unfold f_X10_roomOf_18 at h
  refine ev_aload_n dX10_roomOf_18 rfl (by decide) ?_
  refine ev_bipush dX10_roomOf_19 (by decide) (by decide) ?_
  obtain ⟨v11, hc12, h⟩ := bind_of h
  refine ev_invV_v (k := (0 : Int)) (av := [(0, (-52 : Int))]) (st := []) (v := (0, v11.1)) (τ := v11.2) dX10_roomOf_21 ml_X10_88 mv_X10_refuse (T := TX10) (ci := 9) rfl sp0 (by decide) (by decide) rfl ⟨Nat.le_of_ble_eq_true rfl, Nat.le_of_ble_eq_true rfl⟩ (Nat.le_of_ble_eq_true rfl) (c_X10_refuse hc12) ?_
  obtain rfl := Option.some.inj h
  dsimp only
  exact ev_iret dX10_roomOf_24 rfl rfl
set_option maxHeartbeats 4000000 in
set_option maxRecDepth 20000 in
theorem e_X10_roomOf_57 (σ : Mem)  {q : (Int × Mem)} (h : f_X10_roomOf_57 σ  = some q) : Ev M_X10_roomOf 181 181 (some (0, q.1), rho, q.2) 57 181 rho σ [(2, (0 : Int)), (9, 0), (9, 0), (9, 0)] [] := by
  unfold f_X10_roomOf_57 at h
  refine ev_aload_n dX10_roomOf_57 rfl (by decide) ?_
  refine ev_bipush dX10_roomOf_58 (by decide) (by decide) ?_
  obtain ⟨v13, hc14, h⟩ := bind_of h
  refine ev_invV_v (k := (0 : Int)) (av := [(0, (-52 : Int))]) (st := []) (v := (0, v13.1)) (τ := v13.2) dX10_roomOf_60 ml_X10_88 mv_X10_refuse (T := TX10) (ci := 9) rfl sp0 (by decide) (by decide) rfl ⟨Nat.le_of_ble_eq_true rfl, Nat.le_of_ble_eq_true rfl⟩ (Nat.le_of_ble_eq_true rfl) (c_X10_refuse hc14) ?_
  obtain rfl := Option.some.inj h
  dsimp only
  exact ev_iret dX10_roomOf_63 rfl rfl
set_option maxHeartbeats 4000000 in
set_option maxRecDepth 20000 in
theorem c_X10_roomOf {σ : Mem} {x1 x2 x3 : Int}  {q : (Int × Mem)} (h : f_X10_roomOf σ x1 x2 x3 = some q) : Ms yX10_roomOf M_X10_roomOf 181 181 [(2, (0 : Int)), (0, x1), (0, x2), (0, x3)] rho σ (some (0, q.1), rho, q.2) := by
  refine Ms.of 0 (by decide +kernel) rfl (fun z => absurd z (by decide)) (fun _ _ _ => trivial) rfl rfl ?_
  unfold f_X10_roomOf at h
  show Ev M_X10_roomOf 181 181 _ 0 181 rho σ [(2, (0 : Int)), (0, x1), (0, x2), (0, x3)] []
  refine ev_aload_n dX10_roomOf_0 rfl (by decide) ?_
  refine ev_getf (j := 0) (t := 2) (x := (1 : Int)) dX10_roomOf_1 cf_X10 wf_X10_12 sp0 (by decide) (by decide) rfl (by decide) (rp0_0 _) ?_
  refine ev_iload_n dX10_roomOf_4 rfl ?_
  obtain ⟨v1, hc2, h⟩ := bind_of h
  refine ev_invV_v (k := (1 : Int)) (av := [(0, x1)]) (st := []) (v := (0, v1)) (τ := σ) dX10_roomOf_5 ml_X10_122 mv_X0_hasCand (T := TX0) (ci := 0) rfl sp1 (by decide) (by decide) rfl ⟨Nat.le_of_ble_eq_true rfl, Nat.le_of_ble_eq_true rfl⟩ (Nat.le_of_ble_eq_true rfl) (c_X0_hasCand hB1 hc2) ?_
  refine ev_if_eq (tgt := 18) dX10_roomOf_8 rfl h (fun cb h => ?_) (fun cb h => ?_)
  · exact ev_sub (L2 := [(2, (0 : Int)), (9, 0), (9, 0), (9, 0)]) (e_X10_roomOf_18 σ h) ⟨.inr rfl, .inl rfl, .inl rfl, .inl rfl, trivial⟩
  refine ev_iload_n dX10_roomOf_11 rfl ?_
  obtain ⟨v3, hc4, h⟩ := bind_of h
  refine ev_invS_v (av := [(0, x2)]) (st := []) (v := (0, v3)) (τ := σ) dX10_roomOf_12 ml_X10_150 mt_X10_isDay rfl ⟨Nat.le_of_ble_eq_true rfl, Nat.le_of_ble_eq_true rfl⟩ (Nat.le_of_ble_eq_true rfl) (c_X10_isDay hc4) ?_
  refine ev_if_ne (tgt := 25) dX10_roomOf_15 rfl h (fun cb h => ?_) (fun cb h => ?_)
  · refine ev_aload_n dX10_roomOf_25 rfl (by decide) ?_
    refine ev_getf (j := 11) (t := 2) (x := (171 : Int)) dX10_roomOf_26 cf_X10 wf_X10_71 sp0 (by decide) (by decide) rfl (by decide) (rp0_11 _) ?_
    refine ev_aload_n dX10_roomOf_29 rfl (by decide) ?_
    refine ev_getf (j := 0) (t := 2) (x := (1 : Int)) dX10_roomOf_30 cf_X10 wf_X10_12 sp0 (by decide) (by decide) rfl (by decide) (rp0_0 _) ?_
    refine ev_aload_n dX10_roomOf_33 rfl (by decide) ?_
    refine ev_getf (j := 8) (t := 2) (x := (43 : Int)) dX10_roomOf_34 cf_X10 wf_X10_50 sp0 (by decide) (by decide) rfl (by decide) (rp0_8 _) ?_
    refine ev_iload_n dX10_roomOf_37 rfl ?_
    obtain ⟨σ5, hc6, h⟩ := bind_of h
    refine ev_invV_n (k := (171 : Int)) (av := [(2, (1 : Int)), (2, (43 : Int)), (0, x2)]) (st := []) (τ := σ5) dX10_roomOf_38 ml_X10_349 mv_X5_lay (T := TX5) (ci := 4) rfl sp171 (by decide) (by decide) rfl ⟨Nat.le_of_ble_eq_true rfl, Nat.le_of_ble_eq_true rfl⟩ (Nat.le_of_ble_eq_true rfl) (c_X5_lay hc6) ?_
    refine ev_iload_n dX10_roomOf_41 rfl ?_
    refine ev_if_lt (tgt := 57) dX10_roomOf_42 rfl h (fun cb h => ?_) (fun cb h => ?_)
    · exact ev_sub (L2 := [(2, (0 : Int)), (9, 0), (9, 0), (9, 0)]) (e_X10_roomOf_57 σ5 h) ⟨.inr rfl, .inl rfl, .inl rfl, .inl rfl, trivial⟩
    refine ev_iload_n dX10_roomOf_45 rfl ?_
    refine ev_aload_n dX10_roomOf_46 rfl (by decide) ?_
    refine ev_getf (j := 11) (t := 2) (x := (171 : Int)) dX10_roomOf_47 cf_X10 wf_X10_71 sp0 (by decide) (by decide) rfl (by decide) (rp0_11 _) ?_
    refine ev_iload_n dX10_roomOf_50 rfl ?_
    obtain ⟨v7, hc8, h⟩ := bind_of h
    refine ev_invV_v (k := (171 : Int)) (av := [(0, x1)]) (st := [(0, x3)]) (v := (0, v7)) (τ := σ5) dX10_roomOf_51 ml_X10_353 mv_X5_piecesOf (T := TX5) (ci := 4) rfl sp171 (by decide) (by decide) rfl ⟨Nat.le_of_ble_eq_true rfl, Nat.le_of_ble_eq_true rfl⟩ (Nat.le_of_ble_eq_true rfl) (c_X5_piecesOf hc8) ?_
    refine ev_icmp_lt (tgt := 64) dX10_roomOf_54 rfl h (fun cb h => ?_) (fun cb h => ?_)
    · refine ev_aload_n dX10_roomOf_64 rfl (by decide) ?_
      refine ev_getf (j := 11) (t := 2) (x := (171 : Int)) dX10_roomOf_65 cf_X10 wf_X10_71 sp0 (by decide) (by decide) rfl (by decide) (rp0_11 _) ?_
      refine ev_iload_n dX10_roomOf_68 rfl ?_
      refine ev_iload_n dX10_roomOf_69 rfl ?_
      obtain ⟨v9, hc10, h⟩ := bind_of h
      refine ev_invV_v (k := (171 : Int)) (av := [(0, x1), (0, x3)]) (st := []) (v := (0, v9)) (τ := σ5) dX10_roomOf_70 ml_X10_359 mv_X5_roomAt (T := TX5) (ci := 4) rfl sp171 (by decide) (by decide) rfl ⟨Nat.le_of_ble_eq_true rfl, Nat.le_of_ble_eq_true rfl⟩ (Nat.le_of_ble_eq_true rfl) (c_X5_roomAt hc10) ?_
      obtain rfl := Option.some.inj h
      dsimp only
      exact ev_iret dX10_roomOf_73 rfl rfl
    exact ev_sub (L2 := [(2, (0 : Int)), (9, 0), (9, 0), (9, 0)]) (e_X10_roomOf_57 σ5 h) ⟨.inr rfl, .inl rfl, .inl rfl, .inl rfl, trivial⟩
  exact ev_sub (L2 := [(2, (0 : Int)), (9, 0), (9, 0), (9, 0)]) (e_X10_roomOf_18 σ h) ⟨.inr rfl, .inl rfl, .inl rfl, .inl rfl, trivial⟩
set_option maxHeartbeats 4000000 in
set_option maxRecDepth 20000 in
theorem e_X10_left_25 (σ : Mem)  {q : (Int × Mem)} (h : f_X10_left_25 σ  = some q) : Ev M_X10_left 181 181 (some (0, q.1), rho, q.2) 25 181 rho σ [(2, (0 : Int)), (9, 0), (9, 0), (9, 0)] [] := by
  unfold f_X10_left_25 at h
  refine ev_aload_n dX10_left_25 rfl (by decide) ?_
  refine ev_bipush dX10_left_26 (by decide) (by decide) ?_
  obtain ⟨v11, hc12, h⟩ := bind_of h
  refine ev_invV_v (k := (0 : Int)) (av := [(0, (-52 : Int))]) (st := []) (v := (0, v11.1)) (τ := v11.2) dX10_left_28 ml_X10_88 mv_X10_refuse (T := TX10) (ci := 9) rfl sp0 (by decide) (by decide) rfl ⟨Nat.le_of_ble_eq_true rfl, Nat.le_of_ble_eq_true rfl⟩ (Nat.le_of_ble_eq_true rfl) (c_X10_refuse hc12) ?_
  obtain rfl := Option.some.inj h
  dsimp only
  exact ev_iret dX10_left_31 rfl rfl
set_option maxHeartbeats 4000000 in
set_option maxRecDepth 20000 in
theorem c_X10_left {σ : Mem} {x1 x2 x3 : Int}  {q : (Int × Mem)} (h : f_X10_left σ x1 x2 x3 = some q) : Ms yX10_left M_X10_left 181 181 [(2, (0 : Int)), (0, x1), (0, x2), (0, x3)] rho σ (some (0, q.1), rho, q.2) := by
  refine Ms.of 0 (by decide +kernel) rfl (fun z => absurd z (by decide)) (fun _ _ _ => trivial) rfl rfl ?_
  unfold f_X10_left at h
  show Ev M_X10_left 181 181 _ 0 181 rho σ [(2, (0 : Int)), (0, x1), (0, x2), (0, x3)] []
  refine ev_aload_n dX10_left_0 rfl (by decide) ?_
  refine ev_getf (j := 0) (t := 2) (x := (1 : Int)) dX10_left_1 cf_X10 wf_X10_12 sp0 (by decide) (by decide) rfl (by decide) (rp0_0 _) ?_
  refine ev_iload_n dX10_left_4 rfl ?_
  obtain ⟨v1, hc2, h⟩ := bind_of h
  refine ev_invV_v (k := (1 : Int)) (av := [(0, x1)]) (st := []) (v := (0, v1)) (τ := σ) dX10_left_5 ml_X10_362 mv_X0_hasRoom (T := TX0) (ci := 0) rfl sp1 (by decide) (by decide) rfl ⟨Nat.le_of_ble_eq_true rfl, Nat.le_of_ble_eq_true rfl⟩ (Nat.le_of_ble_eq_true rfl) (c_X0_hasRoom hB1 hc2) ?_
  refine ev_if_eq (tgt := 25) dX10_left_8 rfl h (fun cb h => ?_) (fun cb h => ?_)
  · exact ev_sub (L2 := [(2, (0 : Int)), (9, 0), (9, 0), (9, 0)]) (e_X10_left_25 σ h) ⟨.inr rfl, .inl rfl, .inl rfl, .inl rfl, trivial⟩
  refine ev_iload_n dX10_left_11 rfl ?_
  obtain ⟨v3, hc4, h⟩ := bind_of h
  refine ev_invS_v (av := [(0, x2)]) (st := []) (v := (0, v3)) (τ := σ) dX10_left_12 ml_X10_150 mt_X10_isDay rfl ⟨Nat.le_of_ble_eq_true rfl, Nat.le_of_ble_eq_true rfl⟩ (Nat.le_of_ble_eq_true rfl) (c_X10_isDay hc4) ?_
  refine ev_if_eq (tgt := 25) dX10_left_15 rfl h (fun cb h => ?_) (fun cb h => ?_)
  · exact ev_sub (L2 := [(2, (0 : Int)), (9, 0), (9, 0), (9, 0)]) (e_X10_left_25 σ h) ⟨.inr rfl, .inl rfl, .inl rfl, .inl rfl, trivial⟩
  refine ev_iload_n dX10_left_18 rfl ?_
  obtain ⟨v5, hc6, h⟩ := bind_of h
  refine ev_invS_v (av := [(0, x3)]) (st := []) (v := (0, v5)) (τ := σ) dX10_left_19 ml_X10_153 mt_X10_isSlot rfl ⟨Nat.le_of_ble_eq_true rfl, Nat.le_of_ble_eq_true rfl⟩ (Nat.le_of_ble_eq_true rfl) (c_X10_isSlot hc6) ?_
  refine ev_if_ne (tgt := 32) dX10_left_22 rfl h (fun cb h => ?_) (fun cb h => ?_)
  · refine ev_aload_n dX10_left_32 rfl (by decide) ?_
    refine ev_getf (j := 11) (t := 2) (x := (171 : Int)) dX10_left_33 cf_X10 wf_X10_71 sp0 (by decide) (by decide) rfl (by decide) (rp0_11 _) ?_
    refine ev_aload_n dX10_left_36 rfl (by decide) ?_
    refine ev_getf (j := 0) (t := 2) (x := (1 : Int)) dX10_left_37 cf_X10 wf_X10_12 sp0 (by decide) (by decide) rfl (by decide) (rp0_0 _) ?_
    refine ev_aload_n dX10_left_40 rfl (by decide) ?_
    refine ev_getf (j := 8) (t := 2) (x := (43 : Int)) dX10_left_41 cf_X10 wf_X10_50 sp0 (by decide) (by decide) rfl (by decide) (rp0_8 _) ?_
    refine ev_iload_n dX10_left_44 rfl ?_
    obtain ⟨σ7, hc8, h⟩ := bind_of h
    refine ev_invV_n (k := (171 : Int)) (av := [(2, (1 : Int)), (2, (43 : Int)), (0, x2)]) (st := []) (τ := σ7) dX10_left_45 ml_X10_349 mv_X5_lay (T := TX5) (ci := 4) rfl sp171 (by decide) (by decide) rfl ⟨Nat.le_of_ble_eq_true rfl, Nat.le_of_ble_eq_true rfl⟩ (Nat.le_of_ble_eq_true rfl) (c_X5_lay hc8) ?_
    refine ev_aload_n dX10_left_48 rfl (by decide) ?_
    refine ev_getf (j := 0) (t := 2) (x := (1 : Int)) dX10_left_49 cf_X10 wf_X10_12 sp0 (by decide) (by decide) rfl (by decide) (rp0_0 _) ?_
    refine ev_getf (j := 7) (t := 2) (x := (9 : Int)) dX10_left_52 cf_X0 wf_X10_365 sp1 (by decide) (by decide) rfl (by decide) (rp1_7 _) ?_
    show Ev _ _ _ _ 55 _ _ _ _ _
    refine ev_iload_n dX10_left_55 rfl ?_
    refine ev_iald dX10_left_56 sp9 (by decide) (by decide) h (fun h => ?_)
    refine ev_aload_n dX10_left_57 rfl (by decide) ?_
    refine ev_getf (j := 11) (t := 2) (x := (171 : Int)) dX10_left_58 cf_X10 wf_X10_71 sp0 (by decide) (by decide) rfl (by decide) (rp0_11 _) ?_
    refine ev_iload_n dX10_left_61 rfl ?_
    refine ev_iload_n dX10_left_62 rfl ?_
    obtain ⟨v9, hc10, h⟩ := bind_of h
    refine ev_invV_v (k := (171 : Int)) (av := [(0, x1), (0, x3)]) (st := [(0, (σ7 (9 : Int) x1))]) (v := (0, v9)) (τ := σ7) dX10_left_63 ml_X10_368 mv_X5_usedAt (T := TX5) (ci := 4) rfl sp171 (by decide) (by decide) rfl ⟨Nat.le_of_ble_eq_true rfl, Nat.le_of_ble_eq_true rfl⟩ (Nat.le_of_ble_eq_true rfl) (c_X5_usedAt hc10) ?_
    refine ev_isub dX10_left_66 ?_
    obtain rfl := Option.some.inj h
    dsimp only
    exact ev_iret dX10_left_67 rfl rfl
  exact ev_sub (L2 := [(2, (0 : Int)), (9, 0), (9, 0), (9, 0)]) (e_X10_left_25 σ h) ⟨.inr rfl, .inl rfl, .inl rfl, .inl rfl, trivial⟩
set_option maxHeartbeats 4000000 in
set_option maxRecDepth 20000 in
theorem c_X10_cantsFlipped {σ : Mem} {x1 x2 : Int}  {q : (Int × Mem)} (h : f_X10_cantsFlipped σ x1 x2 = some q) : Ms yX10_cantsFlipped M_X10_cantsFlipped 181 181 [(2, (0 : Int)), (0, x1), (0, x2)] rho σ (some (0, q.1), rho, q.2) := by
  refine Ms.of 0 (by decide +kernel) rfl (fun z => absurd z (by decide)) (fun _ _ _ => trivial) rfl rfl ?_
  unfold f_X10_cantsFlipped at h
  show Ev M_X10_cantsFlipped 181 181 _ 0 181 rho σ [(2, (0 : Int)), (0, x1), (0, x2)] []
  refine ev_aload_n dX10_cantsFlipped_0 rfl (by decide) ?_
  refine ev_getf (j := 1) (t := 2) (x := (10 : Int)) dX10_cantsFlipped_1 cf_X10 wf_X10_16 sp0 (by decide) (by decide) rfl (by decide) (rp0_1 _) ?_
  refine ev_iload_n dX10_cantsFlipped_4 rfl ?_
  refine ev_iload_n dX10_cantsFlipped_5 rfl ?_
  obtain ⟨σ1, hc2, h⟩ := bind_of h
  refine ev_invV_n (k := (10 : Int)) (av := [(0, x1), (0, x2)]) (st := []) (τ := σ1) dX10_cantsFlipped_6 ml_X10_194 mv_X0_flip (T := TX0) (ci := 0) rfl sp10 (by decide) (by decide) rfl ⟨Nat.le_of_ble_eq_true rfl, Nat.le_of_ble_eq_true rfl⟩ (Nat.le_of_ble_eq_true rfl) (c_X0_flip hB10 hc2) ?_
  refine ev_aload_n dX10_cantsFlipped_9 rfl (by decide) ?_
  refine ev_getf (j := 9) (t := 2) (x := (154 : Int)) dX10_cantsFlipped_10 cf_X10 wf_X10_57 sp0 (by decide) (by decide) rfl (by decide) (rp0_9 _) ?_
  refine ev_aload_n dX10_cantsFlipped_13 rfl (by decide) ?_
  refine ev_getf (j := 8) (t := 2) (x := (43 : Int)) dX10_cantsFlipped_14 cf_X10 wf_X10_50 sp0 (by decide) (by decide) rfl (by decide) (rp0_8 _) ?_
  refine ev_aload_n dX10_cantsFlipped_17 rfl (by decide) ?_
  refine ev_getf (j := 0) (t := 2) (x := (1 : Int)) dX10_cantsFlipped_18 cf_X10 wf_X10_12 sp0 (by decide) (by decide) rfl (by decide) (rp0_0 _) ?_
  show Ev _ _ _ _ 21 _ _ _ _ _
  refine ev_iload_n dX10_cantsFlipped_21 rfl ?_
  obtain ⟨v3, hc4, h⟩ := bind_of h
  refine ev_invV_v (k := (43 : Int)) (av := [(2, (1 : Int)), (0, x1)]) (st := [(2, (154 : Int))]) (v := (2, v3.1)) (τ := v3.2) dX10_cantsFlipped_22 ml_X10_243 mv_X9_of (T := TX9) (ci := 8) rfl sp43 (by decide) (by decide) rfl ⟨Nat.le_of_ble_eq_true rfl, Nat.le_of_ble_eq_true rfl⟩ (Nat.le_of_ble_eq_true rfl) (c_X9_of hc4) ?_
  have hw5 := w_X9_of hc4
  obtain ⟨σ6, hc7, h⟩ := bind_of h
  refine ev_invV_n (k := (154 : Int)) (av := [(2, v3.1)]) (st := []) (τ := σ6) dX10_cantsFlipped_25 ml_X10_425 mv_X8_become (T := TX8) (ci := 7) rfl sp154 (by decide) (by decide) rfl ⟨Nat.le_of_ble_eq_true rfl, Nat.le_of_ble_eq_true rfl⟩ (Nat.le_of_ble_eq_true rfl) (c_X8_become hW154 hw5 hc7) ?_
  refine ev_aload_n dX10_cantsFlipped_28 rfl (by decide) ?_
  refine ev_getf (j := 7) (t := 2) (x := (35 : Int)) dX10_cantsFlipped_29 cf_X10 wf_X10_43 sp0 (by decide) (by decide) rfl (by decide) (rp0_7 _) ?_
  refine ev_aload_n dX10_cantsFlipped_32 rfl (by decide) ?_
  refine ev_getf (j := 1) (t := 2) (x := (10 : Int)) dX10_cantsFlipped_33 cf_X10 wf_X10_16 sp0 (by decide) (by decide) rfl (by decide) (rp0_1 _) ?_
  refine ev_iload_n dX10_cantsFlipped_36 rfl ?_
  refine ev_aload_n dX10_cantsFlipped_37 rfl (by decide) ?_
  refine ev_getf (j := 1) (t := 2) (x := (10 : Int)) dX10_cantsFlipped_38 cf_X10 wf_X10_16 sp0 (by decide) (by decide) rfl (by decide) (rp0_1 _) ?_
  refine ev_getf (j := 0) (t := 2) (x := (11 : Int)) dX10_cantsFlipped_41 cf_X0 wf_X10_250 sp10 (by decide) (by decide) rfl (by decide) (rp10_0 _) ?_
  refine ev_iload_n dX10_cantsFlipped_44 rfl ?_
  show Ev _ _ _ _ 45 _ _ _ _ _
  refine ev_iald dX10_cantsFlipped_45 sp11 (by decide) (by decide) h (fun h => ?_)
  refine ev_aload_n dX10_cantsFlipped_46 rfl (by decide) ?_
  refine ev_getf (j := 9) (t := 2) (x := (154 : Int)) dX10_cantsFlipped_47 cf_X10 wf_X10_57 sp0 (by decide) (by decide) rfl (by decide) (rp0_9 _) ?_
  obtain ⟨σ8, hc9, h⟩ := bind_of h
  refine ev_invV_n (k := (35 : Int)) (av := [(2, (10 : Int)), (0, x1), (0, (σ6 (11 : Int) x2)), (2, (154 : Int))]) (st := []) (τ := σ8) dX10_cantsFlipped_50 ml_X10_428 mv_X4_replan (T := TX4) (ci := 3) rfl sp35 (by decide) (by decide) rfl ⟨Nat.le_of_ble_eq_true rfl, Nat.le_of_ble_eq_true rfl⟩ (Nat.le_of_ble_eq_true rfl) (c_X4_replan hB10 hW154 hc9) ?_
  refine ev_aload_n dX10_cantsFlipped_53 rfl (by decide) ?_
  refine ev_getf (j := 1) (t := 2) (x := (10 : Int)) dX10_cantsFlipped_54 cf_X10 wf_X10_16 sp0 (by decide) (by decide) rfl (by decide) (rp0_1 _) ?_
  refine ev_iload_n dX10_cantsFlipped_57 rfl ?_
  refine ev_iload_n dX10_cantsFlipped_58 rfl ?_
  obtain ⟨σ10, hc11, h⟩ := bind_of h
  refine ev_invV_n (k := (10 : Int)) (av := [(0, x1), (0, x2)]) (st := []) (τ := σ10) dX10_cantsFlipped_59 ml_X10_194 mv_X0_flip (T := TX0) (ci := 0) rfl sp10 (by decide) (by decide) rfl ⟨Nat.le_of_ble_eq_true rfl, Nat.le_of_ble_eq_true rfl⟩ (Nat.le_of_ble_eq_true rfl) (c_X0_flip hB10 hc11) ?_
  refine ev_aload_n dX10_cantsFlipped_62 rfl (by decide) ?_
  refine ev_getf (j := 9) (t := 2) (x := (154 : Int)) dX10_cantsFlipped_63 cf_X10 wf_X10_57 sp0 (by decide) (by decide) rfl (by decide) (rp0_9 _) ?_
  obtain ⟨v12, hc13, h⟩ := bind_of h
  refine ev_invV_v (k := (154 : Int)) (av := []) (st := []) (v := (0, v12)) (τ := σ10) dX10_cantsFlipped_66 ml_X10_247 mv_X8_cants (T := TX8) (ci := 7) rfl sp154 (by decide) (by decide) rfl ⟨Nat.le_of_ble_eq_true rfl, Nat.le_of_ble_eq_true rfl⟩ (Nat.le_of_ble_eq_true rfl) (c_X8_cants hW154 hc13) ?_
  show Ev _ _ _ _ 69 _ _ _ _ _
  obtain rfl := Option.some.inj h
  dsimp only
  exact ev_iret dX10_cantsFlipped_69 rfl rfl
set_option maxHeartbeats 4000000 in
set_option maxRecDepth 20000 in
theorem e_X10_whatIf_23 (σ : Mem)  {q : (Int × Mem)} (h : f_X10_whatIf_23 σ  = some q) : Ev M_X10_whatIf 181 181 (some (0, q.1), rho, q.2) 23 181 rho σ [(2, (0 : Int)), (9, 0), (9, 0)] [] := by
  unfold f_X10_whatIf_23 at h
  refine ev_aload_n dX10_whatIf_23 rfl (by decide) ?_
  refine ev_bipush dX10_whatIf_24 (by decide) (by decide) ?_
  obtain ⟨v13, hc14, h⟩ := bind_of h
  refine ev_invV_v (k := (0 : Int)) (av := [(0, (-52 : Int))]) (st := []) (v := (0, v13.1)) (τ := v13.2) dX10_whatIf_26 ml_X10_88 mv_X10_refuse (T := TX10) (ci := 9) rfl sp0 (by decide) (by decide) rfl ⟨Nat.le_of_ble_eq_true rfl, Nat.le_of_ble_eq_true rfl⟩ (Nat.le_of_ble_eq_true rfl) (c_X10_refuse hc14) ?_
  obtain rfl := Option.some.inj h
  dsimp only
  exact ev_iret dX10_whatIf_29 rfl rfl
set_option maxHeartbeats 4000000 in
set_option maxRecDepth 20000 in
theorem c_X10_whatIf {σ : Mem} {x1 x2 : Int}  {q : (Int × Mem)} (h : f_X10_whatIf σ x1 x2 = some q) : Ms yX10_whatIf M_X10_whatIf 181 181 [(2, (0 : Int)), (0, x1), (0, x2)] rho σ (some (0, q.1), rho, q.2) := by
  refine Ms.of 0 (by decide +kernel) rfl (fun z => absurd z (by decide)) (fun _ _ _ => trivial) rfl rfl ?_
  unfold f_X10_whatIf at h
  show Ev M_X10_whatIf 181 181 _ 0 181 rho σ [(2, (0 : Int)), (0, x1), (0, x2)] []
  refine ev_aload_n dX10_whatIf_0 rfl (by decide) ?_
  refine ev_getf (j := 0) (t := 2) (x := (1 : Int)) dX10_whatIf_1 cf_X10 wf_X10_12 sp0 (by decide) (by decide) rfl (by decide) (rp0_0 _) ?_
  refine ev_iload_n dX10_whatIf_4 rfl ?_
  obtain ⟨v1, hc2, h⟩ := bind_of h
  refine ev_invV_v (k := (1 : Int)) (av := [(0, x1)]) (st := []) (v := (0, v1)) (τ := σ) dX10_whatIf_5 ml_X10_122 mv_X0_hasCand (T := TX0) (ci := 0) rfl sp1 (by decide) (by decide) rfl ⟨Nat.le_of_ble_eq_true rfl, Nat.le_of_ble_eq_true rfl⟩ (Nat.le_of_ble_eq_true rfl) (c_X0_hasCand hB1 hc2) ?_
  refine ev_if_eq (tgt := 23) dX10_whatIf_8 rfl h (fun cb h => ?_) (fun cb h => ?_)
  · exact ev_sub (L2 := [(2, (0 : Int)), (9, 0), (9, 0)]) (e_X10_whatIf_23 σ h) ⟨.inr rfl, .inl rfl, .inl rfl, trivial⟩
  refine ev_aload_n dX10_whatIf_11 rfl (by decide) ?_
  refine ev_getf (j := 0) (t := 2) (x := (1 : Int)) dX10_whatIf_12 cf_X10 wf_X10_12 sp0 (by decide) (by decide) rfl (by decide) (rp0_0 _) ?_
  refine ev_iload_n dX10_whatIf_15 rfl ?_
  refine ev_i2lk dX10_whatIf_16 ?_
  obtain ⟨v3, hc4, h⟩ := bind_of h
  refine ev_invV_v (k := (1 : Int)) (av := [(1, x2)]) (st := []) (v := (0, v3)) (τ := σ) dX10_whatIf_17 ml_X10_164 mv_X0_hasPaper (T := TX0) (ci := 0) rfl sp1 (by decide) (by decide) rfl ⟨Nat.le_of_ble_eq_true rfl, Nat.le_of_ble_eq_true rfl⟩ (Nat.le_of_ble_eq_true rfl) (c_X0_hasPaper hB1 hc4) ?_
  refine ev_if_ne (tgt := 30) dX10_whatIf_20 rfl h (fun cb h => ?_) (fun cb h => ?_)
  · refine ev_aload_n dX10_whatIf_30 rfl (by decide) ?_
    refine ev_getf (j := 0) (t := 2) (x := (1 : Int)) dX10_whatIf_31 cf_X10 wf_X10_12 sp0 (by decide) (by decide) rfl (by decide) (rp0_0 _) ?_
    refine ev_iload_n dX10_whatIf_34 rfl ?_
    refine ev_iload_n dX10_whatIf_35 rfl ?_
    obtain ⟨v5, hc6, h⟩ := bind_of h
    refine ev_invV_v (k := (1 : Int)) (av := [(0, x1), (0, x2)]) (st := []) (v := (0, v5)) (τ := σ) dX10_whatIf_36 ml_X10_191 mv_X0_mayFlip (T := TX0) (ci := 0) rfl sp1 (by decide) (by decide) rfl ⟨Nat.le_of_ble_eq_true rfl, Nat.le_of_ble_eq_true rfl⟩ (Nat.le_of_ble_eq_true rfl) (c_X0_mayFlip hB1 hc6) ?_
    refine ev_if_ne (tgt := 49) dX10_whatIf_39 rfl h (fun cb h => ?_) (fun cb h => ?_)
    · refine ev_aload_n dX10_whatIf_49 rfl (by decide) ?_
      refine ev_getf (j := 1) (t := 2) (x := (10 : Int)) dX10_whatIf_50 cf_X10 wf_X10_16 sp0 (by decide) (by decide) rfl (by decide) (rp0_1 _) ?_
      refine ev_aload_n dX10_whatIf_53 rfl (by decide) ?_
      refine ev_getf (j := 0) (t := 2) (x := (1 : Int)) dX10_whatIf_54 cf_X10 wf_X10_12 sp0 (by decide) (by decide) rfl (by decide) (rp0_0 _) ?_
      obtain ⟨σ7, hc8, h⟩ := bind_of h
      refine ev_invV_n (k := (10 : Int)) (av := [(2, (1 : Int))]) (st := []) (τ := σ7) dX10_whatIf_57 ml_X10_226 mv_X0_become (T := TX0) (ci := 0) rfl sp10 (by decide) (by decide) rfl ⟨Nat.le_of_ble_eq_true rfl, Nat.le_of_ble_eq_true rfl⟩ (Nat.le_of_ble_eq_true rfl) (c_X0_become hB10 hB1 hc8) ?_
      refine ev_aload_n dX10_whatIf_60 rfl (by decide) ?_
      refine ev_iload_n dX10_whatIf_61 rfl ?_
      refine ev_iload_n dX10_whatIf_62 rfl ?_
      obtain ⟨v9, hc10, h⟩ := bind_of h
      refine ev_invV_v (k := (0 : Int)) (av := [(0, x1), (0, x2)]) (st := []) (v := (0, v9.1)) (τ := v9.2) dX10_whatIf_63 ml_X10_371 mv_X10_cantsFlipped (T := TX10) (ci := 9) rfl sp0 (by decide) (by decide) rfl ⟨Nat.le_of_ble_eq_true rfl, Nat.le_of_ble_eq_true rfl⟩ (Nat.le_of_ble_eq_true rfl) (c_X10_cantsFlipped hc10) ?_
      obtain rfl := Option.some.inj h
      dsimp only
      exact ev_iret dX10_whatIf_66 rfl rfl
    refine ev_aload_n dX10_whatIf_42 rfl (by decide) ?_
    refine ev_bipush dX10_whatIf_43 (by decide) (by decide) ?_
    obtain ⟨v11, hc12, h⟩ := bind_of h
    refine ev_invV_v (k := (0 : Int)) (av := [(0, (-55 : Int))]) (st := []) (v := (0, v11.1)) (τ := v11.2) dX10_whatIf_45 ml_X10_88 mv_X10_refuse (T := TX10) (ci := 9) rfl sp0 (by decide) (by decide) rfl ⟨Nat.le_of_ble_eq_true rfl, Nat.le_of_ble_eq_true rfl⟩ (Nat.le_of_ble_eq_true rfl) (c_X10_refuse hc12) ?_
    obtain rfl := Option.some.inj h
    dsimp only
    exact ev_iret dX10_whatIf_48 rfl rfl
  exact ev_sub (L2 := [(2, (0 : Int)), (9, 0), (9, 0)]) (e_X10_whatIf_23 σ h) ⟨.inr rfl, .inl rfl, .inl rfl, trivial⟩
set_option maxHeartbeats 4000000 in
set_option maxRecDepth 20000 in
theorem e_X10_both_35 (σ : Mem)  {q : (Int × Mem)} (h : f_X10_both_35 σ  = some q) : Ev M_X10_both 181 181 (some (0, q.1), rho, q.2) 35 181 rho σ [(2, (0 : Int)), (9, 0), (9, 0), (9, 0)] [] := by
  unfold f_X10_both_35 at h
  refine ev_aload_n dX10_both_35 rfl (by decide) ?_
  refine ev_bipush dX10_both_36 (by decide) (by decide) ?_
  obtain ⟨v25, hc26, h⟩ := bind_of h
  refine ev_invV_v (k := (0 : Int)) (av := [(0, (-52 : Int))]) (st := []) (v := (0, v25.1)) (τ := v25.2) dX10_both_38 ml_X10_88 mv_X10_refuse (T := TX10) (ci := 9) rfl sp0 (by decide) (by decide) rfl ⟨Nat.le_of_ble_eq_true rfl, Nat.le_of_ble_eq_true rfl⟩ (Nat.le_of_ble_eq_true rfl) (c_X10_refuse hc26) ?_
  obtain rfl := Option.some.inj h
  dsimp only
  exact ev_iret dX10_both_41 rfl rfl
set_option maxHeartbeats 4000000 in
set_option maxRecDepth 20000 in
theorem c_X10_both {σ : Mem} {x1 x2 x3 : Int}  {q : (Int × Mem)} (h : f_X10_both σ x1 x2 x3 = some q) : Ms yX10_both M_X10_both 181 181 [(2, (0 : Int)), (0, x1), (0, x2), (0, x3)] rho σ (some (0, q.1), rho, q.2) := by
  refine Ms.of 0 (by decide +kernel) rfl (fun z => absurd z (by decide)) (fun _ _ _ => trivial) rfl rfl ?_
  unfold f_X10_both at h
  show Ev M_X10_both 181 181 _ 0 181 rho σ [(2, (0 : Int)), (0, x1), (0, x2), (0, x3)] []
  refine ev_aload_n dX10_both_0 rfl (by decide) ?_
  refine ev_getf (j := 0) (t := 2) (x := (1 : Int)) dX10_both_1 cf_X10 wf_X10_12 sp0 (by decide) (by decide) rfl (by decide) (rp0_0 _) ?_
  refine ev_iload_n dX10_both_4 rfl ?_
  obtain ⟨v1, hc2, h⟩ := bind_of h
  refine ev_invV_v (k := (1 : Int)) (av := [(0, x1)]) (st := []) (v := (0, v1)) (τ := σ) dX10_both_5 ml_X10_122 mv_X0_hasCand (T := TX0) (ci := 0) rfl sp1 (by decide) (by decide) rfl ⟨Nat.le_of_ble_eq_true rfl, Nat.le_of_ble_eq_true rfl⟩ (Nat.le_of_ble_eq_true rfl) (c_X0_hasCand hB1 hc2) ?_
  refine ev_if_eq (tgt := 35) dX10_both_8 rfl h (fun cb h => ?_) (fun cb h => ?_)
  · exact ev_sub (L2 := [(2, (0 : Int)), (9, 0), (9, 0), (9, 0)]) (e_X10_both_35 σ h) ⟨.inr rfl, .inl rfl, .inl rfl, .inl rfl, trivial⟩
  refine ev_aload_n dX10_both_11 rfl (by decide) ?_
  refine ev_getf (j := 0) (t := 2) (x := (1 : Int)) dX10_both_12 cf_X10 wf_X10_12 sp0 (by decide) (by decide) rfl (by decide) (rp0_0 _) ?_
  refine ev_iload_n dX10_both_15 rfl ?_
  refine ev_i2lk dX10_both_16 ?_
  obtain ⟨v3, hc4, h⟩ := bind_of h
  refine ev_invV_v (k := (1 : Int)) (av := [(1, x2)]) (st := []) (v := (0, v3)) (τ := σ) dX10_both_17 ml_X10_164 mv_X0_hasPaper (T := TX0) (ci := 0) rfl sp1 (by decide) (by decide) rfl ⟨Nat.le_of_ble_eq_true rfl, Nat.le_of_ble_eq_true rfl⟩ (Nat.le_of_ble_eq_true rfl) (c_X0_hasPaper hB1 hc4) ?_
  refine ev_if_eq (tgt := 35) dX10_both_20 rfl h (fun cb h => ?_) (fun cb h => ?_)
  · exact ev_sub (L2 := [(2, (0 : Int)), (9, 0), (9, 0), (9, 0)]) (e_X10_both_35 σ h) ⟨.inr rfl, .inl rfl, .inl rfl, .inl rfl, trivial⟩
  refine ev_aload_n dX10_both_23 rfl (by decide) ?_
  refine ev_getf (j := 0) (t := 2) (x := (1 : Int)) dX10_both_24 cf_X10 wf_X10_12 sp0 (by decide) (by decide) rfl (by decide) (rp0_0 _) ?_
  refine ev_iload_n dX10_both_27 rfl ?_
  refine ev_i2lk dX10_both_28 ?_
  obtain ⟨v5, hc6, h⟩ := bind_of h
  refine ev_invV_v (k := (1 : Int)) (av := [(1, x3)]) (st := []) (v := (0, v5)) (τ := σ) dX10_both_29 ml_X10_164 mv_X0_hasPaper (T := TX0) (ci := 0) rfl sp1 (by decide) (by decide) rfl ⟨Nat.le_of_ble_eq_true rfl, Nat.le_of_ble_eq_true rfl⟩ (Nat.le_of_ble_eq_true rfl) (c_X0_hasPaper hB1 hc6) ?_
  refine ev_if_ne (tgt := 42) dX10_both_32 rfl h (fun cb h => ?_) (fun cb h => ?_)
  · refine ev_aload_n dX10_both_42 rfl (by decide) ?_
    refine ev_getf (j := 1) (t := 2) (x := (10 : Int)) dX10_both_43 cf_X10 wf_X10_16 sp0 (by decide) (by decide) rfl (by decide) (rp0_1 _) ?_
    refine ev_aload_n dX10_both_46 rfl (by decide) ?_
    refine ev_getf (j := 0) (t := 2) (x := (1 : Int)) dX10_both_47 cf_X10 wf_X10_12 sp0 (by decide) (by decide) rfl (by decide) (rp0_0 _) ?_
    obtain ⟨σ7, hc8, h⟩ := bind_of h
    refine ev_invV_n (k := (10 : Int)) (av := [(2, (1 : Int))]) (st := []) (τ := σ7) dX10_both_50 ml_X10_226 mv_X0_become (T := TX0) (ci := 0) rfl sp10 (by decide) (by decide) rfl ⟨Nat.le_of_ble_eq_true rfl, Nat.le_of_ble_eq_true rfl⟩ (Nat.le_of_ble_eq_true rfl) (c_X0_become hB10 hB1 hc8) ?_
    refine ev_aload_n dX10_both_53 rfl (by decide) ?_
    refine ev_getf (j := 1) (t := 2) (x := (10 : Int)) dX10_both_54 cf_X10 wf_X10_16 sp0 (by decide) (by decide) rfl (by decide) (rp0_1 _) ?_
    refine ev_iload_n dX10_both_57 rfl ?_
    refine ev_iload_n dX10_both_58 rfl ?_
    obtain ⟨v9, hc10, h⟩ := bind_of h
    refine ev_invV_v (k := (10 : Int)) (av := [(0, x1), (0, x2)]) (st := []) (v := (0, v9)) (τ := σ7) dX10_both_59 ml_X10_191 mv_X0_mayFlip (T := TX0) (ci := 0) rfl sp10 (by decide) (by decide) rfl ⟨Nat.le_of_ble_eq_true rfl, Nat.le_of_ble_eq_true rfl⟩ (Nat.le_of_ble_eq_true rfl) (c_X0_mayFlip hB10 hc10) ?_
    refine ev_if_ne (tgt := 72) dX10_both_62 rfl h (fun cb h => ?_) (fun cb h => ?_)
    · refine ev_aload_n dX10_both_72 rfl (by decide) ?_
      refine ev_getf (j := 1) (t := 2) (x := (10 : Int)) dX10_both_73 cf_X10 wf_X10_16 sp0 (by decide) (by decide) rfl (by decide) (rp0_1 _) ?_
      refine ev_iload_n dX10_both_76 rfl ?_
      refine ev_iload_n dX10_both_77 rfl ?_
      obtain ⟨σ11, hc12, h⟩ := bind_of h
      refine ev_invV_n (k := (10 : Int)) (av := [(0, x1), (0, x2)]) (st := []) (τ := σ11) dX10_both_78 ml_X10_194 mv_X0_flip (T := TX0) (ci := 0) rfl sp10 (by decide) (by decide) rfl ⟨Nat.le_of_ble_eq_true rfl, Nat.le_of_ble_eq_true rfl⟩ (Nat.le_of_ble_eq_true rfl) (c_X0_flip hB10 hc12) ?_
      refine ev_aload_n dX10_both_81 rfl (by decide) ?_
      refine ev_getf (j := 1) (t := 2) (x := (10 : Int)) dX10_both_82 cf_X10 wf_X10_16 sp0 (by decide) (by decide) rfl (by decide) (rp0_1 _) ?_
      refine ev_iload_n dX10_both_85 rfl ?_
      refine ev_iload_n dX10_both_86 rfl ?_
      obtain ⟨v13, hc14, h⟩ := bind_of h
      refine ev_invV_v (k := (10 : Int)) (av := [(0, x1), (0, x3)]) (st := []) (v := (0, v13)) (τ := σ11) dX10_both_87 ml_X10_191 mv_X0_mayFlip (T := TX0) (ci := 0) rfl sp10 (by decide) (by decide) rfl ⟨Nat.le_of_ble_eq_true rfl, Nat.le_of_ble_eq_true rfl⟩ (Nat.le_of_ble_eq_true rfl) (c_X0_mayFlip hB10 hc14) ?_
      refine ev_if_ne (tgt := 100) dX10_both_90 rfl h (fun cb h => ?_) (fun cb h => ?_)
      · refine ev_aload_n dX10_both_100 rfl (by decide) ?_
        refine ev_getf (j := 1) (t := 2) (x := (10 : Int)) dX10_both_101 cf_X10 wf_X10_16 sp0 (by decide) (by decide) rfl (by decide) (rp0_1 _) ?_
        refine ev_iload_n dX10_both_104 rfl ?_
        refine ev_iload_n dX10_both_105 rfl ?_
        obtain ⟨σ15, hc16, h⟩ := bind_of h
        refine ev_invV_n (k := (10 : Int)) (av := [(0, x1), (0, x3)]) (st := []) (τ := σ15) dX10_both_106 ml_X10_194 mv_X0_flip (T := TX0) (ci := 0) rfl sp10 (by decide) (by decide) rfl ⟨Nat.le_of_ble_eq_true rfl, Nat.le_of_ble_eq_true rfl⟩ (Nat.le_of_ble_eq_true rfl) (c_X0_flip hB10 hc16) ?_
        refine ev_aload_n dX10_both_109 rfl (by decide) ?_
        refine ev_getf (j := 7) (t := 2) (x := (35 : Int)) dX10_both_110 cf_X10 wf_X10_43 sp0 (by decide) (by decide) rfl (by decide) (rp0_7 _) ?_
        refine ev_aload_n dX10_both_113 rfl (by decide) ?_
        refine ev_getf (j := 1) (t := 2) (x := (10 : Int)) dX10_both_114 cf_X10 wf_X10_16 sp0 (by decide) (by decide) rfl (by decide) (rp0_1 _) ?_
        refine ev_iload_n dX10_both_117 rfl ?_
        refine ev_aload_n dX10_both_118 rfl (by decide) ?_
        show Ev _ _ _ _ 119 _ _ _ _ _
        refine ev_getf (j := 9) (t := 2) (x := (154 : Int)) dX10_both_119 cf_X10 wf_X10_57 sp0 (by decide) (by decide) rfl (by decide) (rp0_9 _) ?_
        obtain ⟨σ17, hc18, h⟩ := bind_of h
        refine ev_invV_n (k := (35 : Int)) (av := [(2, (10 : Int)), (0, x1), (2, (154 : Int))]) (st := []) (τ := σ17) dX10_both_122 ml_X10_374 mv_X4_planWeek (T := TX4) (ci := 3) rfl sp35 (by decide) (by decide) rfl ⟨Nat.le_of_ble_eq_true rfl, Nat.le_of_ble_eq_true rfl⟩ (Nat.le_of_ble_eq_true rfl) (c_X4_planWeek hB10 hW154 hc18) ?_
        refine ev_aload_n dX10_both_125 rfl (by decide) ?_
        refine ev_getf (j := 9) (t := 2) (x := (154 : Int)) dX10_both_126 cf_X10 wf_X10_57 sp0 (by decide) (by decide) rfl (by decide) (rp0_9 _) ?_
        obtain ⟨v19, hc20, h⟩ := bind_of h
        refine ev_invV_v (k := (154 : Int)) (av := []) (st := []) (v := (0, v19)) (τ := σ17) dX10_both_129 ml_X10_378 mv_X8_keptSlots (T := TX8) (ci := 7) rfl sp154 (by decide) (by decide) rfl ⟨Nat.le_of_ble_eq_true rfl, Nat.le_of_ble_eq_true rfl⟩ (Nat.le_of_ble_eq_true rfl) (c_X8_keptSlots hW154 hc20) ?_
        obtain rfl := Option.some.inj h
        dsimp only
        exact ev_iret dX10_both_132 rfl rfl
      refine ev_aload_n dX10_both_93 rfl (by decide) ?_
      refine ev_bipush dX10_both_94 (by decide) (by decide) ?_
      obtain ⟨v21, hc22, h⟩ := bind_of h
      refine ev_invV_v (k := (0 : Int)) (av := [(0, (-55 : Int))]) (st := []) (v := (0, v21.1)) (τ := v21.2) dX10_both_96 ml_X10_88 mv_X10_refuse (T := TX10) (ci := 9) rfl sp0 (by decide) (by decide) rfl ⟨Nat.le_of_ble_eq_true rfl, Nat.le_of_ble_eq_true rfl⟩ (Nat.le_of_ble_eq_true rfl) (c_X10_refuse hc22) ?_
      obtain rfl := Option.some.inj h
      dsimp only
      exact ev_iret dX10_both_99 rfl rfl
    refine ev_aload_n dX10_both_65 rfl (by decide) ?_
    refine ev_bipush dX10_both_66 (by decide) (by decide) ?_
    obtain ⟨v23, hc24, h⟩ := bind_of h
    refine ev_invV_v (k := (0 : Int)) (av := [(0, (-55 : Int))]) (st := []) (v := (0, v23.1)) (τ := v23.2) dX10_both_68 ml_X10_88 mv_X10_refuse (T := TX10) (ci := 9) rfl sp0 (by decide) (by decide) rfl ⟨Nat.le_of_ble_eq_true rfl, Nat.le_of_ble_eq_true rfl⟩ (Nat.le_of_ble_eq_true rfl) (c_X10_refuse hc24) ?_
    obtain rfl := Option.some.inj h
    dsimp only
    exact ev_iret dX10_both_71 rfl rfl
  exact ev_sub (L2 := [(2, (0 : Int)), (9, 0), (9, 0), (9, 0)]) (e_X10_both_35 σ h) ⟨.inr rfl, .inl rfl, .inl rfl, .inl rfl, trivial⟩
def K_X10_relief_36 (x1 : Int) (r : Option V × Mem × Mem) : (Int × Int × Int × Mem) ⊕ ((Int × Mem)) → Prop := Sum.elim (fun a => Ev M_X10_relief 181 181 r 36 181 rho a.2.2.2 [(2, (0 : Int)), (0, x1), (0, a.1), (0, a.2.1), (0, a.2.2.1), (9, 0)] []) (fun e => Ev M_X10_relief 181 181 r 93 181 rho e.2 [(9, 0), (9, 0), (0, e.1), (9, 0), (9, 0), (9, 0)] [])
set_option maxHeartbeats 4000000 in
set_option maxRecDepth 20000 in
theorem e_X10_relief_87 (σ : Mem) (x1 x2 x3 x4 : Int)  {q : ((Int × Int × Int × Mem) ⊕ ((Int × Mem)))} (h : f_X10_relief_87 σ x1 x2 x3 x4 = some q) {r : Option V × Mem × Mem} (K : K_X10_relief_36 x1 r q) : Ev M_X10_relief 181 181 r 87 181 rho σ [(2, (0 : Int)), (0, x1), (0, x2), (0, x3), (0, x4), (9, 0)] [] := by
  unfold f_X10_relief_87 at h
  refine ev_iincG dX10_relief_87 rfl h rfl (fun v12 h => ?_)
  show Ev _ _ _ _ 90 _ _ _ [(2, (0 : Int)), (0, x1), (0, x2), (0, x3), (0, v12), (9, 0)] _
  refine ev_goto (tgt := 36) dX10_relief_90 rfl ?_
  obtain rfl := Option.some.inj h
  exact ev_sub (L2 := [(2, (0 : Int)), (0, x1), (0, x2), (0, x3), (0, v12), (9, 0)]) K ⟨.inr rfl, .inr rfl, .inr rfl, .inr rfl, .inr rfl, .inl rfl, trivial⟩
set_option maxHeartbeats 4000000 in
set_option maxRecDepth 20000 in
theorem e_X10_relief_81 (σ : Mem) (x1 x4 x5 : Int)  {q : ((Int × Int × Int × Mem) ⊕ ((Int × Mem)))} (h : f_X10_relief_81 σ x1 x4 x5 = some q) {r : Option V × Mem × Mem} (K : K_X10_relief_36 x1 r q) : Ev M_X10_relief 181 181 r 81 181 rho σ [(2, (0 : Int)), (0, x1), (9, 0), (9, 0), (0, x4), (0, x5)] [] := by
  unfold f_X10_relief_81 at h
  refine ev_iload dX10_relief_81 rfl ?_
  refine ev_istore_n dX10_relief_83 rfl (by decide) ?_
  show Ev _ _ _ _ 84 _ _ _ [(2, (0 : Int)), (0, x1), (0, x4), (9, 0), (0, x4), (0, x5)] _
  refine ev_iload dX10_relief_84 rfl ?_
  refine ev_istore_n dX10_relief_86 rfl (by decide) ?_
  show Ev _ _ _ _ 87 _ _ _ [(2, (0 : Int)), (0, x1), (0, x4), (0, x5), (0, x4), (0, x5)] _
  exact ev_sub (L2 := [(2, (0 : Int)), (0, x1), (0, x4), (0, x5), (0, x4), (9, 0)]) (e_X10_relief_87 σ x1 x4 x5 x4 h K) ⟨.inr rfl, .inr rfl, .inr rfl, .inr rfl, .inr rfl, .inl rfl, trivial⟩
set_option maxHeartbeats 4000000 in
set_option maxRecDepth 20000 in
theorem b_X10_relief_36 (x1 : Int)  {r : Option V × Mem × Mem} : ∀ a x, f_X10_relief_36B x1 a = some x → K_X10_relief_36 x1 r x → K_X10_relief_36 x1 r (.inl a) := by
  intro a x h K
  obtain ⟨x2, x3, x4, σ⟩ := a
  have h : f_X10_relief_36C x1 x2 x3 x4 σ = some x := h
  unfold f_X10_relief_36C at h
  show Ev M_X10_relief 181 181 r 36 181 rho σ [(2, (0 : Int)), (0, x1), (0, x2), (0, x3), (0, x4), (9, 0)] []
  refine ev_iload dX10_relief_36 rfl ?_
  refine ev_aload_n dX10_relief_38 rfl (by decide) ?_
  refine ev_getf (j := 1) (t := 2) (x := (10 : Int)) dX10_relief_39 cf_X10 wf_X10_16 sp0 (by decide) (by decide) rfl (by decide) (rp0_1 _) ?_
  refine ev_getf (j := 8) (t := 0) (x := (σ (10 : Int) 8)) dX10_relief_42 cf_X0 wf_X10_156 sp10 (by decide) (by decide) rfl (by decide) rfl ?_
  refine ev_icmp_ge (tgt := 93) dX10_relief_45 rfl h (fun cb h => ?_) (fun cb h => ?_)
  · obtain rfl := Option.some.inj h
    exact ev_sub (L2 := [(9, 0), (9, 0), (0, x2), (9, 0), (9, 0), (9, 0)]) K ⟨.inl rfl, .inl rfl, .inr rfl, .inl rfl, .inl rfl, .inl rfl, trivial⟩
  refine ev_aload_n dX10_relief_48 rfl (by decide) ?_
  refine ev_getf (j := 1) (t := 2) (x := (10 : Int)) dX10_relief_49 cf_X10 wf_X10_16 sp0 (by decide) (by decide) rfl (by decide) (rp0_1 _) ?_
  refine ev_iload_n dX10_relief_52 rfl ?_
  refine ev_iload dX10_relief_53 rfl ?_
  obtain ⟨v7, hc8, h⟩ := bind_of h
  refine ev_invV_v (k := (10 : Int)) (av := [(0, x1), (0, x4)]) (st := []) (v := (0, v7)) (τ := σ) dX10_relief_55 ml_X10_191 mv_X0_mayFlip (T := TX0) (ci := 0) rfl sp10 (by decide) (by decide) rfl ⟨Nat.le_of_ble_eq_true rfl, Nat.le_of_ble_eq_true rfl⟩ (Nat.le_of_ble_eq_true rfl) (c_X0_mayFlip hB10 hc8) ?_
  refine ev_if_eq (tgt := 87) dX10_relief_58 rfl h (fun cb h => ?_) (fun cb h => ?_)
  · exact ev_sub (L2 := [(2, (0 : Int)), (0, x1), (0, x2), (0, x3), (0, x4), (9, 0)]) (e_X10_relief_87 σ x1 x2 x3 x4 h K) ⟨.inr rfl, .inr rfl, .inr rfl, .inr rfl, .inr rfl, .inl rfl, trivial⟩
  refine ev_aload_n dX10_relief_61 rfl (by decide) ?_
  refine ev_iload_n dX10_relief_62 rfl ?_
  refine ev_iload dX10_relief_63 rfl ?_
  obtain ⟨v9, hc10, h⟩ := bind_of h
  refine ev_invV_v (k := (0 : Int)) (av := [(0, x1), (0, x4)]) (st := []) (v := (0, v9.1)) (τ := v9.2) dX10_relief_65 ml_X10_371 mv_X10_cantsFlipped (T := TX10) (ci := 9) rfl sp0 (by decide) (by decide) rfl ⟨Nat.le_of_ble_eq_true rfl, Nat.le_of_ble_eq_true rfl⟩ (Nat.le_of_ble_eq_true rfl) (c_X10_cantsFlipped hc10) ?_
  refine ev_istoreG dX10_relief_68 h rfl (by decide) (fun v11 h => ?_)
  show Ev _ _ _ _ 70 _ _ _ [(2, (0 : Int)), (0, x1), (0, x2), (0, x3), (0, x4), (0, v11)] _
  refine ev_iload_n dX10_relief_70 rfl ?_
  refine ev_iconst dX10_relief_71 (by decide) ?_
  refine ev_icmp_eq (tgt := 81) dX10_relief_72 rfl h (fun cb h => ?_) (fun cb h => ?_)
  · exact ev_sub (L2 := [(2, (0 : Int)), (0, x1), (9, 0), (9, 0), (0, x4), (0, v11)]) (e_X10_relief_81 v9.2 x1 x4 v11 h K) ⟨.inr rfl, .inr rfl, .inl rfl, .inl rfl, .inr rfl, .inr rfl, trivial⟩
  refine ev_iload dX10_relief_75 rfl ?_
  refine ev_iload_n dX10_relief_77 rfl ?_
  refine ev_icmp_ge (tgt := 87) dX10_relief_78 rfl h (fun cb h => ?_) (fun cb h => ?_)
  · exact ev_sub (L2 := [(2, (0 : Int)), (0, x1), (0, x2), (0, x3), (0, x4), (9, 0)]) (e_X10_relief_87 v9.2 x1 x2 x3 x4 h K) ⟨.inr rfl, .inr rfl, .inr rfl, .inr rfl, .inr rfl, .inl rfl, trivial⟩
  exact ev_sub (L2 := [(2, (0 : Int)), (0, x1), (9, 0), (9, 0), (0, x4), (0, v11)]) (e_X10_relief_81 v9.2 x1 x4 v11 h K) ⟨.inr rfl, .inr rfl, .inl rfl, .inl rfl, .inr rfl, .inr rfl, trivial⟩
set_option maxHeartbeats 4000000 in
set_option maxRecDepth 20000 in
theorem e_X10_relief_36 (σ : Mem) (x1 x2 x3 x4 : Int)  {q : (Int × Mem)} (h : f_X10_relief_36 σ x1 x2 x3 x4 = some q) : Ev M_X10_relief 181 181 (some (0, q.1), rho, q.2) 36 181 rho σ [(2, (0 : Int)), (0, x1), (0, x2), (0, x3), (0, x4), (9, 0)] [] := by
  unfold f_X10_relief_36 at h
  obtain ⟨e, hl, h⟩ := bind_of h
  refine loop_ev (K := K_X10_relief_36 x1 (some (0, q.1), rho, q.2)) (b_X10_relief_36 x1) FU (x2, x3, x4, σ) e hl ?_
  show Ev M_X10_relief 181 181 _ 93 181 rho e.2 [(9, 0), (9, 0), (0, e.1), (9, 0), (9, 0), (9, 0)] []
  replace h : some (e.1, e.2) = some q := h
  refine ev_iload_n dX10_relief_93 rfl ?_
  obtain rfl := Option.some.inj h
  dsimp only
  exact ev_iret dX10_relief_94 rfl rfl
set_option maxHeartbeats 4000000 in
set_option maxRecDepth 20000 in
theorem c_X10_relief {σ : Mem} {x1 : Int}  {q : (Int × Mem)} (h : f_X10_relief σ x1 = some q) : Ms yX10_relief M_X10_relief 181 181 [(2, (0 : Int)), (0, x1)] rho σ (some (0, q.1), rho, q.2) := by
  refine Ms.of 4 (by decide +kernel) rfl (fun z => absurd z (by decide)) (fun _ _ _ => trivial) rfl rfl ?_
  unfold f_X10_relief at h
  show Ev M_X10_relief 181 181 _ 0 181 rho σ [(2, (0 : Int)), (0, x1), (9, 0), (9, 0), (9, 0), (9, 0)] []
  refine ev_aload_n dX10_relief_0 rfl (by decide) ?_
  refine ev_getf (j := 0) (t := 2) (x := (1 : Int)) dX10_relief_1 cf_X10 wf_X10_12 sp0 (by decide) (by decide) rfl (by decide) (rp0_0 _) ?_
  refine ev_iload_n dX10_relief_4 rfl ?_
  obtain ⟨v1, hc2, h⟩ := bind_of h
  refine ev_invV_v (k := (1 : Int)) (av := [(0, x1)]) (st := []) (v := (0, v1)) (τ := σ) dX10_relief_5 ml_X10_122 mv_X0_hasCand (T := TX0) (ci := 0) rfl sp1 (by decide) (by decide) rfl ⟨Nat.le_of_ble_eq_true rfl, Nat.le_of_ble_eq_true rfl⟩ (Nat.le_of_ble_eq_true rfl) (c_X0_hasCand hB1 hc2) ?_
  refine ev_if_ne (tgt := 18) dX10_relief_8 rfl h (fun cb h => ?_) (fun cb h => ?_)
  · refine ev_aload_n dX10_relief_18 rfl (by decide) ?_
    refine ev_getf (j := 1) (t := 2) (x := (10 : Int)) dX10_relief_19 cf_X10 wf_X10_16 sp0 (by decide) (by decide) rfl (by decide) (rp0_1 _) ?_
    refine ev_aload_n dX10_relief_22 rfl (by decide) ?_
    refine ev_getf (j := 0) (t := 2) (x := (1 : Int)) dX10_relief_23 cf_X10 wf_X10_12 sp0 (by decide) (by decide) rfl (by decide) (rp0_0 _) ?_
    obtain ⟨σ3, hc4, h⟩ := bind_of h
    refine ev_invV_n (k := (10 : Int)) (av := [(2, (1 : Int))]) (st := []) (τ := σ3) dX10_relief_26 ml_X10_226 mv_X0_become (T := TX0) (ci := 0) rfl sp10 (by decide) (by decide) rfl ⟨Nat.le_of_ble_eq_true rfl, Nat.le_of_ble_eq_true rfl⟩ (Nat.le_of_ble_eq_true rfl) (c_X0_become hB10 hB1 hc4) ?_
    refine ev_iconst dX10_relief_29 (by decide) ?_
    refine ev_istore_n dX10_relief_30 rfl (by decide) ?_
    show Ev _ _ _ _ 31 _ _ _ [(2, (0 : Int)), (0, x1), (0, (-1 : Int)), (9, 0), (9, 0), (9, 0)] _
    refine ev_iconst dX10_relief_31 (by decide) ?_
    refine ev_istore_n dX10_relief_32 rfl (by decide) ?_
    show Ev _ _ _ _ 33 _ _ _ [(2, (0 : Int)), (0, x1), (0, (-1 : Int)), (0, (0 : Int)), (9, 0), (9, 0)] _
    refine ev_iconst dX10_relief_33 (by decide) ?_
    refine ev_istore dX10_relief_34 rfl (by decide) ?_
    show Ev _ _ _ _ 36 _ _ _ [(2, (0 : Int)), (0, x1), (0, (-1 : Int)), (0, (0 : Int)), (0, (0 : Int)), (9, 0)] _
    exact ev_sub (L2 := [(2, (0 : Int)), (0, x1), (0, (-1 : Int)), (0, (0 : Int)), (0, (0 : Int)), (9, 0)]) (e_X10_relief_36 σ3 x1 (-1 : Int) (0 : Int) (0 : Int) h) ⟨.inr rfl, .inr rfl, .inr rfl, .inr rfl, .inr rfl, .inl rfl, trivial⟩
  refine ev_aload_n dX10_relief_11 rfl (by decide) ?_
  refine ev_bipush dX10_relief_12 (by decide) (by decide) ?_
  obtain ⟨v5, hc6, h⟩ := bind_of h
  refine ev_invV_v (k := (0 : Int)) (av := [(0, (-52 : Int))]) (st := []) (v := (0, v5.1)) (τ := v5.2) dX10_relief_14 ml_X10_88 mv_X10_refuse (T := TX10) (ci := 9) rfl sp0 (by decide) (by decide) rfl ⟨Nat.le_of_ble_eq_true rfl, Nat.le_of_ble_eq_true rfl⟩ (Nat.le_of_ble_eq_true rfl) (c_X10_refuse hc6) ?_
  obtain rfl := Option.some.inj h
  dsimp only
  exact ev_iret dX10_relief_17 rfl rfl
def K_X10_hoursFor_32 (x1 : Int) (r : Option V × Mem × Mem) : (Int × Mem) ⊕ ((Int × Mem) ⊕ (Mem)) → Prop := Sum.elim (fun a => Ev M_X10_hoursFor 181 181 r 32 181 rho a.2 [(2, (0 : Int)), (0, x1), (0, a.1)] []) (Sum.elim (fun e => Ev M_X10_hoursFor 181 181 r 72 181 rho e.2 [(9, 0), (9, 0), (0, e.1)] []) (fun e => Ev M_X10_hoursFor 181 181 r 80 181 rho e [(9, 0), (9, 0), (9, 0)] []))
set_option maxHeartbeats 4000000 in
set_option maxRecDepth 20000 in
theorem b_X10_hoursFor_32 (x1 : Int)  {r : Option V × Mem × Mem} : ∀ a x, f_X10_hoursFor_32B x1 a = some x → K_X10_hoursFor_32 x1 r x → K_X10_hoursFor_32 x1 r (.inl a) := by
  intro a x h K
  obtain ⟨x2, σ⟩ := a
  have h : f_X10_hoursFor_32C x1 x2 σ = some x := h
  unfold f_X10_hoursFor_32C at h
  show Ev M_X10_hoursFor 181 181 r 32 181 rho σ [(2, (0 : Int)), (0, x1), (0, x2)] []
  refine ev_iload_n dX10_hoursFor_32 rfl ?_
  refine ev_bipush dX10_hoursFor_33 (by decide) (by decide) ?_
  refine ev_icmp_gt (tgt := 80) dX10_hoursFor_35 rfl h (fun cb h => ?_) (fun cb h => ?_)
  · obtain rfl := Option.some.inj h
    exact ev_sub (L2 := [(9, 0), (9, 0), (9, 0)]) K ⟨.inl rfl, .inl rfl, .inl rfl, trivial⟩
  refine ev_aload_n dX10_hoursFor_38 rfl (by decide) ?_
  refine ev_getf (j := 1) (t := 2) (x := (10 : Int)) dX10_hoursFor_39 cf_X10 wf_X10_16 sp0 (by decide) (by decide) rfl (by decide) (rp0_1 _) ?_
  refine ev_iload_n dX10_hoursFor_42 rfl ?_
  refine ev_putfG (j := 11) (t := 0) dX10_hoursFor_43 cf_X0 wf_X10_209 sp10 (by decide) (by decide) rfl (by decide) (by decide) rfl (fun z => absurd z (by decide +kernel)) h (fun σ7 h => ?_)
  refine ev_aload_n dX10_hoursFor_46 rfl (by decide) ?_
  refine ev_getf (j := 7) (t := 2) (x := (35 : Int)) dX10_hoursFor_47 cf_X10 wf_X10_43 sp0 (by decide) (by decide) rfl (by decide) (rp0_7 _) ?_
  refine ev_aload_n dX10_hoursFor_50 rfl (by decide) ?_
  refine ev_getf (j := 1) (t := 2) (x := (10 : Int)) dX10_hoursFor_51 cf_X10 wf_X10_16 sp0 (by decide) (by decide) rfl (by decide) (rp0_1 _) ?_
  refine ev_iload_n dX10_hoursFor_54 rfl ?_
  refine ev_aload_n dX10_hoursFor_55 rfl (by decide) ?_
  refine ev_getf (j := 9) (t := 2) (x := (154 : Int)) dX10_hoursFor_56 cf_X10 wf_X10_57 sp0 (by decide) (by decide) rfl (by decide) (rp0_9 _) ?_
  show Ev _ _ _ _ 59 _ _ _ _ _
  obtain ⟨σ8, hc9, h⟩ := bind_of h
  refine ev_invV_n (k := (35 : Int)) (av := [(2, (10 : Int)), (0, x1), (2, (154 : Int))]) (st := []) (τ := σ8) dX10_hoursFor_59 ml_X10_374 mv_X4_planWeek (T := TX4) (ci := 3) rfl sp35 (by decide) (by decide) rfl ⟨Nat.le_of_ble_eq_true rfl, Nat.le_of_ble_eq_true rfl⟩ (Nat.le_of_ble_eq_true rfl) (c_X4_planWeek hB10 hW154 hc9) ?_
  refine ev_aload_n dX10_hoursFor_62 rfl (by decide) ?_
  refine ev_getf (j := 9) (t := 2) (x := (154 : Int)) dX10_hoursFor_63 cf_X10 wf_X10_57 sp0 (by decide) (by decide) rfl (by decide) (rp0_9 _) ?_
  obtain ⟨v10, hc11, h⟩ := bind_of h
  refine ev_invV_v (k := (154 : Int)) (av := []) (st := []) (v := (0, v10)) (τ := σ8) dX10_hoursFor_66 ml_X10_247 mv_X8_cants (T := TX8) (ci := 7) rfl sp154 (by decide) (by decide) rfl ⟨Nat.le_of_ble_eq_true rfl, Nat.le_of_ble_eq_true rfl⟩ (Nat.le_of_ble_eq_true rfl) (c_X8_cants hW154 hc11) ?_
  refine ev_if_ne (tgt := 74) dX10_hoursFor_69 rfl h (fun cb h => ?_) (fun cb h => ?_)
  · refine ev_iincG dX10_hoursFor_74 rfl h rfl (fun v12 h => ?_)
    show Ev _ _ _ _ 77 _ _ _ [(2, (0 : Int)), (0, x1), (0, v12)] _
    refine ev_goto (tgt := 32) dX10_hoursFor_77 rfl ?_
    obtain rfl := Option.some.inj h
    exact ev_sub (L2 := [(2, (0 : Int)), (0, x1), (0, v12)]) K ⟨.inr rfl, .inr rfl, .inr rfl, trivial⟩
  obtain rfl := Option.some.inj h
  exact ev_sub (L2 := [(9, 0), (9, 0), (0, x2)]) K ⟨.inl rfl, .inl rfl, .inr rfl, trivial⟩
set_option maxHeartbeats 4000000 in
set_option maxRecDepth 20000 in
theorem e_X10_hoursFor_32 (σ : Mem) (x1 x2 : Int)  {q : (Int × Mem)} (h : f_X10_hoursFor_32 σ x1 x2 = some q) : Ev M_X10_hoursFor 181 181 (some (0, q.1), rho, q.2) 32 181 rho σ [(2, (0 : Int)), (0, x1), (0, x2)] [] := by
  unfold f_X10_hoursFor_32 at h
  obtain ⟨e, hl, h⟩ := bind_of h
  refine loop_ev (K := K_X10_hoursFor_32 x1 (some (0, q.1), rho, q.2)) (b_X10_hoursFor_32 x1) FU (x2, σ) e hl ?_
  rcases e with e | e
  · show Ev M_X10_hoursFor 181 181 _ 72 181 rho e.2 [(9, 0), (9, 0), (0, e.1)] []
    replace h : some (e.1, e.2) = some q := h
    refine ev_iload_n dX10_hoursFor_72 rfl ?_
    obtain rfl := Option.some.inj h
    dsimp only
    exact ev_iret dX10_hoursFor_73 rfl rfl
  · show Ev M_X10_hoursFor 181 181 _ 80 181 rho e [(9, 0), (9, 0), (9, 0)] []
    replace h : some ((-1 : Int), e) = some q := h
    refine ev_iconst dX10_hoursFor_80 (by decide) ?_
    obtain rfl := Option.some.inj h
    dsimp only
    exact ev_iret dX10_hoursFor_81 rfl rfl
set_option maxHeartbeats 4000000 in
set_option maxRecDepth 20000 in
theorem c_X10_hoursFor {σ : Mem} {x1 : Int}  {q : (Int × Mem)} (h : f_X10_hoursFor σ x1 = some q) : Ms yX10_hoursFor M_X10_hoursFor 181 181 [(2, (0 : Int)), (0, x1)] rho σ (some (0, q.1), rho, q.2) := by
  refine Ms.of 1 (by decide +kernel) rfl (fun z => absurd z (by decide)) (fun _ _ _ => trivial) rfl rfl ?_
  unfold f_X10_hoursFor at h
  show Ev M_X10_hoursFor 181 181 _ 0 181 rho σ [(2, (0 : Int)), (0, x1), (9, 0)] []
  refine ev_aload_n dX10_hoursFor_0 rfl (by decide) ?_
  refine ev_getf (j := 0) (t := 2) (x := (1 : Int)) dX10_hoursFor_1 cf_X10 wf_X10_12 sp0 (by decide) (by decide) rfl (by decide) (rp0_0 _) ?_
  refine ev_iload_n dX10_hoursFor_4 rfl ?_
  obtain ⟨v1, hc2, h⟩ := bind_of h
  refine ev_invV_v (k := (1 : Int)) (av := [(0, x1)]) (st := []) (v := (0, v1)) (τ := σ) dX10_hoursFor_5 ml_X10_122 mv_X0_hasCand (T := TX0) (ci := 0) rfl sp1 (by decide) (by decide) rfl ⟨Nat.le_of_ble_eq_true rfl, Nat.le_of_ble_eq_true rfl⟩ (Nat.le_of_ble_eq_true rfl) (c_X0_hasCand hB1 hc2) ?_
  refine ev_if_ne (tgt := 18) dX10_hoursFor_8 rfl h (fun cb h => ?_) (fun cb h => ?_)
  · refine ev_aload_n dX10_hoursFor_18 rfl (by decide) ?_
    refine ev_getf (j := 1) (t := 2) (x := (10 : Int)) dX10_hoursFor_19 cf_X10 wf_X10_16 sp0 (by decide) (by decide) rfl (by decide) (rp0_1 _) ?_
    refine ev_aload_n dX10_hoursFor_22 rfl (by decide) ?_
    refine ev_getf (j := 0) (t := 2) (x := (1 : Int)) dX10_hoursFor_23 cf_X10 wf_X10_12 sp0 (by decide) (by decide) rfl (by decide) (rp0_0 _) ?_
    obtain ⟨σ3, hc4, h⟩ := bind_of h
    refine ev_invV_n (k := (10 : Int)) (av := [(2, (1 : Int))]) (st := []) (τ := σ3) dX10_hoursFor_26 ml_X10_226 mv_X0_become (T := TX0) (ci := 0) rfl sp10 (by decide) (by decide) rfl ⟨Nat.le_of_ble_eq_true rfl, Nat.le_of_ble_eq_true rfl⟩ (Nat.le_of_ble_eq_true rfl) (c_X0_become hB10 hB1 hc4) ?_
    refine ev_bipush dX10_hoursFor_29 (by decide) (by decide) ?_
    refine ev_istore_n dX10_hoursFor_31 rfl (by decide) ?_
    show Ev _ _ _ _ 32 _ _ _ [(2, (0 : Int)), (0, x1), (0, (8 : Int))] _
    exact ev_sub (L2 := [(2, (0 : Int)), (0, x1), (0, (8 : Int))]) (e_X10_hoursFor_32 σ3 x1 (8 : Int) h) ⟨.inr rfl, .inr rfl, .inr rfl, trivial⟩
  refine ev_aload_n dX10_hoursFor_11 rfl (by decide) ?_
  refine ev_bipush dX10_hoursFor_12 (by decide) (by decide) ?_
  obtain ⟨v5, hc6, h⟩ := bind_of h
  refine ev_invV_v (k := (0 : Int)) (av := [(0, (-52 : Int))]) (st := []) (v := (0, v5.1)) (τ := v5.2) dX10_hoursFor_14 ml_X10_88 mv_X10_refuse (T := TX10) (ci := 9) rfl sp0 (by decide) (by decide) rfl ⟨Nat.le_of_ble_eq_true rfl, Nat.le_of_ble_eq_true rfl⟩ (Nat.le_of_ble_eq_true rfl) (c_X10_refuse hc6) ?_
  obtain rfl := Option.some.inj h
  dsimp only
  exact ev_iret dX10_hoursFor_17 rfl rfl
set_option maxHeartbeats 4000000 in
set_option maxRecDepth 20000 in
theorem c_X10_image {σ : Mem}  {q : (Int × Mem)} (h : f_X10_image σ  = some q) : Ms yX10_image M_X10_image 181 181 [(2, (0 : Int))] rho σ (some (0, q.1), rho, q.2) := by
  refine Ms.of 0 (by decide +kernel) rfl (fun z => absurd z (by decide)) (fun _ _ _ => trivial) rfl rfl ?_
  unfold f_X10_image at h
  show Ev M_X10_image 181 181 _ 0 181 rho σ [(2, (0 : Int))] []
  refine ev_aload_n dX10_image_0 rfl (by decide) ?_
  refine ev_getf (j := 2) (t := 2) (x := (19 : Int)) dX10_image_1 cf_X10 wf_X10_19 sp0 (by decide) (by decide) rfl (by decide) (rp0_2 _) ?_
  refine ev_aload_n dX10_image_4 rfl (by decide) ?_
  refine ev_getf (j := 0) (t := 2) (x := (1 : Int)) dX10_image_5 cf_X10 wf_X10_12 sp0 (by decide) (by decide) rfl (by decide) (rp0_0 _) ?_
  obtain ⟨σ1, hc2, h⟩ := bind_of h
  refine ev_invV_n (k := (19 : Int)) (av := [(2, (1 : Int))]) (st := []) (τ := σ1) dX10_image_8 ml_X10_226 mv_X0_become (T := TX0) (ci := 0) rfl sp19 (by decide) (by decide) rfl ⟨Nat.le_of_ble_eq_true rfl, Nat.le_of_ble_eq_true rfl⟩ (Nat.le_of_ble_eq_true rfl) (c_X0_become hB19 hB1 hc2) ?_
  refine ev_aload_n dX10_image_11 rfl (by decide) ?_
  refine ev_iconst dX10_image_12 (by decide) ?_
  refine ev_putfG (j := 3) (t := 0) dX10_image_13 cf_X10 wf_X10_400 sp0 (by decide) (by decide) rfl (by decide) (by decide) rfl (fun _ => .inr rfl) h (fun σ3 h => ?_)
  refine ev_iconst dX10_image_16 (by decide) ?_
  obtain rfl := Option.some.inj h
  dsimp only
  exact ev_iret dX10_image_17 rfl rfl
set_option maxHeartbeats 4000000 in
set_option maxRecDepth 20000 in
theorem c_X10_back {σ : Mem}  {q : (Int × Mem)} (h : f_X10_back σ  = some q) : Ms yX10_back M_X10_back 181 181 [(2, (0 : Int))] rho σ (some (0, q.1), rho, q.2) := by
  refine Ms.of 0 (by decide +kernel) rfl (fun z => absurd z (by decide)) (fun _ _ _ => trivial) rfl rfl ?_
  unfold f_X10_back at h
  show Ev M_X10_back 181 181 _ 0 181 rho σ [(2, (0 : Int))] []
  refine ev_aload_n dX10_back_0 rfl (by decide) ?_
  refine ev_getf (j := 3) (t := 0) (x := (σ (0 : Int) 3)) dX10_back_1 cf_X10 wf_X10_400 sp0 (by decide) (by decide) rfl (by decide) rfl ?_
  refine ev_if_ne (tgt := 14) dX10_back_4 rfl h (fun cb h => ?_) (fun cb h => ?_)
  · refine ev_aload_n dX10_back_14 rfl (by decide) ?_
    refine ev_getf (j := 0) (t := 2) (x := (1 : Int)) dX10_back_15 cf_X10 wf_X10_12 sp0 (by decide) (by decide) rfl (by decide) (rp0_0 _) ?_
    refine ev_aload_n dX10_back_18 rfl (by decide) ?_
    refine ev_getf (j := 2) (t := 2) (x := (19 : Int)) dX10_back_19 cf_X10 wf_X10_19 sp0 (by decide) (by decide) rfl (by decide) (rp0_2 _) ?_
    obtain ⟨σ1, hc2, h⟩ := bind_of h
    refine ev_invV_n (k := (1 : Int)) (av := [(2, (19 : Int))]) (st := []) (τ := σ1) dX10_back_22 ml_X10_226 mv_X0_become (T := TX0) (ci := 0) rfl sp1 (by decide) (by decide) rfl ⟨Nat.le_of_ble_eq_true rfl, Nat.le_of_ble_eq_true rfl⟩ (Nat.le_of_ble_eq_true rfl) (c_X0_become hB1 hB19 hc2) ?_
    refine ev_aload_n dX10_back_25 rfl (by decide) ?_
    refine ev_getf (j := 5) (t := 2) (x := (30 : Int)) dX10_back_26 cf_X10 wf_X10_32 sp0 (by decide) (by decide) rfl (by decide) (rp0_5 _) ?_
    refine ev_aload_n dX10_back_29 rfl (by decide) ?_
    refine ev_getf (j := 0) (t := 2) (x := (1 : Int)) dX10_back_30 cf_X10 wf_X10_12 sp0 (by decide) (by decide) rfl (by decide) (rp0_0 _) ?_
    refine ev_getf (j := 9) (t := 0) (x := (σ1 (1 : Int) 9)) dX10_back_33 cf_X0 wf_X10_174 sp1 (by decide) (by decide) rfl (by decide) rfl ?_
    obtain ⟨σ3, hc4, h⟩ := bind_of h
    refine ev_invV_n (k := (30 : Int)) (av := [(0, (σ1 (1 : Int) 9))]) (st := []) (τ := σ3) dX10_back_36 ml_X10_404 mv_X6_dropCandsFrom (T := TX6) (ci := 5) rfl sp30 (by decide) (by decide) rfl ⟨Nat.le_of_ble_eq_true rfl, Nat.le_of_ble_eq_true rfl⟩ (Nat.le_of_ble_eq_true rfl) (c_X6_dropCandsFrom hc4) ?_
    show Ev _ _ _ _ 39 _ _ _ _ _
    refine ev_aload_n dX10_back_39 rfl (by decide) ?_
    refine ev_getf (j := 8) (t := 2) (x := (43 : Int)) dX10_back_40 cf_X10 wf_X10_50 sp0 (by decide) (by decide) rfl (by decide) (rp0_8 _) ?_
    obtain ⟨σ5, hc6, h⟩ := bind_of h
    refine ev_invV_n (k := (43 : Int)) (av := []) (st := []) (τ := σ5) dX10_back_43 ml_X10_171 mv_X9_forgetAll (T := TX9) (ci := 8) rfl sp43 (by decide) (by decide) rfl ⟨Nat.le_of_ble_eq_true rfl, Nat.le_of_ble_eq_true rfl⟩ (Nat.le_of_ble_eq_true rfl) (c_X9_forgetAll hc6) ?_
    refine ev_iconst dX10_back_46 (by decide) ?_
    obtain rfl := Option.some.inj h
    dsimp only
    exact ev_iret dX10_back_47 rfl rfl
  refine ev_aload_n dX10_back_7 rfl (by decide) ?_
  refine ev_bipush dX10_back_8 (by decide) (by decide) ?_
  obtain ⟨v7, hc8, h⟩ := bind_of h
  refine ev_invV_v (k := (0 : Int)) (av := [(0, (-55 : Int))]) (st := []) (v := (0, v7.1)) (τ := v7.2) dX10_back_10 ml_X10_88 mv_X10_refuse (T := TX10) (ci := 9) rfl sp0 (by decide) (by decide) rfl ⟨Nat.le_of_ble_eq_true rfl, Nat.le_of_ble_eq_true rfl⟩ (Nat.le_of_ble_eq_true rfl) (c_X10_refuse hc8) ?_
  obtain rfl := Option.some.inj h
  dsimp only
  exact ev_iret dX10_back_13 rfl rfl
def K_X10_daysSomebodyCant_14 (x1 x2 : Int) (r : Option V × Mem × Mem) : (Int × Int × Mem) ⊕ ((Int × Mem)) → Prop := Sum.elim (fun a => Ev M_X10_daysSomebodyCant 181 181 r 14 181 rho a.2.2 [(2, (0 : Int)), (0, x1), (0, x2), (0, a.1), (0, a.2.1)] []) (fun e => Ev M_X10_daysSomebodyCant 181 181 r 63 181 rho e.2 [(2, (0 : Int)), (0, x1), (0, x2), (0, e.1), (9, 0)] [])
def K_X10_daysSomebodyCant_4 (r : Option V × Mem × Mem) : (Int × Int × Mem) ⊕ ((Int × Mem)) → Prop := Sum.elim (fun a => Ev M_X10_daysSomebodyCant 181 181 r 4 181 rho a.2.2 [(2, (0 : Int)), (0, a.1), (0, a.2.1), (9, 0), (9, 0)] []) (fun e => Ev M_X10_daysSomebodyCant 181 181 r 76 181 rho e.2 [(9, 0), (0, e.1), (9, 0), (9, 0), (9, 0)] [])
set_option maxHeartbeats 4000000 in
set_option maxRecDepth 20000 in
theorem e_X10_daysSomebodyCant_56 (σ : Mem) (x1 x2 x4 s0 : Int)  {q : ((Int × Int × Mem) ⊕ ((Int × Mem)))} (h : f_X10_daysSomebodyCant_56 σ x1 x2 x4 s0 = some q) {r : Option V × Mem × Mem} (K : K_X10_daysSomebodyCant_14 x1 x2 r q) : Ev M_X10_daysSomebodyCant 181 181 r 56 181 rho σ [(2, (0 : Int)), (0, x1), (0, x2), (9, 0), (0, x4)] [(0, s0)] := by
  unfold f_X10_daysSomebodyCant_56 at h
  refine ev_istore_n dX10_daysSomebodyCant_56 rfl (by decide) ?_
  show Ev _ _ _ _ 57 _ _ _ [(2, (0 : Int)), (0, x1), (0, x2), (0, s0), (0, x4)] _
  refine ev_iincG dX10_daysSomebodyCant_57 rfl h rfl (fun v4 h => ?_)
  show Ev _ _ _ _ 60 _ _ _ [(2, (0 : Int)), (0, x1), (0, x2), (0, s0), (0, v4)] _
  refine ev_goto (tgt := 14) dX10_daysSomebodyCant_60 rfl ?_
  obtain rfl := Option.some.inj h
  exact ev_sub (L2 := [(2, (0 : Int)), (0, x1), (0, x2), (0, s0), (0, v4)]) K ⟨.inr rfl, .inr rfl, .inr rfl, .inr rfl, .inr rfl, trivial⟩
set_option maxHeartbeats 4000000 in
set_option maxRecDepth 20000 in
theorem e_X10_daysSomebodyCant_70 (σ : Mem) (x1 x2 : Int)  {q : ((Int × Int × Mem) ⊕ ((Int × Mem)))} (h : f_X10_daysSomebodyCant_70 σ x1 x2 = some q) {r : Option V × Mem × Mem} (K : K_X10_daysSomebodyCant_4  r q) : Ev M_X10_daysSomebodyCant 181 181 r 70 181 rho σ [(2, (0 : Int)), (0, x1), (0, x2), (9, 0), (9, 0)] [] := by
  unfold f_X10_daysSomebodyCant_70 at h
  refine ev_iincG dX10_daysSomebodyCant_70 rfl h rfl (fun v6 h => ?_)
  show Ev _ _ _ _ 73 _ _ _ [(2, (0 : Int)), (0, x1), (0, v6), (9, 0), (9, 0)] _
  refine ev_goto (tgt := 4) dX10_daysSomebodyCant_73 rfl ?_
  obtain rfl := Option.some.inj h
  exact ev_sub (L2 := [(2, (0 : Int)), (0, x1), (0, v6), (9, 0), (9, 0)]) K ⟨.inr rfl, .inr rfl, .inr rfl, .inl rfl, .inl rfl, trivial⟩
set_option maxHeartbeats 4000000 in
set_option maxRecDepth 20000 in
theorem e_X10_daysSomebodyCant_63 (σ : Mem) (x1 x2 x3 : Int)  {q : ((Int × Int × Mem) ⊕ ((Int × Mem)))} (h : f_X10_daysSomebodyCant_63 σ x1 x2 x3 = some q) {r : Option V × Mem × Mem} (K : K_X10_daysSomebodyCant_4  r q) : Ev M_X10_daysSomebodyCant 181 181 r 63 181 rho σ [(2, (0 : Int)), (0, x1), (0, x2), (0, x3), (9, 0)] [] := by
  unfold f_X10_daysSomebodyCant_63 at h
  refine ev_iload_n dX10_daysSomebodyCant_63 rfl ?_
  refine ev_if_eq (tgt := 70) dX10_daysSomebodyCant_64 rfl h (fun cb h => ?_) (fun cb h => ?_)
  · exact ev_sub (L2 := [(2, (0 : Int)), (0, x1), (0, x2), (9, 0), (9, 0)]) (e_X10_daysSomebodyCant_70 σ x1 x2 h K) ⟨.inr rfl, .inr rfl, .inr rfl, .inl rfl, .inl rfl, trivial⟩
  refine ev_iincG dX10_daysSomebodyCant_67 rfl h rfl (fun v5 h => ?_)
  show Ev _ _ _ _ 70 _ _ _ [(2, (0 : Int)), (0, v5), (0, x2), (0, x3), (9, 0)] _
  exact ev_sub (L2 := [(2, (0 : Int)), (0, v5), (0, x2), (9, 0), (9, 0)]) (e_X10_daysSomebodyCant_70 σ v5 x2 h K) ⟨.inr rfl, .inr rfl, .inr rfl, .inl rfl, .inl rfl, trivial⟩
set_option maxHeartbeats 4000000 in
set_option maxRecDepth 20000 in
theorem b_X10_daysSomebodyCant_14 (x1 x2 : Int)  {r : Option V × Mem × Mem} : ∀ a x, f_X10_daysSomebodyCant_14B x1 x2 a = some x → K_X10_daysSomebodyCant_14 x1 x2 r x → K_X10_daysSomebodyCant_14 x1 x2 r (.inl a) := by
  intro a x h K
  obtain ⟨x3, x4, σ⟩ := a
  have h : f_X10_daysSomebodyCant_14C x1 x2 x3 x4 σ = some x := h
  unfold f_X10_daysSomebodyCant_14C at h
  show Ev M_X10_daysSomebodyCant 181 181 r 14 181 rho σ [(2, (0 : Int)), (0, x1), (0, x2), (0, x3), (0, x4)] []
  refine ev_iload dX10_daysSomebodyCant_14 rfl ?_
  refine ev_aload_n dX10_daysSomebodyCant_16 rfl (by decide) ?_
  refine ev_getf (j := 0) (t := 2) (x := (1 : Int)) dX10_daysSomebodyCant_17 cf_X10 wf_X10_12 sp0 (by decide) (by decide) rfl (by decide) (rp0_0 _) ?_
  refine ev_getf (j := 9) (t := 0) (x := (σ (1 : Int) 9)) dX10_daysSomebodyCant_20 cf_X0 wf_X10_174 sp1 (by decide) (by decide) rfl (by decide) rfl ?_
  refine ev_icmp_ge (tgt := 63) dX10_daysSomebodyCant_23 rfl h (fun cb h => ?_) (fun cb h => ?_)
  · obtain rfl := Option.some.inj h
    exact ev_sub (L2 := [(2, (0 : Int)), (0, x1), (0, x2), (0, x3), (9, 0)]) K ⟨.inr rfl, .inr rfl, .inr rfl, .inr rfl, .inl rfl, trivial⟩
  refine ev_iload_n dX10_daysSomebodyCant_26 rfl ?_
  refine ev_if_ne (tgt := 63) dX10_daysSomebodyCant_27 rfl h (fun cb h => ?_) (fun cb h => ?_)
  · obtain rfl := Option.some.inj h
    exact ev_sub (L2 := [(2, (0 : Int)), (0, x1), (0, x2), (0, x3), (9, 0)]) K ⟨.inr rfl, .inr rfl, .inr rfl, .inr rfl, .inl rfl, trivial⟩
  refine ev_aload_n dX10_daysSomebodyCant_30 rfl (by decide) ?_
  refine ev_getf (j := 8) (t := 2) (x := (43 : Int)) dX10_daysSomebodyCant_31 cf_X10 wf_X10_50 sp0 (by decide) (by decide) rfl (by decide) (rp0_8 _) ?_
  refine ev_aload_n dX10_daysSomebodyCant_34 rfl (by decide) ?_
  refine ev_getf (j := 0) (t := 2) (x := (1 : Int)) dX10_daysSomebodyCant_35 cf_X10 wf_X10_12 sp0 (by decide) (by decide) rfl (by decide) (rp0_0 _) ?_
  refine ev_iload dX10_daysSomebodyCant_38 rfl ?_
  obtain ⟨v1, hc2, h⟩ := bind_of h
  refine ev_invV_v (k := (43 : Int)) (av := [(2, (1 : Int)), (0, x4)]) (st := []) (v := (2, v1.1)) (τ := v1.2) dX10_daysSomebodyCant_40 ml_X10_243 mv_X9_of (T := TX9) (ci := 8) rfl sp43 (by decide) (by decide) rfl ⟨Nat.le_of_ble_eq_true rfl, Nat.le_of_ble_eq_true rfl⟩ (Nat.le_of_ble_eq_true rfl) (c_X9_of hc2) ?_
  have hw3 := w_X9_of hc2
  refine ev_getf (j := 0) (t := 2) (x := (v1.1 + 1)) dX10_daysSomebodyCant_43 cf_X8 wf_X10_265 (sW hw3) (pW hw3).1 (pW hw3).2 rfl (by decide) (rW0 _ hw3) ?_
  refine ev_iload_n dX10_daysSomebodyCant_46 rfl ?_
  refine ev_zald dX10_daysSomebodyCant_47 (sW0 hw3) (pW0 hw3).1 (pW0 hw3).2 h (fun h => ?_)
  refine ev_if_ne (tgt := 55) dX10_daysSomebodyCant_48 rfl h (fun cb h => ?_) (fun cb h => ?_)
  · refine ev_iconst dX10_daysSomebodyCant_55 (by decide) ?_
    exact ev_sub (L2 := [(2, (0 : Int)), (0, x1), (0, x2), (9, 0), (0, x4)]) (e_X10_daysSomebodyCant_56 v1.2 x1 x2 x4 (0 : Int) h K) ⟨.inr rfl, .inr rfl, .inr rfl, .inl rfl, .inr rfl, trivial⟩
  refine ev_iconst dX10_daysSomebodyCant_51 (by decide) ?_
  refine ev_goto (tgt := 56) dX10_daysSomebodyCant_52 rfl ?_
  exact ev_sub (L2 := [(2, (0 : Int)), (0, x1), (0, x2), (9, 0), (0, x4)]) (e_X10_daysSomebodyCant_56 v1.2 x1 x2 x4 (1 : Int) h K) ⟨.inr rfl, .inr rfl, .inr rfl, .inl rfl, .inr rfl, trivial⟩
set_option maxHeartbeats 4000000 in
set_option maxRecDepth 20000 in
theorem e_X10_daysSomebodyCant_14 (σ : Mem) (x1 x2 x3 x4 : Int)  {q : ((Int × Int × Mem) ⊕ ((Int × Mem)))} (h : f_X10_daysSomebodyCant_14 σ x1 x2 x3 x4 = some q) {r : Option V × Mem × Mem} (K : K_X10_daysSomebodyCant_4  r q) : Ev M_X10_daysSomebodyCant 181 181 r 14 181 rho σ [(2, (0 : Int)), (0, x1), (0, x2), (0, x3), (0, x4)] [] := by
  unfold f_X10_daysSomebodyCant_14 at h
  obtain ⟨e, hl, h⟩ := bind_of h
  refine loop_ev (K := K_X10_daysSomebodyCant_14 x1 x2 r) (b_X10_daysSomebodyCant_14 x1 x2) FU (x3, x4, σ) e hl ?_
  show Ev M_X10_daysSomebodyCant 181 181 r 63 181 rho e.2 [(2, (0 : Int)), (0, x1), (0, x2), (0, e.1), (9, 0)] []
  replace h : f_X10_daysSomebodyCant_63 e.2 x1 x2 e.1 = some q := h
  exact ev_sub (L2 := [(2, (0 : Int)), (0, x1), (0, x2), (0, e.1), (9, 0)]) (e_X10_daysSomebodyCant_63 e.2 x1 x2 e.1 h K) ⟨.inr rfl, .inr rfl, .inr rfl, .inr rfl, .inl rfl, trivial⟩
set_option maxHeartbeats 4000000 in
set_option maxRecDepth 20000 in
theorem b_X10_daysSomebodyCant_4  {r : Option V × Mem × Mem} : ∀ a x, f_X10_daysSomebodyCant_4B  a = some x → K_X10_daysSomebodyCant_4  r x → K_X10_daysSomebodyCant_4  r (.inl a) := by
  intro a x h K
  obtain ⟨x1, x2, σ⟩ := a
  have h : f_X10_daysSomebodyCant_4C  x1 x2 σ = some x := h
  unfold f_X10_daysSomebodyCant_4C at h
  show Ev M_X10_daysSomebodyCant 181 181 r 4 181 rho σ [(2, (0 : Int)), (0, x1), (0, x2), (9, 0), (9, 0)] []
  refine ev_iload_n dX10_daysSomebodyCant_4 rfl ?_
  refine ev_iconst dX10_daysSomebodyCant_5 (by decide) ?_
  refine ev_icmp_ge (tgt := 76) dX10_daysSomebodyCant_6 rfl h (fun cb h => ?_) (fun cb h => ?_)
  · obtain rfl := Option.some.inj h
    exact ev_sub (L2 := [(9, 0), (0, x1), (9, 0), (9, 0), (9, 0)]) K ⟨.inl rfl, .inr rfl, .inl rfl, .inl rfl, .inl rfl, trivial⟩
  refine ev_iconst dX10_daysSomebodyCant_9 (by decide) ?_
  refine ev_istore_n dX10_daysSomebodyCant_10 rfl (by decide) ?_
  show Ev _ _ _ _ 11 _ _ _ [(2, (0 : Int)), (0, x1), (0, x2), (0, (0 : Int)), (9, 0)] _
  refine ev_iconst dX10_daysSomebodyCant_11 (by decide) ?_
  refine ev_istore dX10_daysSomebodyCant_12 rfl (by decide) ?_
  show Ev _ _ _ _ 14 _ _ _ [(2, (0 : Int)), (0, x1), (0, x2), (0, (0 : Int)), (0, (0 : Int))] _
  exact ev_sub (L2 := [(2, (0 : Int)), (0, x1), (0, x2), (0, (0 : Int)), (0, (0 : Int))]) (e_X10_daysSomebodyCant_14 σ x1 x2 (0 : Int) (0 : Int) h K) ⟨.inr rfl, .inr rfl, .inr rfl, .inr rfl, .inr rfl, trivial⟩
set_option maxHeartbeats 4000000 in
set_option maxRecDepth 20000 in
theorem e_X10_daysSomebodyCant_4 (σ : Mem) (x1 x2 : Int)  {q : (Int × Mem)} (h : f_X10_daysSomebodyCant_4 σ x1 x2 = some q) : Ev M_X10_daysSomebodyCant 181 181 (some (0, q.1), rho, q.2) 4 181 rho σ [(2, (0 : Int)), (0, x1), (0, x2), (9, 0), (9, 0)] [] := by
  unfold f_X10_daysSomebodyCant_4 at h
  obtain ⟨e, hl, h⟩ := bind_of h
  refine loop_ev (K := K_X10_daysSomebodyCant_4  (some (0, q.1), rho, q.2)) (b_X10_daysSomebodyCant_4 ) FU (x1, x2, σ) e hl ?_
  show Ev M_X10_daysSomebodyCant 181 181 _ 76 181 rho e.2 [(9, 0), (0, e.1), (9, 0), (9, 0), (9, 0)] []
  replace h : some (e.1, e.2) = some q := h
  refine ev_iload_n dX10_daysSomebodyCant_76 rfl ?_
  obtain rfl := Option.some.inj h
  dsimp only
  exact ev_iret dX10_daysSomebodyCant_77 rfl rfl
set_option maxHeartbeats 4000000 in
set_option maxRecDepth 20000 in
theorem c_X10_daysSomebodyCant {σ : Mem}  {q : (Int × Mem)} (h : f_X10_daysSomebodyCant σ  = some q) : Ms yX10_daysSomebodyCant M_X10_daysSomebodyCant 181 181 [(2, (0 : Int))] rho σ (some (0, q.1), rho, q.2) := by
  refine Ms.of 4 (by decide +kernel) rfl (fun z => absurd z (by decide)) (fun _ _ _ => trivial) rfl rfl ?_
  unfold f_X10_daysSomebodyCant at h
  show Ev M_X10_daysSomebodyCant 181 181 _ 0 181 rho σ [(2, (0 : Int)), (9, 0), (9, 0), (9, 0), (9, 0)] []
  refine ev_iconst dX10_daysSomebodyCant_0 (by decide) ?_
  refine ev_istore_n dX10_daysSomebodyCant_1 rfl (by decide) ?_
  show Ev _ _ _ _ 2 _ _ _ [(2, (0 : Int)), (0, (0 : Int)), (9, 0), (9, 0), (9, 0)] _
  refine ev_iconst dX10_daysSomebodyCant_2 (by decide) ?_
  refine ev_istore_n dX10_daysSomebodyCant_3 rfl (by decide) ?_
  show Ev _ _ _ _ 4 _ _ _ [(2, (0 : Int)), (0, (0 : Int)), (0, (0 : Int)), (9, 0), (9, 0)] _
  exact ev_sub (L2 := [(2, (0 : Int)), (0, (0 : Int)), (0, (0 : Int)), (9, 0), (9, 0)]) (e_X10_daysSomebodyCant_4 σ (0 : Int) (0 : Int) h) ⟨.inr rfl, .inr rfl, .inr rfl, .inl rfl, .inl rfl, trivial⟩
set_option maxHeartbeats 4000000 in
set_option maxRecDepth 20000 in
theorem e_X10_status_22 (σ : Mem) (x1 : Int)  {q : (Int × Mem)} (h : f_X10_status_22 σ x1 = some q) : Ev M_X10_status 181 181 (some (0, q.1), rho, q.2) 22 181 rho σ [(2, (0 : Int)), (0, x1)] [] := by
  unfold f_X10_status_22 at h
  refine ev_iload_n dX10_status_22 rfl ?_
  refine ev_by h (fun cs h => ?_) (fun cs0 h => ?_)
  · refine ev_tswIn (off := 53) (tgt := 76) dX10_status_23 (by rw [cs]; decide) (by rw [cs]; decide) (by rw [cs]; rfl) rfl ?_
    refine ev_aload_n dX10_status_76 rfl (by decide) ?_
    refine ev_getf (j := 0) (t := 2) (x := (1 : Int)) dX10_status_77 cf_X10 wf_X10_12 sp0 (by decide) (by decide) rfl (by decide) (rp0_0 _) ?_
    refine ev_getf (j := 8) (t := 0) (x := (σ (1 : Int) 8)) dX10_status_80 cf_X0 wf_X10_156 sp1 (by decide) (by decide) rfl (by decide) rfl ?_
    obtain rfl := Option.some.inj h
    dsimp only
    exact ev_iret dX10_status_83 rfl rfl
  refine ev_by h (fun cs h => ?_) (fun cs1 h => ?_)
  · refine ev_tswIn (off := 61) (tgt := 84) dX10_status_23 (by rw [cs]; decide) (by rw [cs]; decide) (by rw [cs]; rfl) rfl ?_
    refine ev_aload_n dX10_status_84 rfl (by decide) ?_
    refine ev_getf (j := 0) (t := 2) (x := (1 : Int)) dX10_status_85 cf_X10 wf_X10_12 sp0 (by decide) (by decide) rfl (by decide) (rp0_0 _) ?_
    refine ev_getf (j := 9) (t := 0) (x := (σ (1 : Int) 9)) dX10_status_88 cf_X0 wf_X10_174 sp1 (by decide) (by decide) rfl (by decide) rfl ?_
    obtain rfl := Option.some.inj h
    dsimp only
    exact ev_iret dX10_status_91 rfl rfl
  refine ev_by h (fun cs h => ?_) (fun cs2 h => ?_)
  · refine ev_tswIn (off := 69) (tgt := 92) dX10_status_23 (by rw [cs]; decide) (by rw [cs]; decide) (by rw [cs]; rfl) rfl ?_
    refine ev_aload_n dX10_status_92 rfl (by decide) ?_
    refine ev_getf (j := 0) (t := 2) (x := (1 : Int)) dX10_status_93 cf_X10 wf_X10_12 sp0 (by decide) (by decide) rfl (by decide) (rp0_0 _) ?_
    refine ev_getf (j := 10) (t := 0) (x := (σ (1 : Int) 10)) dX10_status_96 cf_X0 wf_X10_200 sp1 (by decide) (by decide) rfl (by decide) rfl ?_
    obtain rfl := Option.some.inj h
    dsimp only
    exact ev_iret dX10_status_99 rfl rfl
  refine ev_by h (fun cs h => ?_) (fun cs3 h => ?_)
  · refine ev_tswIn (off := 77) (tgt := 100) dX10_status_23 (by rw [cs]; decide) (by rw [cs]; decide) (by rw [cs]; rfl) rfl ?_
    refine ev_aload_n dX10_status_100 rfl (by decide) ?_
    refine ev_getf (j := 0) (t := 2) (x := (1 : Int)) dX10_status_101 cf_X10 wf_X10_12 sp0 (by decide) (by decide) rfl (by decide) (rp0_0 _) ?_
    refine ev_getf (j := 11) (t := 0) (x := (σ (1 : Int) 11)) dX10_status_104 cf_X0 wf_X10_209 sp1 (by decide) (by decide) rfl (by decide) rfl ?_
    obtain rfl := Option.some.inj h
    dsimp only
    exact ev_iret dX10_status_107 rfl rfl
  refine ev_by h (fun cs h => ?_) (fun cs4 h => ?_)
  · refine ev_tswIn (off := 85) (tgt := 108) dX10_status_23 (by rw [cs]; decide) (by rw [cs]; decide) (by rw [cs]; rfl) rfl ?_
    refine ev_aload_n dX10_status_108 rfl (by decide) ?_
    refine ev_getf (j := 0) (t := 2) (x := (1 : Int)) dX10_status_109 cf_X10 wf_X10_12 sp0 (by decide) (by decide) rfl (by decide) (rp0_0 _) ?_
    refine ev_getf (j := 12) (t := 0) (x := (σ (1 : Int) 12)) dX10_status_112 cf_X0 wf_X10_212 sp1 (by decide) (by decide) rfl (by decide) rfl ?_
    obtain rfl := Option.some.inj h
    dsimp only
    exact ev_iret dX10_status_115 rfl rfl
  refine ev_by h (fun cs h => ?_) (fun cs5 h => ?_)
  · refine ev_tswIn (off := 93) (tgt := 116) dX10_status_23 (by rw [cs]; decide) (by rw [cs]; decide) (by rw [cs]; rfl) rfl ?_
    refine ev_aload_n dX10_status_116 rfl (by decide) ?_
    refine ev_getf (j := 0) (t := 2) (x := (1 : Int)) dX10_status_117 cf_X10 wf_X10_12 sp0 (by decide) (by decide) rfl (by decide) (rp0_0 _) ?_
    obtain ⟨v1, hc2, h⟩ := bind_of h
    refine ev_invV_v (k := (1 : Int)) (av := []) (st := []) (v := (0, v1)) (τ := σ) dX10_status_120 ml_X10_407 mv_X0_takenInAll (T := TX0) (ci := 0) rfl sp1 (by decide) (by decide) rfl ⟨Nat.le_of_ble_eq_true rfl, Nat.le_of_ble_eq_true rfl⟩ (Nat.le_of_ble_eq_true rfl) (c_X0_takenInAll hB1 hc2) ?_
    obtain rfl := Option.some.inj h
    dsimp only
    exact ev_iret dX10_status_123 rfl rfl
  refine ev_by h (fun cs h => ?_) (fun cs6 h => ?_)
  · refine ev_tswIn (off := 101) (tgt := 124) dX10_status_23 (by rw [cs]; decide) (by rw [cs]; decide) (by rw [cs]; rfl) rfl ?_
    refine ev_aload_n dX10_status_124 rfl (by decide) ?_
    obtain ⟨v3, hc4, h⟩ := bind_of h
    refine ev_invV_v (k := (0 : Int)) (av := []) (st := []) (v := (0, v3.1)) (τ := v3.2) dX10_status_125 ml_X10_410 mv_X10_daysSomebodyCant (T := TX10) (ci := 9) rfl sp0 (by decide) (by decide) rfl ⟨Nat.le_of_ble_eq_true rfl, Nat.le_of_ble_eq_true rfl⟩ (Nat.le_of_ble_eq_true rfl) (c_X10_daysSomebodyCant hc4) ?_
    obtain rfl := Option.some.inj h
    dsimp only
    exact ev_iret dX10_status_128 rfl rfl
  refine ev_by h (fun cs h => ?_) (fun cs7 h => ?_)
  · refine ev_tswIn (off := 106) (tgt := 129) dX10_status_23 (by rw [cs]; decide) (by rw [cs]; decide) (by rw [cs]; rfl) rfl ?_
    refine ev_aload_n dX10_status_129 rfl (by decide) ?_
    refine ev_getf (j := 4) (t := 2) (x := (28 : Int)) dX10_status_130 cf_X10 wf_X10_25 sp0 (by decide) (by decide) rfl (by decide) (rp0_4 _) ?_
    obtain ⟨v5, hc6, h⟩ := bind_of h
    refine ev_invV_v (k := (28 : Int)) (av := []) (st := []) (v := (0, v5)) (τ := σ) dX10_status_133 ml_X10_413 mv_X7_size (T := TX7) (ci := 6) rfl sp28 (by decide) (by decide) rfl ⟨Nat.le_of_ble_eq_true rfl, Nat.le_of_ble_eq_true rfl⟩ (Nat.le_of_ble_eq_true rfl) (c_X7_size hc6) ?_
    obtain rfl := Option.some.inj h
    dsimp only
    exact ev_iret dX10_status_136 rfl rfl
  refine ev_by h (fun cs h => ?_) (fun cs8 h => ?_)
  · refine ev_tswIn (off := 114) (tgt := 137) dX10_status_23 (by rw [cs]; decide) (by rw [cs]; decide) (by rw [cs]; rfl) rfl ?_
    refine ev_aload_n dX10_status_137 rfl (by decide) ?_
    refine ev_getf (j := 0) (t := 2) (x := (1 : Int)) dX10_status_138 cf_X10 wf_X10_12 sp0 (by decide) (by decide) rfl (by decide) (rp0_0 _) ?_
    refine ev_getf (j := 13) (t := 0) (x := (σ (1 : Int) 13)) dX10_status_141 cf_X0 wf_X10_397 sp1 (by decide) (by decide) rfl (by decide) rfl ?_
    obtain rfl := Option.some.inj h
    dsimp only
    exact ev_iret dX10_status_144 rfl rfl
  refine ev_by h (fun cs h => ?_) (fun cs9 h => ?_)
  · refine ev_tswIn (off := 122) (tgt := 145) dX10_status_23 (by rw [cs]; decide) (by rw [cs]; decide) (by rw [cs]; rfl) rfl ?_
    refine ev_aload_n dX10_status_145 rfl (by decide) ?_
    refine ev_getf (j := 5) (t := 2) (x := (30 : Int)) dX10_status_146 cf_X10 wf_X10_32 sp0 (by decide) (by decide) rfl (by decide) (rp0_5 _) ?_
    obtain ⟨v7, hc8, h⟩ := bind_of h
    refine ev_invV_v (k := (30 : Int)) (av := []) (st := []) (v := (0, v7)) (τ := σ) dX10_status_149 ml_X10_416 mv_X6_filled (T := TX6) (ci := 5) rfl sp30 (by decide) (by decide) rfl ⟨Nat.le_of_ble_eq_true rfl, Nat.le_of_ble_eq_true rfl⟩ (Nat.le_of_ble_eq_true rfl) (c_X6_filled hc8) ?_
    obtain rfl := Option.some.inj h
    dsimp only
    exact ev_iret dX10_status_152 rfl rfl
  refine ev_tswOut (tgt := 153) dX10_status_23 (by omega) rfl ?_
  refine ev_iconst dX10_status_153 (by decide) ?_
  obtain rfl := Option.some.inj h
  dsimp only
  exact ev_iret dX10_status_154 rfl rfl
set_option maxHeartbeats 4000000 in
set_option maxRecDepth 20000 in
theorem c_X10_status {σ : Mem} {x1 : Int}  {q : (Int × Mem)} (h : f_X10_status σ x1 = some q) : Ms yX10_status M_X10_status 181 181 [(2, (0 : Int)), (0, x1)] rho σ (some (0, q.1), rho, q.2) := by
  refine Ms.of 0 (by decide +kernel) rfl (fun z => absurd z (by decide)) (fun _ _ _ => trivial) rfl rfl ?_
  unfold f_X10_status at h
  show Ev M_X10_status 181 181 _ 0 181 rho σ [(2, (0 : Int)), (0, x1)] []
  refine ev_iload_n dX10_status_0 rfl ?_
  refine ev_bipush dX10_status_1 (by decide) (by decide) ?_
  refine ev_icmp_lt (tgt := 22) dX10_status_3 rfl h (fun cb h => ?_) (fun cb h => ?_)
  · exact ev_sub (L2 := [(2, (0 : Int)), (0, x1)]) (e_X10_status_22 σ x1 h) ⟨.inr rfl, .inr rfl, trivial⟩
  refine ev_iload_n dX10_status_6 rfl ?_
  refine ev_bipush dX10_status_7 (by decide) (by decide) ?_
  refine ev_icmp_ge (tgt := 22) dX10_status_9 rfl h (fun cb h => ?_) (fun cb h => ?_)
  · exact ev_sub (L2 := [(2, (0 : Int)), (0, x1)]) (e_X10_status_22 σ x1 h) ⟨.inr rfl, .inr rfl, trivial⟩
  refine ev_aload_n dX10_status_12 rfl (by decide) ?_
  refine ev_getf (j := 6) (t := 2) (x := (34 : Int)) dX10_status_13 cf_X10 wf_X10_36 sp0 (by decide) (by decide) rfl (by decide) (rp0_6 _) ?_
  refine ev_iload_n dX10_status_16 rfl ?_
  refine ev_bipush dX10_status_17 (by decide) (by decide) ?_
  refine ev_isub dX10_status_19 ?_
  refine ev_iald dX10_status_20 sp34 (by decide) (by decide) h (fun h => ?_)
  obtain rfl := Option.some.inj h
  dsimp only
  exact ev_iret dX10_status_21 rfl rfl
