def K_X7_readInto_9 (r : Option V × Mem × Mem) : (Int × Int × Mem) ⊕ ((Mem) ⊕ (Int × Mem) ⊕ (Mem) ⊕ (Mem)) → Prop := Sum.elim (fun a => Ev M_X7_readInto 210 210 r 9 210 rho a.2.2 [(2, (28 : Int)), (2, (10 : Int)), (0, a.1), (0, a.2.1)] []) (Sum.elim (fun e => Ev M_X7_readInto 210 210 r 24 210 rho e [(9, 0), (9, 0), (9, 0), (9, 0)] []) (Sum.elim (fun e => Ev M_X7_readInto 210 210 r 44 210 rho e.2 [(9, 0), (9, 0), (0, e.1), (9, 0)] []) (Sum.elim (fun e => Ev M_X7_readInto 210 210 r 59 210 rho e [(2, (28 : Int)), (9, 0), (9, 0), (9, 0)] []) (fun e => Ev M_X7_readInto 210 210 r 85 210 rho e [(9, 0), (9, 0), (9, 0), (9, 0)] []))))
set_option maxHeartbeats 4000000 in
set_option maxRecDepth 20000 in
theorem e_X7_readInto_59 (σ : Mem)  {q : (Int × Mem)} (h : f_X7_readInto_59 σ  = some q) : Ev M_X7_readInto 210 210 (some (0, q.1), rho, q.2) 59 210 rho σ [(2, (28 : Int)), (9, 0), (9, 0), (9, 0)] [] := by
  unfold f_X7_readInto_59 at h
  refine ev_aload_n dX7_readInto_59 rfl (by decide) ?_
  refine ev_aload_n dX7_readInto_60 rfl (by decide) ?_
  refine ev_getf (j := 2) (t := 0) (x := (σ (28 : Int) 2)) dX7_readInto_61 cf_X7 wf_X7_22 sp28 (by decide) (by decide) rfl (by decide) rfl ?_
  refine ev_putfG (j := 4) (t := 0) dX7_readInto_64 cf_X7 wf_X7_19 sp28 (by decide) (by decide) rfl (by decide) (by decide) rfl (fun z => absurd z (by decide +kernel)) h (fun σ11 h => ?_)
  refine ev_iconst dX7_readInto_67 (by decide) ?_
  obtain rfl := Option.some.inj h
  dsimp only
  exact ev_iret dX7_readInto_68 rfl rfl
set_option maxHeartbeats 4000000 in
set_option maxRecDepth 20000 in
theorem b_X7_readInto_9  {r : Option V × Mem × Mem} : ∀ a x, f_X7_readInto_9B  a = some x → K_X7_readInto_9  r x → K_X7_readInto_9  r (.inl a) := by
  intro a x h K
  obtain ⟨x2, x3, σ⟩ := a
  have h : f_X7_readInto_9C  x2 x3 σ = some x := h
  unfold f_X7_readInto_9C at h
  show Ev M_X7_readInto 210 210 r 9 210 rho σ [(2, (28 : Int)), (2, (10 : Int)), (0, x2), (0, x3)] []
  refine ev_iload_n dX7_readInto_9 rfl ?_
  refine ev_sipush dX7_readInto_10 (by decide) (by decide) ?_
  refine ev_icmp_gt (tgt := 85) dX7_readInto_13 rfl h (fun cb h => ?_) (fun cb h => ?_)
  · obtain rfl := Option.some.inj h
    exact ev_sub (L2 := [(9, 0), (9, 0), (9, 0), (9, 0)]) K ⟨.inl rfl, .inl rfl, .inl rfl, .inl rfl, trivial⟩
  refine ev_aload_n dX7_readInto_16 rfl (by decide) ?_
  refine ev_aload_n dX7_readInto_17 rfl (by decide) ?_
  obtain ⟨v2, hc3, h⟩ := bind_of h
  refine ev_invV_v (k := (28 : Int)) (av := [(2, (10 : Int))]) (st := []) (v := (0, v2.1)) (τ := v2.2) dX7_readInto_18 ml_X7_25 mv_X7_statement (T := TX7) (ci := 6) rfl sp28 (by decide) (by decide) rfl ⟨Nat.le_of_ble_eq_true rfl, Nat.le_of_ble_eq_true rfl⟩ (Nat.le_of_ble_eq_true rfl) (c_X7_statement hc3) ?_
  refine ev_if_ne (tgt := 26) dX7_readInto_21 rfl h (fun cb h => ?_) (fun cb h => ?_)
  · refine ev_iincG dX7_readInto_26 rfl h rfl (fun v4 h => ?_)
    show Ev _ _ _ _ 29 _ _ _ [(2, (28 : Int)), (2, (10 : Int)), (0, v4), (0, x3)] _
    refine ev_aload_n dX7_readInto_29 rfl (by decide) ?_
    obtain ⟨σ5, hc6, h⟩ := bind_of h
    refine ev_invV_n (k := (28 : Int)) (av := []) (st := []) (τ := σ5) dX7_readInto_30 ml_X7_29 mv_X7_skipBlanks (T := TX7) (ci := 6) rfl sp28 (by decide) (by decide) rfl ⟨Nat.le_of_ble_eq_true rfl, Nat.le_of_ble_eq_true rfl⟩ (Nat.le_of_ble_eq_true rfl) (c_X7_skipBlanks hc6) ?_
    refine ev_aload_n dX7_readInto_33 rfl (by decide) ?_
    refine ev_getf (j := 2) (t := 0) (x := (σ5 (28 : Int) 2)) dX7_readInto_34 cf_X7 wf_X7_22 sp28 (by decide) (by decide) rfl (by decide) rfl ?_
    refine ev_aload_n dX7_readInto_37 rfl (by decide) ?_
    refine ev_getf (j := 1) (t := 0) (x := (σ5 (28 : Int) 1)) dX7_readInto_38 cf_X7 wf_X7_15 sp28 (by decide) (by decide) rfl (by decide) rfl ?_
    refine ev_icmp_lt (tgt := 46) dX7_readInto_41 rfl h (fun cb h => ?_) (fun cb h => ?_)
    · refine ev_aload_n dX7_readInto_46 rfl (by decide) ?_
      refine ev_aload_n dX7_readInto_47 rfl (by decide) ?_
      refine ev_getf (j := 2) (t := 0) (x := (σ5 (28 : Int) 2)) dX7_readInto_48 cf_X7 wf_X7_22 sp28 (by decide) (by decide) rfl (by decide) rfl ?_
      obtain ⟨v7, hc8, h⟩ := bind_of h
      refine ev_invV_v (k := (28 : Int)) (av := [(0, (σ5 (28 : Int) 2))]) (st := []) (v := (0, v7)) (τ := σ5) dX7_readInto_51 ml_X7_32 mv_X7_byteAt (T := TX7) (ci := 6) rfl sp28 (by decide) (by decide) rfl ⟨Nat.le_of_ble_eq_true rfl, Nat.le_of_ble_eq_true rfl⟩ (Nat.le_of_ble_eq_true rfl) (c_X7_byteAt hc8) ?_
      refine ev_bipush dX7_readInto_54 (by decide) (by decide) ?_
      refine ev_icmp_eq (tgt := 69) dX7_readInto_56 rfl h (fun cb h => ?_) (fun cb h => ?_)
      · refine ev_aload_n dX7_readInto_69 rfl (by decide) ?_
        refine ev_dup dX7_readInto_70 (show (2 : Nat) ≠ 1 by decide) ?_
        refine ev_getf (j := 2) (t := 0) (x := (σ5 (28 : Int) 2)) dX7_readInto_71 cf_X7 wf_X7_22 sp28 (by decide) (by decide) rfl (by decide) rfl ?_
        refine ev_iconst dX7_readInto_74 (by decide) ?_
        refine ev_iadd dX7_readInto_75 ?_
        refine ev_putfG (j := 2) (t := 0) dX7_readInto_76 cf_X7 wf_X7_22 sp28 (by decide) (by decide) rfl (by decide) (by decide) rfl (fun z => absurd z (by decide +kernel)) h (fun σ9 h => ?_)
        refine ev_iincG dX7_readInto_79 rfl h rfl (fun v10 h => ?_)
        show Ev _ _ _ _ 82 _ _ _ [(2, (28 : Int)), (2, (10 : Int)), (0, v4), (0, v10)] _
        refine ev_goto (tgt := 9) dX7_readInto_82 rfl ?_
        obtain rfl := Option.some.inj h
        exact ev_sub (L2 := [(2, (28 : Int)), (2, (10 : Int)), (0, v4), (0, v10)]) K ⟨.inr rfl, .inr rfl, .inr rfl, .inr rfl, trivial⟩
      obtain rfl := Option.some.inj h
      exact ev_sub (L2 := [(2, (28 : Int)), (9, 0), (9, 0), (9, 0)]) K ⟨.inr rfl, .inl rfl, .inl rfl, .inl rfl, trivial⟩
    obtain rfl := Option.some.inj h
    exact ev_sub (L2 := [(9, 0), (9, 0), (0, v4), (9, 0)]) K ⟨.inl rfl, .inl rfl, .inr rfl, .inl rfl, trivial⟩
  obtain rfl := Option.some.inj h
  exact ev_sub (L2 := [(9, 0), (9, 0), (9, 0), (9, 0)]) K ⟨.inl rfl, .inl rfl, .inl rfl, .inl rfl, trivial⟩
set_option maxHeartbeats 4000000 in
set_option maxRecDepth 20000 in
theorem e_X7_readInto_9 (σ : Mem) (x2 x3 : Int)  {q : (Int × Mem)} (h : f_X7_readInto_9 σ x2 x3 = some q) : Ev M_X7_readInto 210 210 (some (0, q.1), rho, q.2) 9 210 rho σ [(2, (28 : Int)), (2, (10 : Int)), (0, x2), (0, x3)] [] := by
  unfold f_X7_readInto_9 at h
  obtain ⟨e, hl, h⟩ := bind_of h
  refine loop_ev (K := K_X7_readInto_9  (some (0, q.1), rho, q.2)) (b_X7_readInto_9 ) FU (x2, x3, σ) e hl ?_
  rcases e with e | e
  · show Ev M_X7_readInto 210 210 _ 24 210 rho e [(9, 0), (9, 0), (9, 0), (9, 0)] []
    replace h : some ((-1 : Int), e) = some q := h
    refine ev_iconst dX7_readInto_24 (by decide) ?_
    obtain rfl := Option.some.inj h
    dsimp only
    exact ev_iret dX7_readInto_25 rfl rfl
  rcases e with e | e
  · show Ev M_X7_readInto 210 210 _ 44 210 rho e.2 [(9, 0), (9, 0), (0, e.1), (9, 0)] []
    replace h : some (e.1, e.2) = some q := h
    refine ev_iload_n dX7_readInto_44 rfl ?_
    obtain rfl := Option.some.inj h
    dsimp only
    exact ev_iret dX7_readInto_45 rfl rfl
  rcases e with e | e
  · show Ev M_X7_readInto 210 210 _ 59 210 rho e [(2, (28 : Int)), (9, 0), (9, 0), (9, 0)] []
    replace h : f_X7_readInto_59 e = some q := h
    exact ev_sub (L2 := [(2, (28 : Int)), (9, 0), (9, 0), (9, 0)]) (e_X7_readInto_59 e h) ⟨.inr rfl, .inl rfl, .inl rfl, .inl rfl, trivial⟩
  · show Ev M_X7_readInto 210 210 _ 85 210 rho e [(9, 0), (9, 0), (9, 0), (9, 0)] []
    replace h : some ((-1 : Int), e) = some q := h
    refine ev_iconst dX7_readInto_85 (by decide) ?_
    obtain rfl := Option.some.inj h
    dsimp only
    exact ev_iret dX7_readInto_86 rfl rfl
set_option maxHeartbeats 4000000 in
set_option maxRecDepth 20000 in
theorem c_X7_readInto {σ : Mem}  {q : (Int × Mem)} (h : f_X7_readInto σ  = some q) : Ms yX7_readInto M_X7_readInto 210 210 [(2, (28 : Int)), (2, (10 : Int))] rho σ (some (0, q.1), rho, q.2) := by
  refine Ms.of 2 (by decide +kernel) rfl (fun z => absurd z (by decide)) (fun _ _ _ => trivial) rfl rfl ?_
  unfold f_X7_readInto at h
  show Ev M_X7_readInto 210 210 _ 0 210 rho σ [(2, (28 : Int)), (2, (10 : Int)), (9, 0), (9, 0)] []
  refine ev_aload_n dX7_readInto_0 rfl (by decide) ?_
  refine ev_iconst dX7_readInto_1 (by decide) ?_
  refine ev_putfG (j := 2) (t := 0) dX7_readInto_2 cf_X7 wf_X7_22 sp28 (by decide) (by decide) rfl (by decide) (by decide) rfl (fun z => absurd z (by decide +kernel)) h (fun σ1 h => ?_)
  refine ev_iconst dX7_readInto_5 (by decide) ?_
  refine ev_istore_n dX7_readInto_6 rfl (by decide) ?_
  show Ev _ _ _ _ 7 _ _ _ [(2, (28 : Int)), (2, (10 : Int)), (0, (0 : Int)), (9, 0)] _
  refine ev_iconst dX7_readInto_7 (by decide) ?_
  refine ev_istore_n dX7_readInto_8 rfl (by decide) ?_
  show Ev _ _ _ _ 9 _ _ _ [(2, (28 : Int)), (2, (10 : Int)), (0, (0 : Int)), (0, (0 : Int))] _
  exact ev_sub (L2 := [(2, (28 : Int)), (2, (10 : Int)), (0, (0 : Int)), (0, (0 : Int))]) (e_X7_readInto_9 σ1 (0 : Int) (0 : Int) h) ⟨.inr rfl, .inr rfl, .inr rfl, .inr rfl, trivial⟩
def K_X8_become_2 (x0 x1 : Int) (r : Option V × Mem × Mem) : (Int × Mem) ⊕ ((Mem)) → Prop := Sum.elim (fun a => Ev M_X8_become 210 210 r 2 210 rho a.2 [(2, x0), (2, x1), (0, a.1)] []) (fun e => Ev M_X8_become 210 210 r 25 210 rho e [(2, x0), (2, x1), (9, 0)] [])
set_option maxHeartbeats 4000000 in
set_option maxRecDepth 20000 in
theorem e_X8_become_25 (σ : Mem) (x0 x1 : Int) (hx0 : isW x0) (hx1 : isW x1) {q : Mem} (h : f_X8_become_25 σ x0 x1 = some q) : Ev M_X8_become 210 210 (none, rho, q) 25 210 rho σ [(2, x0), (2, x1), (9, 0)] [] := by
  unfold f_X8_become_25 at h
  refine ev_aload_n dX8_become_25 rfl (pW hx1).1 ?_
  refine ev_getf (j := 1) (t := 2) (x := (x1 + 2)) dX8_become_26 cf_X8 wf_X8_15 (sW hx1) (pW hx1).1 (pW hx1).2 rfl (by decide) (rW1 _ hx1) ?_
  refine ev_iconst dX8_become_29 (by decide) ?_
  refine ev_aload_n dX8_become_30 rfl (pW hx0).1 ?_
  refine ev_getf (j := 1) (t := 2) (x := (x0 + 2)) dX8_become_31 cf_X8 wf_X8_15 (sW hx0) (pW hx0).1 (pW hx0).2 rfl (by decide) (rW1 _ hx0) ?_
  refine ev_iconst dX8_become_34 (by decide) ?_
  refine ev_iconst dX8_become_35 (by decide) ?_
  refine ev_copyiG dX8_become_36 wa_X8_41 wa_words (sW1 hx1) (pW1 hx1).1 (pW1 hx1).2 (sW1 hx0) (pW1 hx0).1 (pW1 hx0).2 (by decide) (Nat.le_of_ble_eq_true rfl) h (fun σ3 h => ?_)
  refine ev_aload_n dX8_become_39 rfl (pW hx1).1 ?_
  refine ev_getf (j := 2) (t := 2) (x := (x1 + 3)) dX8_become_40 cf_X8 wf_X8_19 (sW hx1) (pW hx1).1 (pW hx1).2 rfl (by decide) (rW2 _ hx1) ?_
  refine ev_iconst dX8_become_43 (by decide) ?_
  show Ev _ _ _ _ 44 _ _ _ _ _
  refine ev_aload_n dX8_become_44 rfl (pW hx0).1 ?_
  refine ev_getf (j := 2) (t := 2) (x := (x0 + 3)) dX8_become_45 cf_X8 wf_X8_19 (sW hx0) (pW hx0).1 (pW hx0).2 rfl (by decide) (rW2 _ hx0) ?_
  refine ev_iconst dX8_become_48 (by decide) ?_
  refine ev_iconst dX8_become_49 (by decide) ?_
  refine ev_copyiG dX8_become_50 wa_X8_41 wa_words (sW2 hx1) (pW2 hx1).1 (pW2 hx1).2 (sW2 hx0) (pW2 hx0).1 (pW2 hx0).2 (by decide) (Nat.le_of_ble_eq_true rfl) h (fun σ4 h => ?_)
  refine ev_aload_n dX8_become_53 rfl (pW hx1).1 ?_
  refine ev_getf (j := 3) (t := 2) (x := (x1 + 4)) dX8_become_54 cf_X8 wf_X8_22 (sW hx1) (pW hx1).1 (pW hx1).2 rfl (by decide) (rW3 _ hx1) ?_
  refine ev_iconst dX8_become_57 (by decide) ?_
  refine ev_aload_n dX8_become_58 rfl (pW hx0).1 ?_
  refine ev_getf (j := 3) (t := 2) (x := (x0 + 4)) dX8_become_59 cf_X8 wf_X8_22 (sW hx0) (pW hx0).1 (pW hx0).2 rfl (by decide) (rW3 _ hx0) ?_
  refine ev_iconst dX8_become_62 (by decide) ?_
  refine ev_iconst dX8_become_63 (by decide) ?_
  show Ev _ _ _ _ 64 _ _ _ _ _
  refine ev_copyiG dX8_become_64 wa_X8_41 wa_words (sW3 hx1) (pW3 hx1).1 (pW3 hx1).2 (sW3 hx0) (pW3 hx0).1 (pW3 hx0).2 (by decide) (Nat.le_of_ble_eq_true rfl) h (fun σ5 h => ?_)
  refine ev_aload_n dX8_become_67 rfl (pW hx1).1 ?_
  refine ev_getf (j := 4) (t := 2) (x := (x1 + 5)) dX8_become_68 cf_X8 wf_X8_25 (sW hx1) (pW hx1).1 (pW hx1).2 rfl (by decide) (rW4 _ hx1) ?_
  refine ev_iconst dX8_become_71 (by decide) ?_
  refine ev_aload_n dX8_become_72 rfl (pW hx0).1 ?_
  refine ev_getf (j := 4) (t := 2) (x := (x0 + 5)) dX8_become_73 cf_X8 wf_X8_25 (sW hx0) (pW hx0).1 (pW hx0).2 rfl (by decide) (rW4 _ hx0) ?_
  refine ev_iconst dX8_become_76 (by decide) ?_
  refine ev_iconst dX8_become_77 (by decide) ?_
  refine ev_copyiG dX8_become_78 wa_X8_41 wa_words (sW4 hx1) (pW4 hx1).1 (pW4 hx1).2 (sW4 hx0) (pW4 hx0).1 (pW4 hx0).2 (by decide) (Nat.le_of_ble_eq_true rfl) h (fun σ6 h => ?_)
  refine ev_aload_n dX8_become_81 rfl (pW hx1).1 ?_
  refine ev_getf (j := 5) (t := 2) (x := (x1 + 6)) dX8_become_82 cf_X8 wf_X8_28 (sW hx1) (pW hx1).1 (pW hx1).2 rfl (by decide) (rW5 _ hx1) ?_
  refine ev_iconst dX8_become_85 (by decide) ?_
  show Ev _ _ _ _ 86 _ _ _ _ _
  refine ev_aload_n dX8_become_86 rfl (pW hx0).1 ?_
  refine ev_getf (j := 5) (t := 2) (x := (x0 + 6)) dX8_become_87 cf_X8 wf_X8_28 (sW hx0) (pW hx0).1 (pW hx0).2 rfl (by decide) (rW5 _ hx0) ?_
  refine ev_iconst dX8_become_90 (by decide) ?_
  refine ev_iconst dX8_become_91 (by decide) ?_
  refine ev_copylG dX8_become_92 wa_X8_41 wa_words (sW5 hx1) (pW5 hx1).1 (pW5 hx1).2 (sW5 hx0) (pW5 hx0).1 (pW5 hx0).2 (by decide) (Nat.le_of_ble_eq_true rfl) h (fun σ7 h => ?_)
  refine ev_aload_n dX8_become_95 rfl (pW hx1).1 ?_
  refine ev_getf (j := 6) (t := 2) (x := (x1 + 7)) dX8_become_96 cf_X8 wf_X8_32 (sW hx1) (pW hx1).1 (pW hx1).2 rfl (by decide) (rW6 _ hx1) ?_
  refine ev_iconst dX8_become_99 (by decide) ?_
  refine ev_aload_n dX8_become_100 rfl (pW hx0).1 ?_
  refine ev_getf (j := 6) (t := 2) (x := (x0 + 7)) dX8_become_101 cf_X8 wf_X8_32 (sW hx0) (pW hx0).1 (pW hx0).2 rfl (by decide) (rW6 _ hx0) ?_
  refine ev_iconst dX8_become_104 (by decide) ?_
  refine ev_bipush dX8_become_105 (by decide) (by decide) ?_
  show Ev _ _ _ _ 107 _ _ _ _ _
  refine ev_copyiG dX8_become_107 wa_X8_41 wa_words (sW6 hx1) (pW6 hx1).1 (pW6 hx1).2 (sW6 hx0) (pW6 hx0).1 (pW6 hx0).2 (by decide) (Nat.le_of_ble_eq_true rfl) h (fun σ8 h => ?_)
  refine ev_aload_n dX8_become_110 rfl (pW hx1).1 ?_
  refine ev_getf (j := 7) (t := 2) (x := (x1 + 8)) dX8_become_111 cf_X8 wf_X8_35 (sW hx1) (pW hx1).1 (pW hx1).2 rfl (by decide) (rW7 _ hx1) ?_
  refine ev_iconst dX8_become_114 (by decide) ?_
  refine ev_aload_n dX8_become_115 rfl (pW hx0).1 ?_
  refine ev_getf (j := 7) (t := 2) (x := (x0 + 8)) dX8_become_116 cf_X8 wf_X8_35 (sW hx0) (pW hx0).1 (pW hx0).2 rfl (by decide) (rW7 _ hx0) ?_
  refine ev_iconst dX8_become_119 (by decide) ?_
  refine ev_bipush dX8_become_120 (by decide) (by decide) ?_
  refine ev_copyiG dX8_become_122 wa_X8_41 wa_words (sW7 hx1) (pW7 hx1).1 (pW7 hx1).2 (sW7 hx0) (pW7 hx0).1 (pW7 hx0).2 (by decide) (Nat.le_of_ble_eq_true rfl) h (fun σ9 h => ?_)
  refine ev_aload_n dX8_become_125 rfl (pW hx1).1 ?_
  refine ev_getf (j := 8) (t := 2) (x := (x1 + 9)) dX8_become_126 cf_X8 wf_X8_38 (sW hx1) (pW hx1).1 (pW hx1).2 rfl (by decide) (rW8 _ hx1) ?_
  refine ev_iconst dX8_become_129 (by decide) ?_
  show Ev _ _ _ _ 130 _ _ _ _ _
  refine ev_aload_n dX8_become_130 rfl (pW hx0).1 ?_
  refine ev_getf (j := 8) (t := 2) (x := (x0 + 9)) dX8_become_131 cf_X8 wf_X8_38 (sW hx0) (pW hx0).1 (pW hx0).2 rfl (by decide) (rW8 _ hx0) ?_
  refine ev_iconst dX8_become_134 (by decide) ?_
  refine ev_bipush dX8_become_135 (by decide) (by decide) ?_
  refine ev_copyiG dX8_become_137 wa_X8_41 wa_words (sW8 hx1) (pW8 hx1).1 (pW8 hx1).2 (sW8 hx0) (pW8 hx0).1 (pW8 hx0).2 (by decide) (Nat.le_of_ble_eq_true rfl) h (fun σ10 h => ?_)
  obtain rfl := Option.some.inj h
  exact ev_vret dX8_become_140 rfl rfl
set_option maxHeartbeats 4000000 in
set_option maxRecDepth 20000 in
theorem b_X8_become_2 (x0 x1 : Int) (hx0 : isW x0) (hx1 : isW x1) {r : Option V × Mem × Mem} : ∀ a x, f_X8_become_2B x0 x1 a = some x → K_X8_become_2 x0 x1 r x → K_X8_become_2 x0 x1 r (.inl a) := by
  intro a x h K
  obtain ⟨x2, σ⟩ := a
  have h : f_X8_become_2C x0 x1 x2 σ = some x := h
  unfold f_X8_become_2C at h
  show Ev M_X8_become 210 210 r 2 210 rho σ [(2, x0), (2, x1), (0, x2)] []
  refine ev_iload_n dX8_become_2 rfl ?_
  refine ev_iconst dX8_become_3 (by decide) ?_
  refine ev_icmp_ge (tgt := 25) dX8_become_4 rfl h (fun cb h => ?_) (fun cb h => ?_)
  · obtain rfl := Option.some.inj h
    exact ev_sub (L2 := [(2, x0), (2, x1), (9, 0)]) K ⟨.inr rfl, .inr rfl, .inl rfl, trivial⟩
  refine ev_aload_n dX8_become_7 rfl (pW hx0).1 ?_
  refine ev_getf (j := 0) (t := 2) (x := (x0 + 1)) dX8_become_8 cf_X8 wf_X8_9 (sW hx0) (pW hx0).1 (pW hx0).2 rfl (by decide) (rW0 _ hx0) ?_
  refine ev_iload_n dX8_become_11 rfl ?_
  refine ev_aload_n dX8_become_12 rfl (pW hx1).1 ?_
  refine ev_getf (j := 0) (t := 2) (x := (x1 + 1)) dX8_become_13 cf_X8 wf_X8_9 (sW hx1) (pW hx1).1 (pW hx1).2 rfl (by decide) (rW0 _ hx1) ?_
  refine ev_iload_n dX8_become_16 rfl ?_
  refine ev_zald dX8_become_17 (sW0 hx1) (pW0 hx1).1 (pW0 hx1).2 h (fun h => ?_)
  refine ev_zastG dX8_become_18 (sW0 hx0) (pW0 hx0).1 (pW0 hx0).2 h (fun σ1 h => ?_)
  refine ev_iincG dX8_become_19 rfl h rfl (fun v2 h => ?_)
  show Ev _ _ _ _ 22 _ _ _ [(2, x0), (2, x1), (0, v2)] _
  refine ev_goto (tgt := 2) dX8_become_22 rfl ?_
  obtain rfl := Option.some.inj h
  exact ev_sub (L2 := [(2, x0), (2, x1), (0, v2)]) K ⟨.inr rfl, .inr rfl, .inr rfl, trivial⟩
set_option maxHeartbeats 4000000 in
set_option maxRecDepth 20000 in
theorem e_X8_become_2 (σ : Mem) (x0 x1 x2 : Int) (hx0 : isW x0) (hx1 : isW x1) {q : Mem} (h : f_X8_become_2 σ x0 x1 x2 = some q) : Ev M_X8_become 210 210 (none, rho, q) 2 210 rho σ [(2, x0), (2, x1), (0, x2)] [] := by
  unfold f_X8_become_2 at h
  obtain ⟨e, hl, h⟩ := bind_of h
  refine loop_ev (K := K_X8_become_2 x0 x1 (none, rho, q)) (b_X8_become_2 x0 x1 hx0 hx1) FU (x2, σ) e hl ?_
  show Ev M_X8_become 210 210 _ 25 210 rho e [(2, x0), (2, x1), (9, 0)] []
  replace h : f_X8_become_25 e x0 x1 = some q := h
  exact ev_sub (L2 := [(2, x0), (2, x1), (9, 0)]) (e_X8_become_25 e x0 x1 hx0 hx1 h) ⟨.inr rfl, .inr rfl, .inl rfl, trivial⟩
set_option maxHeartbeats 4000000 in
set_option maxRecDepth 20000 in
theorem c_X8_become {σ : Mem} {x0 x1 : Int} (hx0 : isW x0) (hx1 : isW x1) {q : Mem} (h : f_X8_become σ x0 x1 = some q) : Ms yX8_become M_X8_become 210 210 [(2, x0), (2, x1)] rho σ (none, rho, q) := by
  refine Ms.of 1 (by decide +kernel) rfl (fun z => absurd z (by decide)) (fun _ _ _ => trivial) rfl rfl ?_
  unfold f_X8_become at h
  show Ev M_X8_become 210 210 _ 0 210 rho σ [(2, x0), (2, x1), (9, 0)] []
  refine ev_iconst dX8_become_0 (by decide) ?_
  refine ev_istore_n dX8_become_1 rfl (by decide) ?_
  show Ev _ _ _ _ 2 _ _ _ [(2, x0), (2, x1), (0, (0 : Int))] _
  exact ev_sub (L2 := [(2, x0), (2, x1), (0, (0 : Int))]) (e_X8_become_2 σ x0 x1 (0 : Int) hx0 hx1 h) ⟨.inr rfl, .inr rfl, .inr rfl, trivial⟩
def K_X8_cants_4 (σ : Mem) (x0 : Int) (r : Option V × Mem × Mem) : (Int × Int) ⊕ ((Int)) → Prop := Sum.elim (fun a => Ev M_X8_cants 210 210 r 4 210 rho σ [(2, x0), (0, a.1), (0, a.2)] []) (fun e => Ev M_X8_cants 210 210 r 27 210 rho σ [(9, 0), (0, e), (9, 0)] [])
set_option maxHeartbeats 4000000 in
set_option maxRecDepth 20000 in
theorem e_X8_cants_21 (σ : Mem) (x0 x1 x2 : Int) (hx0 : isW x0) {q : ((Int × Int) ⊕ ((Int)))} (h : f_X8_cants_21 σ x0 x1 x2 = some q) {r : Option V × Mem × Mem} (K : K_X8_cants_4 σ x0 r q) : Ev M_X8_cants 210 210 r 21 210 rho σ [(2, x0), (0, x1), (0, x2)] [] := by
  unfold f_X8_cants_21 at h
  refine ev_iincG dX8_cants_21 rfl h rfl (fun v2 h => ?_)
  show Ev _ _ _ _ 24 _ _ _ [(2, x0), (0, x1), (0, v2)] _
  refine ev_goto (tgt := 4) dX8_cants_24 rfl ?_
  obtain rfl := Option.some.inj h
  exact ev_sub (L2 := [(2, x0), (0, x1), (0, v2)]) K ⟨.inr rfl, .inr rfl, .inr rfl, trivial⟩
set_option maxHeartbeats 4000000 in
set_option maxRecDepth 20000 in
theorem b_X8_cants_4 (σ : Mem) (x0 : Int) (hx0 : isW x0) {r : Option V × Mem × Mem} : ∀ a x, f_X8_cants_4B σ x0 a = some x → K_X8_cants_4 σ x0 r x → K_X8_cants_4 σ x0 r (.inl a) := by
  intro a x h K
  obtain ⟨x1, x2⟩ := a
  have h : f_X8_cants_4C σ x0 x1 x2 = some x := h
  unfold f_X8_cants_4C at h
  show Ev M_X8_cants 210 210 r 4 210 rho σ [(2, x0), (0, x1), (0, x2)] []
  refine ev_iload_n dX8_cants_4 rfl ?_
  refine ev_iconst dX8_cants_5 (by decide) ?_
  refine ev_icmp_ge (tgt := 27) dX8_cants_6 rfl h (fun cb h => ?_) (fun cb h => ?_)
  · obtain rfl := Option.some.inj h
    exact ev_sub (L2 := [(9, 0), (0, x1), (9, 0)]) K ⟨.inl rfl, .inr rfl, .inl rfl, trivial⟩
  refine ev_aload_n dX8_cants_9 rfl (pW hx0).1 ?_
  refine ev_getf (j := 0) (t := 2) (x := (x0 + 1)) dX8_cants_10 cf_X8 wf_X8_9 (sW hx0) (pW hx0).1 (pW hx0).2 rfl (by decide) (rW0 _ hx0) ?_
  refine ev_iload_n dX8_cants_13 rfl ?_
  refine ev_zald dX8_cants_14 (sW0 hx0) (pW0 hx0).1 (pW0 hx0).2 h (fun h => ?_)
  refine ev_if_ne (tgt := 21) dX8_cants_15 rfl h (fun cb h => ?_) (fun cb h => ?_)
  · exact ev_sub (L2 := [(2, x0), (0, x1), (0, x2)]) (e_X8_cants_21 σ x0 x1 x2 hx0 h K) ⟨.inr rfl, .inr rfl, .inr rfl, trivial⟩
  refine ev_iincG dX8_cants_18 rfl h rfl (fun v1 h => ?_)
  show Ev _ _ _ _ 21 _ _ _ [(2, x0), (0, v1), (0, x2)] _
  exact ev_sub (L2 := [(2, x0), (0, v1), (0, x2)]) (e_X8_cants_21 σ x0 v1 x2 hx0 h K) ⟨.inr rfl, .inr rfl, .inr rfl, trivial⟩
set_option maxHeartbeats 4000000 in
set_option maxRecDepth 20000 in
theorem e_X8_cants_4 (σ : Mem) (x0 x1 x2 : Int) (hx0 : isW x0) {q : Int} (h : f_X8_cants_4 σ x0 x1 x2 = some q) : Ev M_X8_cants 210 210 (some (0, q), rho, σ) 4 210 rho σ [(2, x0), (0, x1), (0, x2)] [] := by
  unfold f_X8_cants_4 at h
  obtain ⟨e, hl, h⟩ := bind_of h
  refine loop_ev (K := K_X8_cants_4 σ x0 (some (0, q), rho, σ)) (b_X8_cants_4 σ x0 hx0) FU (x1, x2) e hl ?_
  show Ev M_X8_cants 210 210 _ 27 210 rho σ [(9, 0), (0, e), (9, 0)] []
  replace h : some e = some q := h
  refine ev_iload_n dX8_cants_27 rfl ?_
  obtain rfl := Option.some.inj h
  exact ev_iret dX8_cants_28 rfl rfl
set_option maxHeartbeats 4000000 in
set_option maxRecDepth 20000 in
theorem c_X8_cants {σ : Mem} {x0 : Int} (hx0 : isW x0) {q : Int} (h : f_X8_cants σ x0 = some q) : Ms yX8_cants M_X8_cants 210 210 [(2, x0)] rho σ (some (0, q), rho, σ) := by
  refine Ms.of 2 (by decide +kernel) rfl (fun z => absurd z (by decide)) (fun _ _ _ => trivial) rfl rfl ?_
  unfold f_X8_cants at h
  show Ev M_X8_cants 210 210 _ 0 210 rho σ [(2, x0), (9, 0), (9, 0)] []
  refine ev_iconst dX8_cants_0 (by decide) ?_
  refine ev_istore_n dX8_cants_1 rfl (by decide) ?_
  show Ev _ _ _ _ 2 _ _ _ [(2, x0), (0, (0 : Int)), (9, 0)] _
  refine ev_iconst dX8_cants_2 (by decide) ?_
  refine ev_istore_n dX8_cants_3 rfl (by decide) ?_
  show Ev _ _ _ _ 4 _ _ _ [(2, x0), (0, (0 : Int)), (0, (0 : Int))] _
  exact ev_sub (L2 := [(2, x0), (0, (0 : Int)), (0, (0 : Int))]) (e_X8_cants_4 σ x0 (0 : Int) (0 : Int) hx0 h) ⟨.inr rfl, .inr rfl, .inr rfl, trivial⟩
def K_X8_keptSlots_4 (σ : Mem) (x0 : Int) (r : Option V × Mem × Mem) : (Int × Int) ⊕ ((Int)) → Prop := Sum.elim (fun a => Ev M_X8_keptSlots 210 210 r 4 210 rho σ [(2, x0), (0, a.1), (0, a.2)] []) (fun e => Ev M_X8_keptSlots 210 210 r 27 210 rho σ [(9, 0), (0, e), (9, 0)] [])
set_option maxHeartbeats 4000000 in
set_option maxRecDepth 20000 in
theorem b_X8_keptSlots_4 (σ : Mem) (x0 : Int) (hx0 : isW x0) {r : Option V × Mem × Mem} : ∀ a x, f_X8_keptSlots_4B σ x0 a = some x → K_X8_keptSlots_4 σ x0 r x → K_X8_keptSlots_4 σ x0 r (.inl a) := by
  intro a x h K
  obtain ⟨x1, x2⟩ := a
  have h : f_X8_keptSlots_4C σ x0 x1 x2 = some x := h
  unfold f_X8_keptSlots_4C at h
  show Ev M_X8_keptSlots 210 210 r 4 210 rho σ [(2, x0), (0, x1), (0, x2)] []
  refine ev_iload_n dX8_keptSlots_4 rfl ?_
  refine ev_iconst dX8_keptSlots_5 (by decide) ?_
  refine ev_icmp_ge (tgt := 27) dX8_keptSlots_6 rfl h (fun cb h => ?_) (fun cb h => ?_)
  · obtain rfl := Option.some.inj h
    exact ev_sub (L2 := [(9, 0), (0, x1), (9, 0)]) K ⟨.inl rfl, .inr rfl, .inl rfl, trivial⟩
  refine ev_iload_n dX8_keptSlots_9 rfl ?_
  refine ev_aload_n dX8_keptSlots_10 rfl (pW hx0).1 ?_
  refine ev_getf (j := 5) (t := 2) (x := (x0 + 6)) dX8_keptSlots_11 cf_X8 wf_X8_28 (sW hx0) (pW hx0).1 (pW hx0).2 rfl (by decide) (rW5 _ hx0) ?_
  refine ev_iload_n dX8_keptSlots_14 rfl ?_
  refine ev_lald dX8_keptSlots_15 (sW5 hx0) (pW5 hx0).1 (pW5 hx0).2 h (fun h => ?_)
  obtain ⟨v1, hc2, h⟩ := bind_of h
  refine ev_invS_v (av := [(1, (σ (x0 + 6) x2))]) (st := [(0, x1)]) (v := (0, v1)) (τ := σ) dX8_keptSlots_16 ml_X8_66 mt_J13_bitCount_95d88 rfl ⟨Nat.le_of_ble_eq_true rfl, Nat.le_of_ble_eq_true rfl⟩ (Nat.le_of_ble_eq_true rfl) (c_J13_bitCount_95d88 hc2) ?_
  refine ev_iadd dX8_keptSlots_19 ?_
  refine ev_istore_nG dX8_keptSlots_20 h rfl (by decide) (fun v3 h => ?_)
  show Ev _ _ _ _ 21 _ _ _ [(2, x0), (0, v3), (0, x2)] _
  refine ev_iincG dX8_keptSlots_21 rfl h rfl (fun v4 h => ?_)
  show Ev _ _ _ _ 24 _ _ _ [(2, x0), (0, v3), (0, v4)] _
  refine ev_goto (tgt := 4) dX8_keptSlots_24 rfl ?_
  obtain rfl := Option.some.inj h
  exact ev_sub (L2 := [(2, x0), (0, v3), (0, v4)]) K ⟨.inr rfl, .inr rfl, .inr rfl, trivial⟩
set_option maxHeartbeats 4000000 in
set_option maxRecDepth 20000 in
theorem e_X8_keptSlots_4 (σ : Mem) (x0 x1 x2 : Int) (hx0 : isW x0) {q : Int} (h : f_X8_keptSlots_4 σ x0 x1 x2 = some q) : Ev M_X8_keptSlots 210 210 (some (0, q), rho, σ) 4 210 rho σ [(2, x0), (0, x1), (0, x2)] [] := by
  unfold f_X8_keptSlots_4 at h
  obtain ⟨e, hl, h⟩ := bind_of h
  refine loop_ev (K := K_X8_keptSlots_4 σ x0 (some (0, q), rho, σ)) (b_X8_keptSlots_4 σ x0 hx0) FU (x1, x2) e hl ?_
  show Ev M_X8_keptSlots 210 210 _ 27 210 rho σ [(9, 0), (0, e), (9, 0)] []
  replace h : some e = some q := h
  refine ev_iload_n dX8_keptSlots_27 rfl ?_
  obtain rfl := Option.some.inj h
  exact ev_iret dX8_keptSlots_28 rfl rfl
set_option maxHeartbeats 4000000 in
set_option maxRecDepth 20000 in
theorem c_X8_keptSlots {σ : Mem} {x0 : Int} (hx0 : isW x0) {q : Int} (h : f_X8_keptSlots σ x0 = some q) : Ms yX8_keptSlots M_X8_keptSlots 210 210 [(2, x0)] rho σ (some (0, q), rho, σ) := by
  refine Ms.of 2 (by decide +kernel) rfl (fun z => absurd z (by decide)) (fun _ _ _ => trivial) rfl rfl ?_
  unfold f_X8_keptSlots at h
  show Ev M_X8_keptSlots 210 210 _ 0 210 rho σ [(2, x0), (9, 0), (9, 0)] []
  refine ev_iconst dX8_keptSlots_0 (by decide) ?_
  refine ev_istore_n dX8_keptSlots_1 rfl (by decide) ?_
  show Ev _ _ _ _ 2 _ _ _ [(2, x0), (0, (0 : Int)), (9, 0)] _
  refine ev_iconst dX8_keptSlots_2 (by decide) ?_
  refine ev_istore_n dX8_keptSlots_3 rfl (by decide) ?_
  show Ev _ _ _ _ 4 _ _ _ [(2, x0), (0, (0 : Int)), (0, (0 : Int))] _
  exact ev_sub (L2 := [(2, x0), (0, (0 : Int)), (0, (0 : Int))]) (e_X8_keptSlots_4 σ x0 (0 : Int) (0 : Int) hx0 h) ⟨.inr rfl, .inr rfl, .inr rfl, trivial⟩
def K_X8_deed_18 (σ : Mem) (x0 x1 x2 : Int) (r : Option V × Mem × Mem) : (Int) ⊕ ((Int) ⊕ (Unit)) → Prop := Sum.elim (fun a => Ev M_X8_deed 210 210 r 18 210 rho σ [(2, x0), (0, x1), (0, x2), (0, a), (9, 0)] []) (Sum.elim (fun e => Ev M_X8_deed 210 210 r 57 210 rho σ [(2, x0), (9, 0), (9, 0), (9, 0), (0, e)] []) (fun e => Ev M_X8_deed 210 210 r 71 210 rho σ [(2, x0), (0, x1), (0, x2), (9, 0), (9, 0)] []))
set_option maxHeartbeats 4000000 in
set_option maxRecDepth 20000 in
theorem e_X8_deed_57 (σ : Mem) (x0 x4 : Int) (hx0 : isW x0) {q : Int} (h : f_X8_deed_57 σ x0 x4 = some q) : Ev M_X8_deed 210 210 (some (0, q), rho, σ) 57 210 rho σ [(2, x0), (9, 0), (9, 0), (9, 0), (0, x4)] [] := by
  unfold f_X8_deed_57 at h
  refine ev_aload_n dX8_deed_57 rfl (pW hx0).1 ?_
  refine ev_getf (j := 6) (t := 2) (x := (x0 + 7)) dX8_deed_58 cf_X8 wf_X8_32 (sW hx0) (pW hx0).1 (pW hx0).2 rfl (by decide) (rW6 _ hx0) ?_
  refine ev_iload dX8_deed_61 rfl ?_
  refine ev_iald dX8_deed_63 (sW6 hx0) (pW6 hx0).1 (pW6 hx0).2 h (fun h => ?_)
  obtain rfl := Option.some.inj h
  exact ev_iret dX8_deed_64 rfl rfl
set_option maxHeartbeats 4000000 in
set_option maxRecDepth 20000 in
theorem e_X8_deed_65 (σ : Mem) (x0 x1 x2 x3 : Int) (hx0 : isW x0) {q : ((Int) ⊕ ((Int) ⊕ (Unit)))} (h : f_X8_deed_65 σ x0 x1 x2 x3 = some q) {r : Option V × Mem × Mem} (K : K_X8_deed_18 σ x0 x1 x2 r q) : Ev M_X8_deed 210 210 r 65 210 rho σ [(2, x0), (0, x1), (0, x2), (0, x3), (9, 0)] [] := by
  unfold f_X8_deed_65 at h
  refine ev_iincG dX8_deed_65 rfl h rfl (fun v4 h => ?_)
  show Ev _ _ _ _ 68 _ _ _ [(2, x0), (0, x1), (0, x2), (0, v4), (9, 0)] _
  refine ev_goto (tgt := 18) dX8_deed_68 rfl ?_
  obtain rfl := Option.some.inj h
  exact ev_sub (L2 := [(2, x0), (0, x1), (0, x2), (0, v4), (9, 0)]) K ⟨.inr rfl, .inr rfl, .inr rfl, .inr rfl, .inl rfl, trivial⟩
set_option maxHeartbeats 4000000 in
set_option maxRecDepth 20000 in
theorem e_X8_deed_71 (σ : Mem) (x0 x1 x2 : Int) (hx0 : isW x0) {q : Int} (h : f_X8_deed_71 σ x0 x1 x2 = some q) : Ev M_X8_deed 210 210 (some (0, q), rho, σ) 71 210 rho σ [(2, x0), (0, x1), (0, x2), (9, 0), (9, 0)] [] := by
  unfold f_X8_deed_71 at h
  refine ev_aload_n dX8_deed_71 rfl (pW hx0).1 ?_
  refine ev_getf (j := 5) (t := 2) (x := (x0 + 6)) dX8_deed_72 cf_X8 wf_X8_28 (sW hx0) (pW hx0).1 (pW hx0).2 rfl (by decide) (rW5 _ hx0) ?_
  refine ev_iload_n dX8_deed_75 rfl ?_
  refine ev_lald dX8_deed_76 (sW5 hx0) (pW5 hx0).1 (pW5 hx0).2 h (fun h => ?_)
  refine ev_iload_n dX8_deed_77 rfl ?_
  obtain ⟨v5, hc6, h⟩ := bind_of h
  refine ev_invSN_v (av := [(1, (σ (x0 + 6) x1)), (0, x2)]) (st := []) (v := (0, v5)) (τ := σ) dX8_deed_78 ml_X8_75 mt_X10_hasSlot rfl ⟨Nat.le_of_ble_eq_true rfl, Nat.le_of_ble_eq_true rfl⟩ (Nat.le_of_ble_eq_true rfl) (c_X10_hasSlot hc6) ?_
  refine ev_if_eq (tgt := 89) dX8_deed_81 rfl h (fun cb h => ?_) (fun cb h => ?_)
  · refine ev_iconst dX8_deed_89 (by decide) ?_
    obtain rfl := Option.some.inj h
    exact ev_iret dX8_deed_90 rfl rfl
  refine ev_bipush dX8_deed_84 (by decide) (by decide) ?_
  refine ev_goto (tgt := 90) dX8_deed_86 rfl ?_
  obtain rfl := Option.some.inj h
  exact ev_iret dX8_deed_90 rfl rfl
set_option maxHeartbeats 4000000 in
set_option maxRecDepth 20000 in
theorem b_X8_deed_18 (σ : Mem) (x0 x1 x2 : Int) (hx0 : isW x0) {r : Option V × Mem × Mem} : ∀ a x, f_X8_deed_18B σ x0 x1 x2 a = some x → K_X8_deed_18 σ x0 x1 x2 r x → K_X8_deed_18 σ x0 x1 x2 r (.inl a) := by
  intro a x h K
  have ⟨x3, ea⟩ : ∃ z, z = a := ⟨_, rfl⟩
  subst ea
  have h : f_X8_deed_18C σ x0 x1 x2 x3 = some x := h
  unfold f_X8_deed_18C at h
  show Ev M_X8_deed 210 210 r 18 210 rho σ [(2, x0), (0, x1), (0, x2), (0, x3), (9, 0)] []
  refine ev_iload_n dX8_deed_18 rfl ?_
  refine ev_aload_n dX8_deed_19 rfl (pW hx0).1 ?_
  refine ev_getf (j := 4) (t := 2) (x := (x0 + 5)) dX8_deed_20 cf_X8 wf_X8_25 (sW hx0) (pW hx0).1 (pW hx0).2 rfl (by decide) (rW4 _ hx0) ?_
  refine ev_iload_n dX8_deed_23 rfl ?_
  refine ev_iald dX8_deed_24 (sW4 hx0) (pW4 hx0).1 (pW4 hx0).2 h (fun h => ?_)
  refine ev_icmp_ge (tgt := 71) dX8_deed_25 rfl h (fun cb h => ?_) (fun cb h => ?_)
  · obtain rfl := Option.some.inj h
    exact ev_sub (L2 := [(2, x0), (0, x1), (0, x2), (9, 0), (9, 0)]) K ⟨.inr rfl, .inr rfl, .inr rfl, .inl rfl, .inl rfl, trivial⟩
  refine ev_iload_n dX8_deed_28 rfl ?_
  refine ev_iconst dX8_deed_29 (by decide) ?_
  refine ev_imul dX8_deed_30 ?_
  refine ev_iload_n dX8_deed_31 rfl ?_
  refine ev_iadd dX8_deed_32 ?_
  refine ev_istoreG dX8_deed_33 h rfl (by decide) (fun v3 h => ?_)
  show Ev _ _ _ _ 35 _ _ _ [(2, x0), (0, x1), (0, x2), (0, x3), (0, v3)] _
  refine ev_aload_n dX8_deed_35 rfl (pW hx0).1 ?_
  refine ev_getf (j := 7) (t := 2) (x := (x0 + 8)) dX8_deed_36 cf_X8 wf_X8_35 (sW hx0) (pW hx0).1 (pW hx0).2 rfl (by decide) (rW7 _ hx0) ?_
  refine ev_iload dX8_deed_39 rfl ?_
  refine ev_iald dX8_deed_41 (sW7 hx0) (pW7 hx0).1 (pW7 hx0).2 h (fun h => ?_)
  refine ev_iload_n dX8_deed_42 rfl ?_
  show Ev _ _ _ _ 43 _ _ _ _ _
  refine ev_icmp_gt (tgt := 65) dX8_deed_43 rfl h (fun cb h => ?_) (fun cb h => ?_)
  · exact ev_sub (L2 := [(2, x0), (0, x1), (0, x2), (0, x3), (9, 0)]) (e_X8_deed_65 σ x0 x1 x2 x3 hx0 h K) ⟨.inr rfl, .inr rfl, .inr rfl, .inr rfl, .inl rfl, trivial⟩
  refine ev_iload_n dX8_deed_46 rfl ?_
  refine ev_aload_n dX8_deed_47 rfl (pW hx0).1 ?_
  refine ev_getf (j := 8) (t := 2) (x := (x0 + 9)) dX8_deed_48 cf_X8 wf_X8_38 (sW hx0) (pW hx0).1 (pW hx0).2 rfl (by decide) (rW8 _ hx0) ?_
  refine ev_iload dX8_deed_51 rfl ?_
  refine ev_iald dX8_deed_53 (sW8 hx0) (pW8 hx0).1 (pW8 hx0).2 h (fun h => ?_)
  refine ev_icmp_ge (tgt := 65) dX8_deed_54 rfl h (fun cb h => ?_) (fun cb h => ?_)
  · exact ev_sub (L2 := [(2, x0), (0, x1), (0, x2), (0, x3), (9, 0)]) (e_X8_deed_65 σ x0 x1 x2 x3 hx0 h K) ⟨.inr rfl, .inr rfl, .inr rfl, .inr rfl, .inl rfl, trivial⟩
  obtain rfl := Option.some.inj h
  exact ev_sub (L2 := [(2, x0), (9, 0), (9, 0), (9, 0), (0, v3)]) K ⟨.inr rfl, .inl rfl, .inl rfl, .inl rfl, .inr rfl, trivial⟩
set_option maxHeartbeats 4000000 in
set_option maxRecDepth 20000 in
theorem e_X8_deed_18 (σ : Mem) (x0 x1 x2 x3 : Int) (hx0 : isW x0) {q : Int} (h : f_X8_deed_18 σ x0 x1 x2 x3 = some q) : Ev M_X8_deed 210 210 (some (0, q), rho, σ) 18 210 rho σ [(2, x0), (0, x1), (0, x2), (0, x3), (9, 0)] [] := by
  unfold f_X8_deed_18 at h
  obtain ⟨e, hl, h⟩ := bind_of h
  refine loop_ev (K := K_X8_deed_18 σ x0 x1 x2 (some (0, q), rho, σ)) (b_X8_deed_18 σ x0 x1 x2 hx0) FU x3 e hl ?_
  rcases e with e | e
  · show Ev M_X8_deed 210 210 _ 57 210 rho σ [(2, x0), (9, 0), (9, 0), (9, 0), (0, e)] []
    replace h : f_X8_deed_57 σ x0 e = some q := h
    exact ev_sub (L2 := [(2, x0), (9, 0), (9, 0), (9, 0), (0, e)]) (e_X8_deed_57 σ x0 e hx0 h) ⟨.inr rfl, .inl rfl, .inl rfl, .inl rfl, .inr rfl, trivial⟩
  · show Ev M_X8_deed 210 210 _ 71 210 rho σ [(2, x0), (0, x1), (0, x2), (9, 0), (9, 0)] []
    replace h : f_X8_deed_71 σ x0 x1 x2 = some q := h
    exact ev_sub (L2 := [(2, x0), (0, x1), (0, x2), (9, 0), (9, 0)]) (e_X8_deed_71 σ x0 x1 x2 hx0 h) ⟨.inr rfl, .inr rfl, .inr rfl, .inl rfl, .inl rfl, trivial⟩
set_option maxHeartbeats 4000000 in
set_option maxRecDepth 20000 in
theorem c_X8_deed {σ : Mem} {x0 x1 x2 : Int} (hx0 : isW x0) {q : Int} (h : f_X8_deed σ x0 x1 x2 = some q) : Ms yX8_deed M_X8_deed 210 210 [(2, x0), (0, x1), (0, x2)] rho σ (some (0, q), rho, σ) := by
  refine Ms.of 2 (by decide +kernel) rfl (fun z => absurd z (by decide)) (fun _ _ _ => trivial) rfl rfl ?_
  unfold f_X8_deed at h
  show Ev M_X8_deed 210 210 _ 0 210 rho σ [(2, x0), (0, x1), (0, x2), (9, 0), (9, 0)] []
  refine ev_iload_n dX8_deed_0 rfl ?_
  refine ev_aload_n dX8_deed_1 rfl (pW hx0).1 ?_
  refine ev_getf (j := 3) (t := 2) (x := (x0 + 4)) dX8_deed_2 cf_X8 wf_X8_22 (sW hx0) (pW hx0).1 (pW hx0).2 rfl (by decide) (rW3 _ hx0) ?_
  refine ev_iload_n dX8_deed_5 rfl ?_
  refine ev_iald dX8_deed_6 (sW3 hx0) (pW3 hx0).1 (pW3 hx0).2 h (fun h => ?_)
  refine ev_icmp_ge (tgt := 16) dX8_deed_7 rfl h (fun cb h => ?_) (fun cb h => ?_)
  · refine ev_iconst dX8_deed_16 (by decide) ?_
    refine ev_istore_n dX8_deed_17 rfl (by decide) ?_
    show Ev _ _ _ _ 18 _ _ _ [(2, x0), (0, x1), (0, x2), (0, (0 : Int)), (9, 0)] _
    exact ev_sub (L2 := [(2, x0), (0, x1), (0, x2), (0, (0 : Int)), (9, 0)]) (e_X8_deed_18 σ x0 x1 x2 (0 : Int) hx0 h) ⟨.inr rfl, .inr rfl, .inr rfl, .inr rfl, .inl rfl, trivial⟩
  refine ev_aload_n dX8_deed_10 rfl (pW hx0).1 ?_
  refine ev_iload_n dX8_deed_11 rfl ?_
  obtain ⟨v1, hc2, h⟩ := bind_of h
  refine ev_invV_v (k := x0) (av := [(0, x1)]) (st := []) (v := (0, v1)) (τ := σ) dX8_deed_12 ml_X8_72 mv_X8_cameTo (T := TX8) (ci := 7) rfl (sW hx0) (pW hx0).1 (pW hx0).2 rfl ⟨Nat.le_of_ble_eq_true rfl, Nat.le_of_ble_eq_true rfl⟩ (Nat.le_of_ble_eq_true rfl) (c_X8_cameTo hx0 hc2) ?_
  obtain rfl := Option.some.inj h
  exact ev_iret dX8_deed_15 rfl rfl
def K_X8_measured_20 (σ : Mem) (x0 x1 x2 x3 : Int) (r : Option V × Mem × Mem) : (Int × Int) ⊕ ((Int)) → Prop := Sum.elim (fun a => Ev M_X8_measured 210 210 r 20 210 rho σ [(2, x0), (2, x1), (0, x2), (0, x3), (0, a.1), (0, a.2), (9, 0)] []) (fun e => Ev M_X8_measured 210 210 r 80 210 rho σ [(9, 0), (9, 0), (9, 0), (9, 0), (0, e), (9, 0), (9, 0)] [])
set_option maxHeartbeats 4000000 in
set_option maxRecDepth 20000 in
theorem b_X8_measured_20 (σ : Mem) (x0 x1 x2 x3 : Int) (hx0 : isW x0) (hx1 : isB x1) {r : Option V × Mem × Mem} : ∀ a x, f_X8_measured_20B σ x0 x1 x2 x3 a = some x → K_X8_measured_20 σ x0 x1 x2 x3 r x → K_X8_measured_20 σ x0 x1 x2 x3 r (.inl a) := by
  intro a x h K
  obtain ⟨x4, x5⟩ := a
  have h : f_X8_measured_20C σ x0 x1 x2 x3 x4 x5 = some x := h
  unfold f_X8_measured_20C at h
  show Ev M_X8_measured 210 210 r 20 210 rho σ [(2, x0), (2, x1), (0, x2), (0, x3), (0, x4), (0, x5), (9, 0)] []
  refine ev_iload dX8_measured_20 rfl ?_
  refine ev_aload_n dX8_measured_22 rfl (pW hx0).1 ?_
  refine ev_getf (j := 4) (t := 2) (x := (x0 + 5)) dX8_measured_23 cf_X8 wf_X8_25 (sW hx0) (pW hx0).1 (pW hx0).2 rfl (by decide) (rW4 _ hx0) ?_
  refine ev_iload_n dX8_measured_26 rfl ?_
  refine ev_iald dX8_measured_27 (sW4 hx0) (pW4 hx0).1 (pW4 hx0).2 h (fun h => ?_)
  refine ev_icmp_ge (tgt := 80) dX8_measured_28 rfl h (fun cb h => ?_) (fun cb h => ?_)
  · obtain rfl := Option.some.inj h
    exact ev_sub (L2 := [(9, 0), (9, 0), (9, 0), (9, 0), (0, x4), (9, 0), (9, 0)]) K ⟨.inl rfl, .inl rfl, .inl rfl, .inl rfl, .inr rfl, .inl rfl, .inl rfl, trivial⟩
  refine ev_iload_n dX8_measured_31 rfl ?_
  refine ev_iconst dX8_measured_32 (by decide) ?_
  refine ev_imul dX8_measured_33 ?_
  refine ev_iload dX8_measured_34 rfl ?_
  refine ev_iadd dX8_measured_36 ?_
  refine ev_istoreG dX8_measured_37 h rfl (by decide) (fun v3 h => ?_)
  show Ev _ _ _ _ 39 _ _ _ [(2, x0), (2, x1), (0, x2), (0, x3), (0, x4), (0, x5), (0, v3)] _
  refine ev_iload_n dX8_measured_39 rfl ?_
  refine ev_iload dX8_measured_40 rfl ?_
  refine ev_aload_n dX8_measured_42 rfl (pW hx0).1 ?_
  refine ev_getf (j := 7) (t := 2) (x := (x0 + 8)) dX8_measured_43 cf_X8 wf_X8_35 (sW hx0) (pW hx0).1 (pW hx0).2 rfl (by decide) (rW7 _ hx0) ?_
  refine ev_iload dX8_measured_46 rfl ?_
  show Ev _ _ _ _ 48 _ _ _ _ _
  refine ev_iald dX8_measured_48 (sW7 hx0) (pW7 hx0).1 (pW7 hx0).2 h (fun h => ?_)
  refine ev_aload_n dX8_measured_49 rfl (pB hx1).1 ?_
  refine ev_getf (j := 1) (t := 2) (x := (x1 + 2)) dX8_measured_50 cf_X0 wf_X8_79 (sB hx1) (pB hx1).1 (pB hx1).2 rfl (by decide) (rB1 _ hx1) ?_
  refine ev_aload_n dX8_measured_53 rfl (pW hx0).1 ?_
  refine ev_getf (j := 6) (t := 2) (x := (x0 + 7)) dX8_measured_54 cf_X8 wf_X8_32 (sW hx0) (pW hx0).1 (pW hx0).2 rfl (by decide) (rW6 _ hx0) ?_
  refine ev_iload dX8_measured_57 rfl ?_
  refine ev_iald dX8_measured_59 (sW6 hx0) (pW6 hx0).1 (pW6 hx0).2 h (fun h => ?_)
  refine ev_iald dX8_measured_60 (sB1 hx1) (pB1 hx1).1 (pB1 hx1).2 h (fun h => ?_)
  refine ev_isub dX8_measured_61 ?_
  refine ev_aload_n dX8_measured_62 rfl (pW hx0).1 ?_
  refine ev_getf (j := 8) (t := 2) (x := (x0 + 9)) dX8_measured_63 cf_X8 wf_X8_38 (sW hx0) (pW hx0).1 (pW hx0).2 rfl (by decide) (rW8 _ hx0) ?_
  refine ev_iload dX8_measured_66 rfl ?_
  show Ev _ _ _ _ 68 _ _ _ _ _
  refine ev_iald dX8_measured_68 (sW8 hx0) (pW8 hx0).1 (pW8 hx0).2 h (fun h => ?_)
  obtain ⟨v4, hc5, h⟩ := bind_of h
  refine ev_invS_v (av := [(0, x3), (0, x4), (0, (jsub (σ (x0 + 8) v3) (σ (x1 + 2) (σ (x0 + 7) v3)))), (0, (σ (x0 + 9) v3))]) (st := []) (v := (0, v4)) (τ := σ) dX8_measured_69 ml_X8_84 mt_X3_join rfl ⟨Nat.le_of_ble_eq_true rfl, Nat.le_of_ble_eq_true rfl⟩ (Nat.le_of_ble_eq_true rfl) (c_X3_join hc5) ?_
  refine ev_istore dX8_measured_72 rfl (by decide) ?_
  show Ev _ _ _ _ 74 _ _ _ [(2, x0), (2, x1), (0, x2), (0, x3), (0, v4), (0, x5), (0, v3)] _
  refine ev_iincG dX8_measured_74 rfl h rfl (fun v6 h => ?_)
  show Ev _ _ _ _ 77 _ _ _ [(2, x0), (2, x1), (0, x2), (0, x3), (0, v4), (0, v6), (0, v3)] _
  refine ev_goto (tgt := 20) dX8_measured_77 rfl ?_
  obtain rfl := Option.some.inj h
  exact ev_sub (L2 := [(2, x0), (2, x1), (0, x2), (0, x3), (0, v4), (0, v6), (9, 0)]) K ⟨.inr rfl, .inr rfl, .inr rfl, .inr rfl, .inr rfl, .inr rfl, .inl rfl, trivial⟩
set_option maxHeartbeats 4000000 in
set_option maxRecDepth 20000 in
theorem e_X8_measured_20 (σ : Mem) (x0 x1 x2 x3 x4 x5 : Int) (hx0 : isW x0) (hx1 : isB x1) {q : Int} (h : f_X8_measured_20 σ x0 x1 x2 x3 x4 x5 = some q) : Ev M_X8_measured 210 210 (some (0, q), rho, σ) 20 210 rho σ [(2, x0), (2, x1), (0, x2), (0, x3), (0, x4), (0, x5), (9, 0)] [] := by
  unfold f_X8_measured_20 at h
  obtain ⟨e, hl, h⟩ := bind_of h
  refine loop_ev (K := K_X8_measured_20 σ x0 x1 x2 x3 (some (0, q), rho, σ)) (b_X8_measured_20 σ x0 x1 x2 x3 hx0 hx1) FU (x4, x5) e hl ?_
  show Ev M_X8_measured 210 210 _ 80 210 rho σ [(9, 0), (9, 0), (9, 0), (9, 0), (0, e), (9, 0), (9, 0)] []
  replace h : some e = some q := h
  refine ev_iload dX8_measured_80 rfl ?_
  obtain rfl := Option.some.inj h
  exact ev_iret dX8_measured_82 rfl rfl
set_option maxHeartbeats 4000000 in
set_option maxRecDepth 20000 in
theorem c_X8_measured {σ : Mem} {x0 x1 x2 x3 : Int} (hx0 : isW x0) (hx1 : isB x1) {q : Int} (h : f_X8_measured σ x0 x1 x2 x3 = some q) : Ms yX8_measured M_X8_measured 210 210 [(2, x0), (2, x1), (0, x2), (0, x3)] rho σ (some (0, q), rho, σ) := by
  refine Ms.of 3 (by decide +kernel) rfl (fun z => absurd z (by decide)) (fun _ _ _ => trivial) rfl rfl ?_
  unfold f_X8_measured at h
  show Ev M_X8_measured 210 210 _ 0 210 rho σ [(2, x0), (2, x1), (0, x2), (0, x3), (9, 0), (9, 0), (9, 0)] []
  refine ev_iload_n dX8_measured_0 rfl ?_
  refine ev_if_ne (tgt := 14) dX8_measured_1 rfl h (fun cb h => ?_) (fun cb h => ?_)
  · refine ev_iconst dX8_measured_14 (by decide) ?_
    refine ev_istore dX8_measured_15 rfl (by decide) ?_
    show Ev _ _ _ _ 17 _ _ _ [(2, x0), (2, x1), (0, x2), (0, x3), (0, (0 : Int)), (9, 0), (9, 0)] _
    refine ev_iconst dX8_measured_17 (by decide) ?_
    refine ev_istore dX8_measured_18 rfl (by decide) ?_
    show Ev _ _ _ _ 20 _ _ _ [(2, x0), (2, x1), (0, x2), (0, x3), (0, (0 : Int)), (0, (0 : Int)), (9, 0)] _
    exact ev_sub (L2 := [(2, x0), (2, x1), (0, x2), (0, x3), (0, (0 : Int)), (0, (0 : Int)), (9, 0)]) (e_X8_measured_20 σ x0 x1 x2 x3 (0 : Int) (0 : Int) hx0 hx1 h) ⟨.inr rfl, .inr rfl, .inr rfl, .inr rfl, .inr rfl, .inr rfl, .inl rfl, trivial⟩
  refine ev_aload_n dX8_measured_4 rfl (pW hx0).1 ?_
  refine ev_getf (j := 5) (t := 2) (x := (x0 + 6)) dX8_measured_5 cf_X8 wf_X8_28 (sW hx0) (pW hx0).1 (pW hx0).2 rfl (by decide) (rW5 _ hx0) ?_
  refine ev_iload_n dX8_measured_8 rfl ?_
  refine ev_lald dX8_measured_9 (sW5 hx0) (pW5 hx0).1 (pW5 hx0).2 h (fun h => ?_)
  obtain ⟨v1, hc2, h⟩ := bind_of h
  refine ev_invS_v (av := [(1, (σ (x0 + 6) x2))]) (st := []) (v := (0, v1)) (τ := σ) dX8_measured_10 ml_X8_66 mt_J13_bitCount_95d88 rfl ⟨Nat.le_of_ble_eq_true rfl, Nat.le_of_ble_eq_true rfl⟩ (Nat.le_of_ble_eq_true rfl) (c_J13_bitCount_95d88 hc2) ?_
  obtain rfl := Option.some.inj h
  exact ev_iret dX8_measured_13 rfl rfl
def K_X8_beginsLate_22 (σ : Mem) (x0 x1 x2 x3 : Int) (r : Option V × Mem × Mem) : (Int) ⊕ ((Int) ⊕ (Unit)) → Prop := Sum.elim (fun a => Ev M_X8_beginsLate 210 210 r 22 210 rho σ [(2, x0), (2, x1), (0, x2), (0, x3), (0, a), (9, 0)] []) (Sum.elim (fun e => Ev M_X8_beginsLate 210 210 r 52 210 rho σ [(2, x0), (2, x1), (0, x2), (9, 0), (9, 0), (0, e)] []) (fun e => Ev M_X8_beginsLate 210 210 r 80 210 rho σ [(9, 0), (9, 0), (9, 0), (9, 0), (9, 0), (9, 0)] []))
set_option maxHeartbeats 4000000 in
set_option maxRecDepth 20000 in
theorem e_X8_beginsLate_52 (σ : Mem) (x0 x1 x2 x5 : Int) (hx0 : isW x0) (hx1 : isB x1) {q : Int} (h : f_X8_beginsLate_52 σ x0 x1 x2 x5 = some q) : Ev M_X8_beginsLate 210 210 (some (0, q), rho, σ) 52 210 rho σ [(2, x0), (2, x1), (0, x2), (9, 0), (9, 0), (0, x5)] [] := by
  unfold f_X8_beginsLate_52 at h
  refine ev_aload_n dX8_beginsLate_52 rfl (pW hx0).1 ?_
  refine ev_getf (j := 7) (t := 2) (x := (x0 + 8)) dX8_beginsLate_53 cf_X8 wf_X8_35 (sW hx0) (pW hx0).1 (pW hx0).2 rfl (by decide) (rW7 _ hx0) ?_
  refine ev_iload dX8_beginsLate_56 rfl ?_
  refine ev_iald dX8_beginsLate_58 (sW7 hx0) (pW7 hx0).1 (pW7 hx0).2 h (fun h => ?_)
  refine ev_aload_n dX8_beginsLate_59 rfl (pB hx1).1 ?_
  refine ev_getf (j := 1) (t := 2) (x := (x1 + 2)) dX8_beginsLate_60 cf_X0 wf_X8_79 (sB hx1) (pB hx1).1 (pB hx1).2 rfl (by decide) (rB1 _ hx1) ?_
  refine ev_iload_n dX8_beginsLate_63 rfl ?_
  refine ev_iald dX8_beginsLate_64 (sB1 hx1) (pB1 hx1).1 (pB1 hx1).2 h (fun h => ?_)
  refine ev_icmp_eq (tgt := 72) dX8_beginsLate_65 rfl h (fun cb h => ?_) (fun cb h => ?_)
  · refine ev_iconst dX8_beginsLate_72 (by decide) ?_
    obtain rfl := Option.some.inj h
    exact ev_zret dX8_beginsLate_73 rfl (chk_pos (.inl rfl))
  refine ev_iconst dX8_beginsLate_68 (by decide) ?_
  refine ev_goto (tgt := 73) dX8_beginsLate_69 rfl ?_
  obtain rfl := Option.some.inj h
  exact ev_zret dX8_beginsLate_73 rfl (chk_pos (.inr rfl))
set_option maxHeartbeats 4000000 in
set_option maxRecDepth 20000 in
theorem b_X8_beginsLate_22 (σ : Mem) (x0 x1 x2 x3 : Int) (hx0 : isW x0) (hx1 : isB x1) {r : Option V × Mem × Mem} : ∀ a x, f_X8_beginsLate_22B σ x0 x1 x2 x3 a = some x → K_X8_beginsLate_22 σ x0 x1 x2 x3 r x → K_X8_beginsLate_22 σ x0 x1 x2 x3 r (.inl a) := by
  intro a x h K
  have ⟨x4, ea⟩ : ∃ z, z = a := ⟨_, rfl⟩
  subst ea
  have h : f_X8_beginsLate_22C σ x0 x1 x2 x3 x4 = some x := h
  unfold f_X8_beginsLate_22C at h
  show Ev M_X8_beginsLate 210 210 r 22 210 rho σ [(2, x0), (2, x1), (0, x2), (0, x3), (0, x4), (9, 0)] []
  refine ev_iload dX8_beginsLate_22 rfl ?_
  refine ev_aload_n dX8_beginsLate_24 rfl (pW hx0).1 ?_
  refine ev_getf (j := 4) (t := 2) (x := (x0 + 5)) dX8_beginsLate_25 cf_X8 wf_X8_25 (sW hx0) (pW hx0).1 (pW hx0).2 rfl (by decide) (rW4 _ hx0) ?_
  refine ev_iload_n dX8_beginsLate_28 rfl ?_
  refine ev_iald dX8_beginsLate_29 (sW4 hx0) (pW4 hx0).1 (pW4 hx0).2 h (fun h => ?_)
  refine ev_icmp_ge (tgt := 80) dX8_beginsLate_30 rfl h (fun cb h => ?_) (fun cb h => ?_)
  · obtain rfl := Option.some.inj h
    exact ev_sub (L2 := [(9, 0), (9, 0), (9, 0), (9, 0), (9, 0), (9, 0)]) K ⟨.inl rfl, .inl rfl, .inl rfl, .inl rfl, .inl rfl, .inl rfl, trivial⟩
  refine ev_iload_n dX8_beginsLate_33 rfl ?_
  refine ev_iconst dX8_beginsLate_34 (by decide) ?_
  refine ev_imul dX8_beginsLate_35 ?_
  refine ev_iload dX8_beginsLate_36 rfl ?_
  refine ev_iadd dX8_beginsLate_38 ?_
  refine ev_istoreG dX8_beginsLate_39 h rfl (by decide) (fun v2 h => ?_)
  show Ev _ _ _ _ 41 _ _ _ [(2, x0), (2, x1), (0, x2), (0, x3), (0, x4), (0, v2)] _
  refine ev_aload_n dX8_beginsLate_41 rfl (pW hx0).1 ?_
  refine ev_getf (j := 6) (t := 2) (x := (x0 + 7)) dX8_beginsLate_42 cf_X8 wf_X8_32 (sW hx0) (pW hx0).1 (pW hx0).2 rfl (by decide) (rW6 _ hx0) ?_
  refine ev_iload dX8_beginsLate_45 rfl ?_
  refine ev_iald dX8_beginsLate_47 (sW6 hx0) (pW6 hx0).1 (pW6 hx0).2 h (fun h => ?_)
  refine ev_iload_n dX8_beginsLate_48 rfl ?_
  show Ev _ _ _ _ 49 _ _ _ _ _
  refine ev_icmp_ne (tgt := 74) dX8_beginsLate_49 rfl h (fun cb h => ?_) (fun cb h => ?_)
  · refine ev_iincG dX8_beginsLate_74 rfl h rfl (fun v3 h => ?_)
    show Ev _ _ _ _ 77 _ _ _ [(2, x0), (2, x1), (0, x2), (0, x3), (0, v3), (0, v2)] _
    refine ev_goto (tgt := 22) dX8_beginsLate_77 rfl ?_
    obtain rfl := Option.some.inj h
    exact ev_sub (L2 := [(2, x0), (2, x1), (0, x2), (0, x3), (0, v3), (9, 0)]) K ⟨.inr rfl, .inr rfl, .inr rfl, .inr rfl, .inr rfl, .inl rfl, trivial⟩
  obtain rfl := Option.some.inj h
  exact ev_sub (L2 := [(2, x0), (2, x1), (0, x2), (9, 0), (9, 0), (0, v2)]) K ⟨.inr rfl, .inr rfl, .inr rfl, .inl rfl, .inl rfl, .inr rfl, trivial⟩
set_option maxHeartbeats 4000000 in
set_option maxRecDepth 20000 in
theorem e_X8_beginsLate_22 (σ : Mem) (x0 x1 x2 x3 x4 : Int) (hx0 : isW x0) (hx1 : isB x1) {q : Int} (h : f_X8_beginsLate_22 σ x0 x1 x2 x3 x4 = some q) : Ev M_X8_beginsLate 210 210 (some (0, q), rho, σ) 22 210 rho σ [(2, x0), (2, x1), (0, x2), (0, x3), (0, x4), (9, 0)] [] := by
  unfold f_X8_beginsLate_22 at h
  obtain ⟨e, hl, h⟩ := bind_of h
  refine loop_ev (K := K_X8_beginsLate_22 σ x0 x1 x2 x3 (some (0, q), rho, σ)) (b_X8_beginsLate_22 σ x0 x1 x2 x3 hx0 hx1) FU x4 e hl ?_
  rcases e with e | e
  · show Ev M_X8_beginsLate 210 210 _ 52 210 rho σ [(2, x0), (2, x1), (0, x2), (9, 0), (9, 0), (0, e)] []
    replace h : f_X8_beginsLate_52 σ x0 x1 x2 e = some q := h
    exact ev_sub (L2 := [(2, x0), (2, x1), (0, x2), (9, 0), (9, 0), (0, e)]) (e_X8_beginsLate_52 σ x0 x1 x2 e hx0 hx1 h) ⟨.inr rfl, .inr rfl, .inr rfl, .inl rfl, .inl rfl, .inr rfl, trivial⟩
  · show Ev M_X8_beginsLate 210 210 _ 80 210 rho σ [(9, 0), (9, 0), (9, 0), (9, 0), (9, 0), (9, 0)] []
    replace h : some (0 : Int) = some q := h
    refine ev_iconst dX8_beginsLate_80 (by decide) ?_
    obtain rfl := Option.some.inj h
    exact ev_zret dX8_beginsLate_81 rfl (chk_pos (.inl rfl))
set_option maxHeartbeats 4000000 in
set_option maxRecDepth 20000 in
theorem c_X8_beginsLate {σ : Mem} {x0 x1 x2 : Int} (hx0 : isW x0) (hx1 : isB x1) {q : Int} (h : f_X8_beginsLate σ x0 x1 x2 = some q) : Ms yX8_beginsLate M_X8_beginsLate 210 210 [(2, x0), (2, x1), (0, x2)] rho σ (some (0, q), rho, σ) := by
  refine Ms.of 3 (by decide +kernel) rfl (fun z => absurd z (by decide)) (fun _ _ _ => trivial) rfl rfl ?_
  unfold f_X8_beginsLate at h
  show Ev M_X8_beginsLate 210 210 _ 0 210 rho σ [(2, x0), (2, x1), (0, x2), (9, 0), (9, 0), (9, 0)] []
  refine ev_aload_n dX8_beginsLate_0 rfl (pB hx1).1 ?_
  refine ev_getf (j := 0) (t := 2) (x := (x1 + 1)) dX8_beginsLate_1 cf_X0 wf_X8_88 (sB hx1) (pB hx1).1 (pB hx1).2 rfl (by decide) (rB0 _ hx1) ?_
  refine ev_iload_n dX8_beginsLate_4 rfl ?_
  refine ev_iald dX8_beginsLate_5 (sB0 hx1) (pB0 hx1).1 (pB0 hx1).2 h (fun h => ?_)
  refine ev_istore_nG dX8_beginsLate_6 h rfl (by decide) (fun v1 h => ?_)
  show Ev _ _ _ _ 7 _ _ _ [(2, x0), (2, x1), (0, x2), (0, v1), (9, 0), (9, 0)] _
  refine ev_aload_n dX8_beginsLate_7 rfl (pW hx0).1 ?_
  refine ev_getf (j := 1) (t := 2) (x := (x0 + 2)) dX8_beginsLate_8 cf_X8 wf_X8_15 (sW hx0) (pW hx0).1 (pW hx0).2 rfl (by decide) (rW1 _ hx0) ?_
  refine ev_iload_n dX8_beginsLate_11 rfl ?_
  refine ev_iald dX8_beginsLate_12 (sW1 hx0) (pW1 hx0).1 (pW1 hx0).2 h (fun h => ?_)
  refine ev_iload_n dX8_beginsLate_13 rfl ?_
  refine ev_icmp_ne (tgt := 19) dX8_beginsLate_14 rfl h (fun cb h => ?_) (fun cb h => ?_)
  · refine ev_iconst dX8_beginsLate_19 (by decide) ?_
    refine ev_istore dX8_beginsLate_20 rfl (by decide) ?_
    show Ev _ _ _ _ 22 _ _ _ [(2, x0), (2, x1), (0, x2), (0, v1), (0, (0 : Int)), (9, 0)] _
    exact ev_sub (L2 := [(2, x0), (2, x1), (0, x2), (0, v1), (0, (0 : Int)), (9, 0)]) (e_X8_beginsLate_22 σ x0 x1 x2 v1 (0 : Int) hx0 hx1 h) ⟨.inr rfl, .inr rfl, .inr rfl, .inr rfl, .inr rfl, .inl rfl, trivial⟩
  refine ev_iconst dX8_beginsLate_17 (by decide) ?_
  obtain rfl := Option.some.inj h
  exact ev_zret dX8_beginsLate_18 rfl (chk_pos (.inr rfl))
set_option maxHeartbeats 4000000 in
set_option maxRecDepth 20000 in
theorem c_X9_forgetOthers {σ : Mem}  {q : Mem} (h : f_X9_forgetOthers σ  = some q) : Ms yX9_forgetOthers M_X9_forgetOthers 210 210 [(2, (43 : Int))] rho σ (none, rho, q) := by
  refine Ms.of 0 (by decide +kernel) rfl (fun z => absurd z (by decide)) (fun _ _ _ => trivial) rfl rfl ?_
  unfold f_X9_forgetOthers at h
  show Ev M_X9_forgetOthers 210 210 _ 0 210 rho σ [(2, (43 : Int))] []
  refine ev_aload_n dX9_forgetOthers_0 rfl (by decide) ?_
  refine ev_dup dX9_forgetOthers_1 (show (2 : Nat) ≠ 1 by decide) ?_
  refine ev_getf (j := 4) (t := 0) (x := (σ (43 : Int) 4)) dX9_forgetOthers_2 cf_X9 wf_X9_21 sp43 (by decide) (by decide) rfl (by decide) rfl ?_
  refine ev_iconst dX9_forgetOthers_5 (by decide) ?_
  refine ev_iadd dX9_forgetOthers_6 ?_
  refine ev_putfG (j := 4) (t := 0) dX9_forgetOthers_7 cf_X9 wf_X9_21 sp43 (by decide) (by decide) rfl (by decide) (by decide) rfl (fun z => absurd z (by decide +kernel)) h (fun σ1 h => ?_)
  obtain rfl := Option.some.inj h
  exact ev_vret dX9_forgetOthers_10 rfl rfl
set_option maxHeartbeats 4000000 in
set_option maxRecDepth 20000 in
theorem c_X9_forget {σ : Mem} {x1 : Int}  {q : Mem} (h : f_X9_forget σ x1 = some q) : Ms yX9_forget M_X9_forget 210 210 [(2, (43 : Int)), (0, x1)] rho σ (none, rho, q) := by
  refine Ms.of 0 (by decide +kernel) rfl (fun z => absurd z (by decide)) (fun _ _ _ => trivial) rfl rfl ?_
  unfold f_X9_forget at h
  show Ev M_X9_forget 210 210 _ 0 210 rho σ [(2, (43 : Int)), (0, x1)] []
  refine ev_aload_n dX9_forget_0 rfl (by decide) ?_
  refine ev_getf (j := 3) (t := 2) (x := (45 : Int)) dX9_forget_1 cf_X9 wf_X9_17 sp43 (by decide) (by decide) rfl (by decide) (rp43_3 _) ?_
  refine ev_iload_n dX9_forget_4 rfl ?_
  refine ev_iconst dX9_forget_5 (by decide) ?_
  refine ev_zastG dX9_forget_6 sp45 (by decide) (by decide) h (fun σ1 h => ?_)
  refine ev_aload_n dX9_forget_7 rfl (by decide) ?_
  refine ev_dup dX9_forget_8 (show (2 : Nat) ≠ 1 by decide) ?_
  refine ev_getf (j := 4) (t := 0) (x := (σ1 (43 : Int) 4)) dX9_forget_9 cf_X9 wf_X9_21 sp43 (by decide) (by decide) rfl (by decide) rfl ?_
  refine ev_iconst dX9_forget_12 (by decide) ?_
  refine ev_iadd dX9_forget_13 ?_
  refine ev_putfG (j := 4) (t := 0) dX9_forget_14 cf_X9 wf_X9_21 sp43 (by decide) (by decide) rfl (by decide) (by decide) rfl (fun z => absurd z (by decide +kernel)) h (fun σ2 h => ?_)
  show Ev _ _ _ _ 17 _ _ _ _ _
  obtain rfl := Option.some.inj h
  exact ev_vret dX9_forget_17 rfl rfl
def K_X9_forgetAll_2 (r : Option V × Mem × Mem) : (Int × Mem) ⊕ ((Mem)) → Prop := Sum.elim (fun a => Ev M_X9_forgetAll 210 210 r 2 210 rho a.2 [(2, (43 : Int)), (0, a.1)] []) (fun e => Ev M_X9_forgetAll 210 210 r 21 210 rho e [(2, (43 : Int)), (9, 0)] [])
set_option maxHeartbeats 4000000 in
set_option maxRecDepth 20000 in
theorem e_X9_forgetAll_21 (σ : Mem)  {q : Mem} (h : f_X9_forgetAll_21 σ  = some q) : Ev M_X9_forgetAll 210 210 (none, rho, q) 21 210 rho σ [(2, (43 : Int)), (9, 0)] [] := by
  unfold f_X9_forgetAll_21 at h
  refine ev_aload_n dX9_forgetAll_21 rfl (by decide) ?_
  refine ev_dup dX9_forgetAll_22 (show (2 : Nat) ≠ 1 by decide) ?_
  refine ev_getf (j := 4) (t := 0) (x := (σ (43 : Int) 4)) dX9_forgetAll_23 cf_X9 wf_X9_21 sp43 (by decide) (by decide) rfl (by decide) rfl ?_
  refine ev_iconst dX9_forgetAll_26 (by decide) ?_
  refine ev_iadd dX9_forgetAll_27 ?_
  refine ev_putfG (j := 4) (t := 0) dX9_forgetAll_28 cf_X9 wf_X9_21 sp43 (by decide) (by decide) rfl (by decide) (by decide) rfl (fun z => absurd z (by decide +kernel)) h (fun σ3 h => ?_)
  obtain rfl := Option.some.inj h
  exact ev_vret dX9_forgetAll_31 rfl rfl
set_option maxHeartbeats 4000000 in
set_option maxRecDepth 20000 in
theorem b_X9_forgetAll_2  {r : Option V × Mem × Mem} : ∀ a x, f_X9_forgetAll_2B  a = some x → K_X9_forgetAll_2  r x → K_X9_forgetAll_2  r (.inl a) := by
  intro a x h K
  obtain ⟨x1, σ⟩ := a
  have h : f_X9_forgetAll_2C  x1 σ = some x := h
  unfold f_X9_forgetAll_2C at h
  show Ev M_X9_forgetAll 210 210 r 2 210 rho σ [(2, (43 : Int)), (0, x1)] []
  refine ev_iload_n dX9_forgetAll_2 rfl ?_
  refine ev_bipush dX9_forgetAll_3 (by decide) (by decide) ?_
  refine ev_icmp_ge (tgt := 21) dX9_forgetAll_5 rfl h (fun cb h => ?_) (fun cb h => ?_)
  · obtain rfl := Option.some.inj h
    exact ev_sub (L2 := [(2, (43 : Int)), (9, 0)]) K ⟨.inr rfl, .inl rfl, trivial⟩
  refine ev_aload_n dX9_forgetAll_8 rfl (by decide) ?_
  refine ev_getf (j := 3) (t := 2) (x := (45 : Int)) dX9_forgetAll_9 cf_X9 wf_X9_17 sp43 (by decide) (by decide) rfl (by decide) (rp43_3 _) ?_
  refine ev_iload_n dX9_forgetAll_12 rfl ?_
  refine ev_iconst dX9_forgetAll_13 (by decide) ?_
  refine ev_zastG dX9_forgetAll_14 sp45 (by decide) (by decide) h (fun σ1 h => ?_)
  refine ev_iincG dX9_forgetAll_15 rfl h rfl (fun v2 h => ?_)
  show Ev _ _ _ _ 18 _ _ _ [(2, (43 : Int)), (0, v2)] _
  refine ev_goto (tgt := 2) dX9_forgetAll_18 rfl ?_
  obtain rfl := Option.some.inj h
  exact ev_sub (L2 := [(2, (43 : Int)), (0, v2)]) K ⟨.inr rfl, .inr rfl, trivial⟩
set_option maxHeartbeats 4000000 in
set_option maxRecDepth 20000 in
theorem e_X9_forgetAll_2 (σ : Mem) (x1 : Int)  {q : Mem} (h : f_X9_forgetAll_2 σ x1 = some q) : Ev M_X9_forgetAll 210 210 (none, rho, q) 2 210 rho σ [(2, (43 : Int)), (0, x1)] [] := by
  unfold f_X9_forgetAll_2 at h
  obtain ⟨e, hl, h⟩ := bind_of h
  refine loop_ev (K := K_X9_forgetAll_2  (none, rho, q)) (b_X9_forgetAll_2 ) FU (x1, σ) e hl ?_
  show Ev M_X9_forgetAll 210 210 _ 21 210 rho e [(2, (43 : Int)), (9, 0)] []
  replace h : f_X9_forgetAll_21 e = some q := h
  exact ev_sub (L2 := [(2, (43 : Int)), (9, 0)]) (e_X9_forgetAll_21 e h) ⟨.inr rfl, .inl rfl, trivial⟩
set_option maxHeartbeats 4000000 in
set_option maxRecDepth 20000 in
theorem c_X9_forgetAll {σ : Mem}  {q : Mem} (h : f_X9_forgetAll σ  = some q) : Ms yX9_forgetAll M_X9_forgetAll 210 210 [(2, (43 : Int))] rho σ (none, rho, q) := by
  refine Ms.of 1 (by decide +kernel) rfl (fun z => absurd z (by decide)) (fun _ _ _ => trivial) rfl rfl ?_
  unfold f_X9_forgetAll at h
  show Ev M_X9_forgetAll 210 210 _ 0 210 rho σ [(2, (43 : Int)), (9, 0)] []
  refine ev_iconst dX9_forgetAll_0 (by decide) ?_
  refine ev_istore_n dX9_forgetAll_1 rfl (by decide) ?_
  show Ev _ _ _ _ 2 _ _ _ [(2, (43 : Int)), (0, (0 : Int))] _
  exact ev_sub (L2 := [(2, (43 : Int)), (0, (0 : Int))]) (e_X9_forgetAll_2 σ (0 : Int) h) ⟨.inr rfl, .inr rfl, trivial⟩
set_option maxHeartbeats 4000000 in
set_option maxRecDepth 20000 in
theorem c_X10_refuse {σ : Mem} {x1 : Int}  {q : (Int × Mem)} (h : f_X10_refuse σ x1 = some q) : Ms yX10_refuse M_X10_refuse 210 210 [(2, (0 : Int)), (0, x1)] rho σ (some (0, q.1), rho, q.2) := by
  refine Ms.of 1 (by decide +kernel) rfl (fun z => absurd z (by decide)) (fun _ _ _ => trivial) rfl rfl ?_
  unfold f_X10_refuse at h
  show Ev M_X10_refuse 210 210 _ 0 210 rho σ [(2, (0 : Int)), (0, x1), (9, 0)] []
  refine ev_bipush dX10_refuse_0 (by decide) (by decide) ?_
  refine ev_iload_n dX10_refuse_2 rfl ?_
  refine ev_isub dX10_refuse_3 ?_
  refine ev_istore_nG dX10_refuse_4 h rfl (by decide) (fun v1 h => ?_)
  show Ev _ _ _ _ 5 _ _ _ [(2, (0 : Int)), (0, x1), (0, v1)] _
  refine ev_iload_n dX10_refuse_5 rfl ?_
  refine ev_if_lt (tgt := 24) dX10_refuse_6 rfl h (fun cb h => ?_) (fun cb h => ?_)
  · refine ev_iload_n dX10_refuse_24 rfl ?_
    obtain rfl := Option.some.inj h
    dsimp only
    exact ev_iret dX10_refuse_25 rfl rfl
  refine ev_iload_n dX10_refuse_9 rfl ?_
  refine ev_iconst dX10_refuse_10 (by decide) ?_
  refine ev_icmp_ge (tgt := 24) dX10_refuse_11 rfl h (fun cb h => ?_) (fun cb h => ?_)
  · refine ev_iload_n dX10_refuse_24 rfl ?_
    obtain rfl := Option.some.inj h
    dsimp only
    exact ev_iret dX10_refuse_25 rfl rfl
  refine ev_aload_n dX10_refuse_14 rfl (by decide) ?_
  refine ev_getf (j := 6) (t := 2) (x := (34 : Int)) dX10_refuse_15 cf_X10 wf_X10_36 sp0 (by decide) (by decide) rfl (by decide) (rp0_6 _) ?_
  refine ev_iload_n dX10_refuse_18 rfl ?_
  refine ev_dup2 dX10_refuse_19 (show (0 : Nat) ≠ 1 by decide) (show (2 : Nat) ≠ 1 by decide) ?_
  refine ev_iald dX10_refuse_20 sp34 (by decide) (by decide) h (fun h => ?_)
  refine ev_iconst dX10_refuse_21 (by decide) ?_
  refine ev_iadd dX10_refuse_22 ?_
  refine ev_iastG dX10_refuse_23 sp34 (by decide) (by decide) h (fun σ2 h => ?_)
  refine ev_iload_n dX10_refuse_24 rfl ?_
  obtain rfl := Option.some.inj h
  dsimp only
  exact ev_iret dX10_refuse_25 rfl rfl
set_option maxHeartbeats 4000000 in
set_option maxRecDepth 20000 in
theorem e_X10_row_24 (σ : Mem)  {q : (Int × Mem)} (h : f_X10_row_24 σ  = some q) : Ev M_X10_row 210 210 (some (0, q.1), rho, q.2) 24 210 rho σ [(2, (0 : Int)), (9, 0), (9, 0), (9, 0)] [] := by
  unfold f_X10_row_24 at h
  refine ev_aload_n dX10_row_24 rfl (by decide) ?_
  refine ev_bipush dX10_row_25 (by decide) (by decide) ?_
  obtain ⟨v7, hc8, h⟩ := bind_of h
  refine ev_invV_v (k := (0 : Int)) (av := [(0, (-52 : Int))]) (st := []) (v := (0, v7.1)) (τ := v7.2) dX10_row_27 ml_X10_90 mv_X10_refuse (T := TX10) (ci := 9) rfl sp0 (by decide) (by decide) rfl ⟨Nat.le_of_ble_eq_true rfl, Nat.le_of_ble_eq_true rfl⟩ (Nat.le_of_ble_eq_true rfl) (c_X10_refuse hc8) ?_
  obtain rfl := Option.some.inj h
  dsimp only
  exact ev_iret dX10_row_30 rfl rfl
set_option maxHeartbeats 4000000 in
set_option maxRecDepth 20000 in
theorem c_X10_row {σ : Mem} {x1 x2 x3 : Int}  {q : (Int × Mem)} (h : f_X10_row σ x1 x2 x3 = some q) : Ms yX10_row M_X10_row 210 210 [(2, (0 : Int)), (0, x1), (0, x2), (0, x3)] rho σ (some (0, q.1), rho, q.2) := by
  refine Ms.of 0 (by decide +kernel) rfl (fun z => absurd z (by decide)) (fun _ _ _ => trivial) rfl rfl ?_
  unfold f_X10_row at h
  show Ev M_X10_row 210 210 _ 0 210 rho σ [(2, (0 : Int)), (0, x1), (0, x2), (0, x3)] []
  refine ev_iload_n dX10_row_0 rfl ?_
  obtain ⟨v1, hc2, h⟩ := bind_of h
  refine ev_invS_v (av := [(0, x1)]) (st := []) (v := (0, v1)) (τ := σ) dX10_row_1 ml_X10_83 mt_X6_isShelf rfl ⟨Nat.le_of_ble_eq_true rfl, Nat.le_of_ble_eq_true rfl⟩ (Nat.le_of_ble_eq_true rfl) (c_X6_isShelf hc2) ?_
  refine ev_if_eq (tgt := 24) dX10_row_4 rfl h (fun cb h => ?_) (fun cb h => ?_)
  · exact ev_sub (L2 := [(2, (0 : Int)), (9, 0), (9, 0), (9, 0)]) (e_X10_row_24 σ h) ⟨.inr rfl, .inl rfl, .inl rfl, .inl rfl, trivial⟩
  refine ev_iload_n dX10_row_7 rfl ?_
  obtain ⟨v3, hc4, h⟩ := bind_of h
  refine ev_invS_v (av := [(0, x2)]) (st := []) (v := (0, v3)) (τ := σ) dX10_row_8 ml_X10_87 mt_X6_isSort rfl ⟨Nat.le_of_ble_eq_true rfl, Nat.le_of_ble_eq_true rfl⟩ (Nat.le_of_ble_eq_true rfl) (c_X6_isSort hc4) ?_
  refine ev_if_eq (tgt := 24) dX10_row_11 rfl h (fun cb h => ?_) (fun cb h => ?_)
  · exact ev_sub (L2 := [(2, (0 : Int)), (9, 0), (9, 0), (9, 0)]) (e_X10_row_24 σ h) ⟨.inr rfl, .inl rfl, .inl rfl, .inl rfl, trivial⟩
  refine ev_iload_n dX10_row_14 rfl ?_
  refine ev_if_lt (tgt := 24) dX10_row_15 rfl h (fun cb h => ?_) (fun cb h => ?_)
  · exact ev_sub (L2 := [(2, (0 : Int)), (9, 0), (9, 0), (9, 0)]) (e_X10_row_24 σ h) ⟨.inr rfl, .inl rfl, .inl rfl, .inl rfl, trivial⟩
  refine ev_iload_n dX10_row_18 rfl ?_
  refine ev_bipush dX10_row_19 (by decide) (by decide) ?_
  refine ev_icmp_le (tgt := 31) dX10_row_21 rfl h (fun cb h => ?_) (fun cb h => ?_)
  · refine ev_aload_n dX10_row_31 rfl (by decide) ?_
    refine ev_getf (j := 5) (t := 2) (x := (30 : Int)) dX10_row_32 cf_X10 wf_X10_32 sp0 (by decide) (by decide) rfl (by decide) (rp0_5 _) ?_
    refine ev_iload_n dX10_row_35 rfl ?_
    refine ev_iload_n dX10_row_36 rfl ?_
    refine ev_iload_n dX10_row_37 rfl ?_
    obtain ⟨σ5, hc6, h⟩ := bind_of h
    refine ev_invV_n (k := (30 : Int)) (av := [(0, x1), (0, x2), (0, x3)]) (st := []) (τ := σ5) dX10_row_38 ml_X10_94 mv_X6_putRow (T := TX6) (ci := 5) rfl sp30 (by decide) (by decide) rfl ⟨Nat.le_of_ble_eq_true rfl, Nat.le_of_ble_eq_true rfl⟩ (Nat.le_of_ble_eq_true rfl) (c_X6_putRow hc6) ?_
    refine ev_iconst dX10_row_41 (by decide) ?_
    obtain rfl := Option.some.inj h
    dsimp only
    exact ev_iret dX10_row_42 rfl rfl
  exact ev_sub (L2 := [(2, (0 : Int)), (9, 0), (9, 0), (9, 0)]) (e_X10_row_24 σ h) ⟨.inr rfl, .inl rfl, .inl rfl, .inl rfl, trivial⟩
set_option maxHeartbeats 4000000 in
set_option maxRecDepth 20000 in
theorem c_X10_set {σ : Mem} {x1 x2 x3 : Int}  {q : (Int × Mem)} (h : f_X10_set σ x1 x2 x3 = some q) : Ms yX10_set M_X10_set 210 210 [(2, (0 : Int)), (0, x1), (0, x2), (1, x3)] rho σ (some (0, q.1), rho, q.2) := by
  refine Ms.of 1 (by decide +kernel) rfl (fun z => absurd z (by decide)) (fun _ _ _ => trivial) rfl rfl ?_
  unfold f_X10_set at h
  show Ev M_X10_set 210 210 _ 0 210 rho σ [(2, (0 : Int)), (0, x1), (0, x2), (1, x3), (9, 0), (9, 0)] []
  refine ev_iload_n dX10_set_0 rfl ?_
  obtain ⟨v1, hc2, h⟩ := bind_of h
  refine ev_invS_v (av := [(0, x1)]) (st := []) (v := (0, v1)) (τ := σ) dX10_set_1 ml_X10_83 mt_X6_isShelf rfl ⟨Nat.le_of_ble_eq_true rfl, Nat.le_of_ble_eq_true rfl⟩ (Nat.le_of_ble_eq_true rfl) (c_X6_isShelf hc2) ?_
  refine ev_if_ne (tgt := 14) dX10_set_4 rfl h (fun cb h => ?_) (fun cb h => ?_)
  · refine ev_aload_n dX10_set_14 rfl (by decide) ?_
    refine ev_getf (j := 5) (t := 2) (x := (30 : Int)) dX10_set_15 cf_X10 wf_X10_32 sp0 (by decide) (by decide) rfl (by decide) (rp0_5 _) ?_
    refine ev_iload_n dX10_set_18 rfl ?_
    obtain ⟨v3, hc4, h⟩ := bind_of h
    refine ev_invV_v (k := (30 : Int)) (av := [(0, x1)]) (st := []) (v := (0, v3)) (τ := σ) dX10_set_19 ml_X10_98 mv_X6_rowTrouble (T := TX6) (ci := 5) rfl sp30 (by decide) (by decide) rfl ⟨Nat.le_of_ble_eq_true rfl, Nat.le_of_ble_eq_true rfl⟩ (Nat.le_of_ble_eq_true rfl) (c_X6_rowTrouble hc4) ?_
    refine ev_istore dX10_set_22 rfl (by decide) ?_
    show Ev _ _ _ _ 24 _ _ _ [(2, (0 : Int)), (0, x1), (0, x2), (1, x3), (9, 0), (0, v3)] _
    refine ev_iload dX10_set_24 rfl ?_
    refine ev_if_eq (tgt := 36) dX10_set_26 rfl h (fun cb h => ?_) (fun cb h => ?_)
    · refine ev_aload_n dX10_set_36 rfl (by decide) ?_
      refine ev_getf (j := 5) (t := 2) (x := (30 : Int)) dX10_set_37 cf_X10 wf_X10_32 sp0 (by decide) (by decide) rfl (by decide) (rp0_5 _) ?_
      refine ev_iload_n dX10_set_40 rfl ?_
      refine ev_iload_n dX10_set_41 rfl ?_
      obtain ⟨v5, hc6, h⟩ := bind_of h
      refine ev_invV_v (k := (30 : Int)) (av := [(0, x1), (0, x2)]) (st := []) (v := (0, v5)) (τ := σ) dX10_set_42 ml_X10_101 mv_X6_hasElement (T := TX6) (ci := 5) rfl sp30 (by decide) (by decide) rfl ⟨Nat.le_of_ble_eq_true rfl, Nat.le_of_ble_eq_true rfl⟩ (Nat.le_of_ble_eq_true rfl) (c_X6_hasElement hc6) ?_
      refine ev_if_ne (tgt := 55) dX10_set_45 rfl h (fun cb h => ?_) (fun cb h => ?_)
      · refine ev_aload_n dX10_set_55 rfl (by decide) ?_
        refine ev_getf (j := 5) (t := 2) (x := (30 : Int)) dX10_set_56 cf_X10 wf_X10_32 sp0 (by decide) (by decide) rfl (by decide) (rp0_5 _) ?_
        refine ev_iload_n dX10_set_59 rfl ?_
        refine ev_iload_n dX10_set_60 rfl ?_
        refine ev_lload_n dX10_set_61 rfl ?_
        obtain ⟨σ7, hc8, h⟩ := bind_of h
        refine ev_invV_n (k := (30 : Int)) (av := [(0, x1), (0, x2), (1, x3)]) (st := []) (τ := σ7) dX10_set_62 ml_X10_105 mv_X6_putElement (T := TX6) (ci := 5) rfl sp30 (by decide) (by decide) rfl ⟨Nat.le_of_ble_eq_true rfl, Nat.le_of_ble_eq_true rfl⟩ (Nat.le_of_ble_eq_true rfl) (c_X6_putElement hc8) ?_
        refine ev_iconst dX10_set_65 (by decide) ?_
        obtain rfl := Option.some.inj h
        dsimp only
        exact ev_iret dX10_set_66 rfl rfl
      refine ev_aload_n dX10_set_48 rfl (by decide) ?_
      refine ev_bipush dX10_set_49 (by decide) (by decide) ?_
      obtain ⟨v9, hc10, h⟩ := bind_of h
      refine ev_invV_v (k := (0 : Int)) (av := [(0, (-52 : Int))]) (st := []) (v := (0, v9.1)) (τ := v9.2) dX10_set_51 ml_X10_90 mv_X10_refuse (T := TX10) (ci := 9) rfl sp0 (by decide) (by decide) rfl ⟨Nat.le_of_ble_eq_true rfl, Nat.le_of_ble_eq_true rfl⟩ (Nat.le_of_ble_eq_true rfl) (c_X10_refuse hc10) ?_
      obtain rfl := Option.some.inj h
      dsimp only
      exact ev_iret dX10_set_54 rfl rfl
    refine ev_aload_n dX10_set_29 rfl (by decide) ?_
    refine ev_iload dX10_set_30 rfl ?_
    obtain ⟨v11, hc12, h⟩ := bind_of h
    refine ev_invV_v (k := (0 : Int)) (av := [(0, v3)]) (st := []) (v := (0, v11.1)) (τ := v11.2) dX10_set_32 ml_X10_90 mv_X10_refuse (T := TX10) (ci := 9) rfl sp0 (by decide) (by decide) rfl ⟨Nat.le_of_ble_eq_true rfl, Nat.le_of_ble_eq_true rfl⟩ (Nat.le_of_ble_eq_true rfl) (c_X10_refuse hc12) ?_
    obtain rfl := Option.some.inj h
    dsimp only
    exact ev_iret dX10_set_35 rfl rfl
  refine ev_aload_n dX10_set_7 rfl (by decide) ?_
  refine ev_bipush dX10_set_8 (by decide) (by decide) ?_
  obtain ⟨v13, hc14, h⟩ := bind_of h
  refine ev_invV_v (k := (0 : Int)) (av := [(0, (-52 : Int))]) (st := []) (v := (0, v13.1)) (τ := v13.2) dX10_set_10 ml_X10_90 mv_X10_refuse (T := TX10) (ci := 9) rfl sp0 (by decide) (by decide) rfl ⟨Nat.le_of_ble_eq_true rfl, Nat.le_of_ble_eq_true rfl⟩ (Nat.le_of_ble_eq_true rfl) (c_X10_refuse hc14) ?_
  obtain rfl := Option.some.inj h
  dsimp only
  exact ev_iret dX10_set_13 rfl rfl
set_option maxHeartbeats 4000000 in
set_option maxRecDepth 20000 in
theorem e_X10_copy_14 (σ : Mem)  {q : (Int × Mem)} (h : f_X10_copy_14 σ  = some q) : Ev M_X10_copy 210 210 (some (0, q.1), rho, q.2) 14 210 rho σ [(2, (0 : Int)), (9, 0), (9, 0), (9, 0), (9, 0), (9, 0), (9, 0), (9, 0)] [] := by
  unfold f_X10_copy_14 at h
  refine ev_aload_n dX10_copy_14 rfl (by decide) ?_
  refine ev_bipush dX10_copy_15 (by decide) (by decide) ?_
  obtain ⟨v21, hc22, h⟩ := bind_of h
  refine ev_invV_v (k := (0 : Int)) (av := [(0, (-52 : Int))]) (st := []) (v := (0, v21.1)) (τ := v21.2) dX10_copy_17 ml_X10_90 mv_X10_refuse (T := TX10) (ci := 9) rfl sp0 (by decide) (by decide) rfl ⟨Nat.le_of_ble_eq_true rfl, Nat.le_of_ble_eq_true rfl⟩ (Nat.le_of_ble_eq_true rfl) (c_X10_refuse hc22) ?_
  obtain rfl := Option.some.inj h
  dsimp only
  exact ev_iret dX10_copy_20 rfl rfl
set_option maxHeartbeats 4000000 in
set_option maxRecDepth 20000 in
theorem e_X10_copy_55 (σ : Mem)  {q : (Int × Mem)} (h : f_X10_copy_55 σ  = some q) : Ev M_X10_copy 210 210 (some (0, q.1), rho, q.2) 55 210 rho σ [(2, (0 : Int)), (9, 0), (9, 0), (9, 0), (9, 0), (9, 0), (9, 0), (9, 0)] [] := by
  unfold f_X10_copy_55 at h
  refine ev_aload_n dX10_copy_55 rfl (by decide) ?_
  refine ev_bipush dX10_copy_56 (by decide) (by decide) ?_
  obtain ⟨v23, hc24, h⟩ := bind_of h
  refine ev_invV_v (k := (0 : Int)) (av := [(0, (-53 : Int))]) (st := []) (v := (0, v23.1)) (τ := v23.2) dX10_copy_58 ml_X10_90 mv_X10_refuse (T := TX10) (ci := 9) rfl sp0 (by decide) (by decide) rfl ⟨Nat.le_of_ble_eq_true rfl, Nat.le_of_ble_eq_true rfl⟩ (Nat.le_of_ble_eq_true rfl) (c_X10_refuse hc24) ?_
  obtain rfl := Option.some.inj h
  dsimp only
  exact ev_iret dX10_copy_61 rfl rfl
set_option maxHeartbeats 4000000 in
set_option maxRecDepth 20000 in
theorem e_X10_copy_76 (σ : Mem)  {q : (Int × Mem)} (h : f_X10_copy_76 σ  = some q) : Ev M_X10_copy 210 210 (some (0, q.1), rho, q.2) 76 210 rho σ [(2, (0 : Int)), (9, 0), (9, 0), (9, 0), (9, 0), (9, 0), (9, 0), (9, 0)] [] := by
  unfold f_X10_copy_76 at h
  refine ev_aload_n dX10_copy_76 rfl (by decide) ?_
  refine ev_bipush dX10_copy_77 (by decide) (by decide) ?_
  obtain ⟨v25, hc26, h⟩ := bind_of h
  refine ev_invV_v (k := (0 : Int)) (av := [(0, (-54 : Int))]) (st := []) (v := (0, v25.1)) (τ := v25.2) dX10_copy_79 ml_X10_90 mv_X10_refuse (T := TX10) (ci := 9) rfl sp0 (by decide) (by decide) rfl ⟨Nat.le_of_ble_eq_true rfl, Nat.le_of_ble_eq_true rfl⟩ (Nat.le_of_ble_eq_true rfl) (c_X10_refuse hc26) ?_
  obtain rfl := Option.some.inj h
  dsimp only
  exact ev_iret dX10_copy_82 rfl rfl
set_option maxHeartbeats 4000000 in
set_option maxRecDepth 20000 in
theorem e_X10_copy_138 (σ : Mem)  {q : (Int × Mem)} (h : f_X10_copy_138 σ  = some q) : Ev M_X10_copy 210 210 (some (0, q.1), rho, q.2) 138 210 rho σ [(2, (0 : Int)), (9, 0), (9, 0), (9, 0), (9, 0), (9, 0), (9, 0), (9, 0)] [] := by
  unfold f_X10_copy_138 at h
  refine ev_aload_n dX10_copy_138 rfl (by decide) ?_
  refine ev_bipush dX10_copy_139 (by decide) (by decide) ?_
  obtain ⟨v27, hc28, h⟩ := bind_of h
  refine ev_invV_v (k := (0 : Int)) (av := [(0, (-52 : Int))]) (st := []) (v := (0, v27.1)) (τ := v27.2) dX10_copy_141 ml_X10_90 mv_X10_refuse (T := TX10) (ci := 9) rfl sp0 (by decide) (by decide) rfl ⟨Nat.le_of_ble_eq_true rfl, Nat.le_of_ble_eq_true rfl⟩ (Nat.le_of_ble_eq_true rfl) (c_X10_refuse hc28) ?_
  obtain rfl := Option.some.inj h
  dsimp only
  exact ev_iret dX10_copy_144 rfl rfl
set_option maxHeartbeats 4000000 in
set_option maxRecDepth 20000 in
theorem c_X10_copy {σ : Mem} {x1 x2 x3 x4 x5 : Int}  {q : (Int × Mem)} (h : f_X10_copy σ x1 x2 x3 x4 x5 = some q) : Ms yX10_copy M_X10_copy 210 210 [(2, (0 : Int)), (0, x1), (0, x2), (0, x3), (0, x4), (0, x5)] rho σ (some (0, q.1), rho, q.2) := by
  refine Ms.of 2 (by decide +kernel) rfl (fun z => absurd z (by decide)) (fun _ _ _ => trivial) rfl rfl ?_
  unfold f_X10_copy at h
  show Ev M_X10_copy 210 210 _ 0 210 rho σ [(2, (0 : Int)), (0, x1), (0, x2), (0, x3), (0, x4), (0, x5), (9, 0), (9, 0)] []
  refine ev_iload_n dX10_copy_0 rfl ?_
  obtain ⟨v1, hc2, h⟩ := bind_of h
  refine ev_invS_v (av := [(0, x1)]) (st := []) (v := (0, v1)) (τ := σ) dX10_copy_1 ml_X10_83 mt_X6_isShelf rfl ⟨Nat.le_of_ble_eq_true rfl, Nat.le_of_ble_eq_true rfl⟩ (Nat.le_of_ble_eq_true rfl) (c_X6_isShelf hc2) ?_
  refine ev_if_eq (tgt := 14) dX10_copy_4 rfl h (fun cb h => ?_) (fun cb h => ?_)
  · exact ev_sub (L2 := [(2, (0 : Int)), (9, 0), (9, 0), (9, 0), (9, 0), (9, 0), (9, 0), (9, 0)]) (e_X10_copy_14 σ h) ⟨.inr rfl, .inl rfl, .inl rfl, .inl rfl, .inl rfl, .inl rfl, .inl rfl, .inl rfl, trivial⟩
  refine ev_iload_n dX10_copy_7 rfl ?_
  obtain ⟨v3, hc4, h⟩ := bind_of h
  refine ev_invS_v (av := [(0, x2)]) (st := []) (v := (0, v3)) (τ := σ) dX10_copy_8 ml_X10_83 mt_X6_isShelf rfl ⟨Nat.le_of_ble_eq_true rfl, Nat.le_of_ble_eq_true rfl⟩ (Nat.le_of_ble_eq_true rfl) (c_X6_isShelf hc4) ?_
  refine ev_if_ne (tgt := 21) dX10_copy_11 rfl h (fun cb h => ?_) (fun cb h => ?_)
  · refine ev_aload_n dX10_copy_21 rfl (by decide) ?_
    refine ev_getf (j := 5) (t := 2) (x := (30 : Int)) dX10_copy_22 cf_X10 wf_X10_32 sp0 (by decide) (by decide) rfl (by decide) (rp0_5 _) ?_
    refine ev_iload_n dX10_copy_25 rfl ?_
    obtain ⟨v5, hc6, h⟩ := bind_of h
    refine ev_invV_v (k := (30 : Int)) (av := [(0, x1)]) (st := []) (v := (0, v5)) (τ := σ) dX10_copy_26 ml_X10_98 mv_X6_rowTrouble (T := TX6) (ci := 5) rfl sp30 (by decide) (by decide) rfl ⟨Nat.le_of_ble_eq_true rfl, Nat.le_of_ble_eq_true rfl⟩ (Nat.le_of_ble_eq_true rfl) (c_X6_rowTrouble hc6) ?_
    refine ev_istore dX10_copy_29 rfl (by decide) ?_
    show Ev _ _ _ _ 31 _ _ _ [(2, (0 : Int)), (0, x1), (0, x2), (0, x3), (0, x4), (0, x5), (0, v5), (9, 0)] _
    refine ev_aload_n dX10_copy_31 rfl (by decide) ?_
    refine ev_getf (j := 5) (t := 2) (x := (30 : Int)) dX10_copy_32 cf_X10 wf_X10_32 sp0 (by decide) (by decide) rfl (by decide) (rp0_5 _) ?_
    refine ev_iload_n dX10_copy_35 rfl ?_
    obtain ⟨v7, hc8, h⟩ := bind_of h
    refine ev_invV_v (k := (30 : Int)) (av := [(0, x2)]) (st := []) (v := (0, v7)) (τ := σ) dX10_copy_36 ml_X10_98 mv_X6_rowTrouble (T := TX6) (ci := 5) rfl sp30 (by decide) (by decide) rfl ⟨Nat.le_of_ble_eq_true rfl, Nat.le_of_ble_eq_true rfl⟩ (Nat.le_of_ble_eq_true rfl) (c_X6_rowTrouble hc8) ?_
    refine ev_istore dX10_copy_39 rfl (by decide) ?_
    show Ev _ _ _ _ 41 _ _ _ [(2, (0 : Int)), (0, x1), (0, x2), (0, x3), (0, x4), (0, x5), (0, v5), (0, v7)] _
    refine ev_iload dX10_copy_41 rfl ?_
    show Ev _ _ _ _ 43 _ _ _ _ _
    refine ev_bipush dX10_copy_43 (by decide) (by decide) ?_
    refine ev_icmp_eq (tgt := 55) dX10_copy_45 rfl h (fun cb h => ?_) (fun cb h => ?_)
    · exact ev_sub (L2 := [(2, (0 : Int)), (9, 0), (9, 0), (9, 0), (9, 0), (9, 0), (9, 0), (9, 0)]) (e_X10_copy_55 σ h) ⟨.inr rfl, .inl rfl, .inl rfl, .inl rfl, .inl rfl, .inl rfl, .inl rfl, .inl rfl, trivial⟩
    refine ev_iload dX10_copy_48 rfl ?_
    refine ev_bipush dX10_copy_50 (by decide) (by decide) ?_
    refine ev_icmp_ne (tgt := 62) dX10_copy_52 rfl h (fun cb h => ?_) (fun cb h => ?_)
    · refine ev_iload dX10_copy_62 rfl ?_
      refine ev_bipush dX10_copy_64 (by decide) (by decide) ?_
      refine ev_icmp_eq (tgt := 76) dX10_copy_66 rfl h (fun cb h => ?_) (fun cb h => ?_)
      · exact ev_sub (L2 := [(2, (0 : Int)), (9, 0), (9, 0), (9, 0), (9, 0), (9, 0), (9, 0), (9, 0)]) (e_X10_copy_76 σ h) ⟨.inr rfl, .inl rfl, .inl rfl, .inl rfl, .inl rfl, .inl rfl, .inl rfl, .inl rfl, trivial⟩
      refine ev_iload dX10_copy_69 rfl ?_
      refine ev_bipush dX10_copy_71 (by decide) (by decide) ?_
      refine ev_icmp_ne (tgt := 83) dX10_copy_73 rfl h (fun cb h => ?_) (fun cb h => ?_)
      · refine ev_aload_n dX10_copy_83 rfl (by decide) ?_
        refine ev_getf (j := 5) (t := 2) (x := (30 : Int)) dX10_copy_84 cf_X10 wf_X10_32 sp0 (by decide) (by decide) rfl (by decide) (rp0_5 _) ?_
        refine ev_iload_n dX10_copy_87 rfl ?_
        obtain ⟨v9, hc10, h⟩ := bind_of h
        refine ev_invV_v (k := (30 : Int)) (av := [(0, x1)]) (st := []) (v := (0, v9)) (τ := σ) dX10_copy_88 ml_X10_109 mv_X6_holding (T := TX6) (ci := 5) rfl sp30 (by decide) (by decide) rfl ⟨Nat.le_of_ble_eq_true rfl, Nat.le_of_ble_eq_true rfl⟩ (Nat.le_of_ble_eq_true rfl) (c_X6_holding hc10) ?_
        refine ev_aload_n dX10_copy_91 rfl (by decide) ?_
        refine ev_getf (j := 5) (t := 2) (x := (30 : Int)) dX10_copy_92 cf_X10 wf_X10_32 sp0 (by decide) (by decide) rfl (by decide) (rp0_5 _) ?_
        refine ev_iload_n dX10_copy_95 rfl ?_
        obtain ⟨v11, hc12, h⟩ := bind_of h
        refine ev_invV_v (k := (30 : Int)) (av := [(0, x2)]) (st := [(0, v9)]) (v := (0, v11)) (τ := σ) dX10_copy_96 ml_X10_109 mv_X6_holding (T := TX6) (ci := 5) rfl sp30 (by decide) (by decide) rfl ⟨Nat.le_of_ble_eq_true rfl, Nat.le_of_ble_eq_true rfl⟩ (Nat.le_of_ble_eq_true rfl) (c_X6_holding hc12) ?_
        refine ev_icmp_eq (tgt := 109) dX10_copy_99 rfl h (fun cb h => ?_) (fun cb h => ?_)
        · refine ev_aload_n dX10_copy_109 rfl (by decide) ?_
          refine ev_getf (j := 5) (t := 2) (x := (30 : Int)) dX10_copy_110 cf_X10 wf_X10_32 sp0 (by decide) (by decide) rfl (by decide) (rp0_5 _) ?_
          refine ev_iload_n dX10_copy_113 rfl ?_
          refine ev_iload_n dX10_copy_114 rfl ?_
          refine ev_iload dX10_copy_115 rfl ?_
          obtain ⟨v13, hc14, h⟩ := bind_of h
          refine ev_invV_v (k := (30 : Int)) (av := [(0, x1), (0, x3), (0, x5)]) (st := []) (v := (0, v13)) (τ := σ) dX10_copy_117 ml_X10_112 mv_X6_hasElements (T := TX6) (ci := 5) rfl sp30 (by decide) (by decide) rfl ⟨Nat.le_of_ble_eq_true rfl, Nat.le_of_ble_eq_true rfl⟩ (Nat.le_of_ble_eq_true rfl) (c_X6_hasElements hc14) ?_
          refine ev_if_eq (tgt := 138) dX10_copy_120 rfl h (fun cb h => ?_) (fun cb h => ?_)
          · exact ev_sub (L2 := [(2, (0 : Int)), (9, 0), (9, 0), (9, 0), (9, 0), (9, 0), (9, 0), (9, 0)]) (e_X10_copy_138 σ h) ⟨.inr rfl, .inl rfl, .inl rfl, .inl rfl, .inl rfl, .inl rfl, .inl rfl, .inl rfl, trivial⟩
          refine ev_aload_n dX10_copy_123 rfl (by decide) ?_
          refine ev_getf (j := 5) (t := 2) (x := (30 : Int)) dX10_copy_124 cf_X10 wf_X10_32 sp0 (by decide) (by decide) rfl (by decide) (rp0_5 _) ?_
          refine ev_iload_n dX10_copy_127 rfl ?_
          refine ev_iload dX10_copy_128 rfl ?_
          refine ev_iload dX10_copy_130 rfl ?_
          obtain ⟨v15, hc16, h⟩ := bind_of h
          refine ev_invV_v (k := (30 : Int)) (av := [(0, x2), (0, x4), (0, x5)]) (st := []) (v := (0, v15)) (τ := σ) dX10_copy_132 ml_X10_112 mv_X6_hasElements (T := TX6) (ci := 5) rfl sp30 (by decide) (by decide) rfl ⟨Nat.le_of_ble_eq_true rfl, Nat.le_of_ble_eq_true rfl⟩ (Nat.le_of_ble_eq_true rfl) (c_X6_hasElements hc16) ?_
          refine ev_if_ne (tgt := 145) dX10_copy_135 rfl h (fun cb h => ?_) (fun cb h => ?_)
          · refine ev_aload_n dX10_copy_145 rfl (by decide) ?_
            refine ev_getf (j := 5) (t := 2) (x := (30 : Int)) dX10_copy_146 cf_X10 wf_X10_32 sp0 (by decide) (by decide) rfl (by decide) (rp0_5 _) ?_
            refine ev_iload_n dX10_copy_149 rfl ?_
            refine ev_iload_n dX10_copy_150 rfl ?_
            refine ev_iload_n dX10_copy_151 rfl ?_
            refine ev_iload dX10_copy_152 rfl ?_
            refine ev_iload dX10_copy_154 rfl ?_
            obtain ⟨σ17, hc18, h⟩ := bind_of h
            refine ev_invV_n (k := (30 : Int)) (av := [(0, x1), (0, x2), (0, x3), (0, x4), (0, x5)]) (st := []) (τ := σ17) dX10_copy_156 ml_X10_116 mv_X6_carry (T := TX6) (ci := 5) rfl sp30 (by decide) (by decide) rfl ⟨Nat.le_of_ble_eq_true rfl, Nat.le_of_ble_eq_true rfl⟩ (Nat.le_of_ble_eq_true rfl) (c_X6_carry hc18) ?_
            refine ev_iload dX10_copy_159 rfl ?_
            obtain rfl := Option.some.inj h
            dsimp only
            exact ev_iret dX10_copy_161 rfl rfl
          exact ev_sub (L2 := [(2, (0 : Int)), (9, 0), (9, 0), (9, 0), (9, 0), (9, 0), (9, 0), (9, 0)]) (e_X10_copy_138 σ h) ⟨.inr rfl, .inl rfl, .inl rfl, .inl rfl, .inl rfl, .inl rfl, .inl rfl, .inl rfl, trivial⟩
        refine ev_aload_n dX10_copy_102 rfl (by decide) ?_
        refine ev_bipush dX10_copy_103 (by decide) (by decide) ?_
        obtain ⟨v19, hc20, h⟩ := bind_of h
        refine ev_invV_v (k := (0 : Int)) (av := [(0, (-53 : Int))]) (st := []) (v := (0, v19.1)) (τ := v19.2) dX10_copy_105 ml_X10_90 mv_X10_refuse (T := TX10) (ci := 9) rfl sp0 (by decide) (by decide) rfl ⟨Nat.le_of_ble_eq_true rfl, Nat.le_of_ble_eq_true rfl⟩ (Nat.le_of_ble_eq_true rfl) (c_X10_refuse hc20) ?_
        obtain rfl := Option.some.inj h
        dsimp only
        exact ev_iret dX10_copy_108 rfl rfl
      exact ev_sub (L2 := [(2, (0 : Int)), (9, 0), (9, 0), (9, 0), (9, 0), (9, 0), (9, 0), (9, 0)]) (e_X10_copy_76 σ h) ⟨.inr rfl, .inl rfl, .inl rfl, .inl rfl, .inl rfl, .inl rfl, .inl rfl, .inl rfl, trivial⟩
    exact ev_sub (L2 := [(2, (0 : Int)), (9, 0), (9, 0), (9, 0), (9, 0), (9, 0), (9, 0), (9, 0)]) (e_X10_copy_55 σ h) ⟨.inr rfl, .inl rfl, .inl rfl, .inl rfl, .inl rfl, .inl rfl, .inl rfl, .inl rfl, trivial⟩
  exact ev_sub (L2 := [(2, (0 : Int)), (9, 0), (9, 0), (9, 0), (9, 0), (9, 0), (9, 0), (9, 0)]) (e_X10_copy_14 σ h) ⟨.inr rfl, .inl rfl, .inl rfl, .inl rfl, .inl rfl, .inl rfl, .inl rfl, .inl rfl, trivial⟩
set_option maxHeartbeats 4000000 in
set_option maxRecDepth 20000 in
theorem c_X10_element {σ : Mem} {x1 x2 : Int}  {q : Int} (h : f_X10_element σ x1 x2 = some q) : Ms yX10_element M_X10_element 210 210 [(2, (0 : Int)), (0, x1), (0, x2)] rho σ (some (1, q), rho, σ) := by
  refine Ms.of 0 (by decide +kernel) rfl (fun z => absurd z (by decide)) (fun _ _ _ => trivial) rfl rfl ?_
  unfold f_X10_element at h
  show Ev M_X10_element 210 210 _ 0 210 rho σ [(2, (0 : Int)), (0, x1), (0, x2)] []
  refine ev_aload_n dX10_element_0 rfl (by decide) ?_
  refine ev_getf (j := 5) (t := 2) (x := (30 : Int)) dX10_element_1 cf_X10 wf_X10_32 sp0 (by decide) (by decide) rfl (by decide) (rp0_5 _) ?_
  refine ev_iload_n dX10_element_4 rfl ?_
  refine ev_iload_n dX10_element_5 rfl ?_
  obtain ⟨v1, hc2, h⟩ := bind_of h
  refine ev_invV_v (k := (30 : Int)) (av := [(0, x1), (0, x2)]) (st := []) (v := (1, v1)) (τ := σ) dX10_element_6 ml_X10_120 mv_X6_elementAt (T := TX6) (ci := 5) rfl sp30 (by decide) (by decide) rfl ⟨Nat.le_of_ble_eq_true rfl, Nat.le_of_ble_eq_true rfl⟩ (Nat.le_of_ble_eq_true rfl) (c_X6_elementAt hc2) ?_
  obtain rfl := Option.some.inj h
  exact ev_lret dX10_element_9 rfl rfl
set_option maxHeartbeats 4000000 in
set_option maxRecDepth 20000 in
theorem c_X10_holds {σ : Mem} {x1 : Int}  {q : Int} (h : f_X10_holds σ x1 = some q) : Ms yX10_holds M_X10_holds 210 210 [(2, (0 : Int)), (0, x1)] rho σ (some (0, q), rho, σ) := by
  refine Ms.of 0 (by decide +kernel) rfl (fun z => absurd z (by decide)) (fun _ _ _ => trivial) rfl rfl ?_
  unfold f_X10_holds at h
  show Ev M_X10_holds 210 210 _ 0 210 rho σ [(2, (0 : Int)), (0, x1)] []
  refine ev_aload_n dX10_holds_0 rfl (by decide) ?_
  refine ev_getf (j := 5) (t := 2) (x := (30 : Int)) dX10_holds_1 cf_X10 wf_X10_32 sp0 (by decide) (by decide) rfl (by decide) (rp0_5 _) ?_
  refine ev_iload_n dX10_holds_4 rfl ?_
  obtain ⟨v1, hc2, h⟩ := bind_of h
  refine ev_invV_v (k := (30 : Int)) (av := [(0, x1)]) (st := []) (v := (0, v1)) (τ := σ) dX10_holds_5 ml_X10_109 mv_X6_holding (T := TX6) (ci := 5) rfl sp30 (by decide) (by decide) rfl ⟨Nat.le_of_ble_eq_true rfl, Nat.le_of_ble_eq_true rfl⟩ (Nat.le_of_ble_eq_true rfl) (c_X6_holding hc2) ?_
  obtain rfl := Option.some.inj h
  exact ev_iret dX10_holds_8 rfl rfl
set_option maxHeartbeats 4000000 in
set_option maxRecDepth 20000 in
theorem e_X10_show_23 (σ : Mem)  {q : (Int × Mem)} (h : f_X10_show_23 σ  = some q) : Ev M_X10_show 210 210 (some (0, q.1), rho, q.2) 23 210 rho σ [(2, (0 : Int)), (9, 0), (9, 0)] [] := by
  unfold f_X10_show_23 at h
  refine ev_aload_n dX10_show_23 rfl (by decide) ?_
  refine ev_bipush dX10_show_24 (by decide) (by decide) ?_
  obtain ⟨v5, hc6, h⟩ := bind_of h
  refine ev_invV_v (k := (0 : Int)) (av := [(0, (-52 : Int))]) (st := []) (v := (0, v5.1)) (τ := v5.2) dX10_show_26 ml_X10_90 mv_X10_refuse (T := TX10) (ci := 9) rfl sp0 (by decide) (by decide) rfl ⟨Nat.le_of_ble_eq_true rfl, Nat.le_of_ble_eq_true rfl⟩ (Nat.le_of_ble_eq_true rfl) (c_X10_refuse hc6) ?_
  obtain rfl := Option.some.inj h
  dsimp only
  exact ev_iret dX10_show_29 rfl rfl
set_option maxHeartbeats 4000000 in
set_option maxRecDepth 20000 in
theorem e_X10_show_30 (σ : Mem) (x1 x2 : Int)  {q : (Int × Mem)} (h : f_X10_show_30 σ x1 x2 = some q) : Ev M_X10_show 210 210 (some (0, q.1), rho, q.2) 30 210 rho σ [(2, (0 : Int)), (0, x1), (0, x2)] [] := by
  unfold f_X10_show_30 at h
  refine ev_aload_n dX10_show_30 rfl (by decide) ?_
  refine ev_getf (j := 5) (t := 2) (x := (30 : Int)) dX10_show_31 cf_X10 wf_X10_32 sp0 (by decide) (by decide) rfl (by decide) (rp0_5 _) ?_
  refine ev_iload_n dX10_show_34 rfl ?_
  refine ev_iload_n dX10_show_35 rfl ?_
  obtain ⟨σ7, hc8, h⟩ := bind_of h
  refine ev_invV_n (k := (30 : Int)) (av := [(0, x1), (0, x2)]) (st := []) (τ := σ7) dX10_show_36 ml_X10_127 mv_X6_putCand (T := TX6) (ci := 5) rfl sp30 (by decide) (by decide) rfl ⟨Nat.le_of_ble_eq_true rfl, Nat.le_of_ble_eq_true rfl⟩ (Nat.le_of_ble_eq_true rfl) (c_X6_putCand hc8) ?_
  refine ev_iconst dX10_show_39 (by decide) ?_
  obtain rfl := Option.some.inj h
  dsimp only
  exact ev_iret dX10_show_40 rfl rfl
set_option maxHeartbeats 4000000 in
set_option maxRecDepth 20000 in
theorem c_X10_show {σ : Mem} {x1 x2 : Int}  {q : (Int × Mem)} (h : f_X10_show σ x1 x2 = some q) : Ms yX10_show M_X10_show 210 210 [(2, (0 : Int)), (0, x1), (0, x2)] rho σ (some (0, q.1), rho, q.2) := by
  refine Ms.of 0 (by decide +kernel) rfl (fun z => absurd z (by decide)) (fun _ _ _ => trivial) rfl rfl ?_
  unfold f_X10_show at h
  show Ev M_X10_show 210 210 _ 0 210 rho σ [(2, (0 : Int)), (0, x1), (0, x2)] []
  refine ev_iload_n dX10_show_0 rfl ?_
  obtain ⟨v1, hc2, h⟩ := bind_of h
  refine ev_invS_v (av := [(0, x1)]) (st := []) (v := (0, v1)) (τ := σ) dX10_show_1 ml_X10_83 mt_X6_isShelf rfl ⟨Nat.le_of_ble_eq_true rfl, Nat.le_of_ble_eq_true rfl⟩ (Nat.le_of_ble_eq_true rfl) (c_X6_isShelf hc2) ?_
  refine ev_if_eq (tgt := 23) dX10_show_4 rfl h (fun cb h => ?_) (fun cb h => ?_)
  · exact ev_sub (L2 := [(2, (0 : Int)), (9, 0), (9, 0)]) (e_X10_show_23 σ h) ⟨.inr rfl, .inl rfl, .inl rfl, trivial⟩
  refine ev_iload_n dX10_show_7 rfl ?_
  refine ev_iconst dX10_show_8 (by decide) ?_
  refine ev_icmp_eq (tgt := 30) dX10_show_9 rfl h (fun cb h => ?_) (fun cb h => ?_)
  · exact ev_sub (L2 := [(2, (0 : Int)), (0, x1), (0, x2)]) (e_X10_show_30 σ x1 x2 h) ⟨.inr rfl, .inr rfl, .inr rfl, trivial⟩
  refine ev_aload_n dX10_show_12 rfl (by decide) ?_
  refine ev_getf (j := 0) (t := 2) (x := (1 : Int)) dX10_show_13 cf_X10 wf_X10_12 sp0 (by decide) (by decide) rfl (by decide) (rp0_0 _) ?_
  refine ev_iload_n dX10_show_16 rfl ?_
  obtain ⟨v3, hc4, h⟩ := bind_of h
  refine ev_invV_v (k := (1 : Int)) (av := [(0, x2)]) (st := []) (v := (0, v3)) (τ := σ) dX10_show_17 ml_X10_124 mv_X0_hasCand (T := TX0) (ci := 0) rfl sp1 (by decide) (by decide) rfl ⟨Nat.le_of_ble_eq_true rfl, Nat.le_of_ble_eq_true rfl⟩ (Nat.le_of_ble_eq_true rfl) (c_X0_hasCand hB1 hc4) ?_
  refine ev_if_ne (tgt := 30) dX10_show_20 rfl h (fun cb h => ?_) (fun cb h => ?_)
  · exact ev_sub (L2 := [(2, (0 : Int)), (0, x1), (0, x2)]) (e_X10_show_30 σ x1 x2 h) ⟨.inr rfl, .inr rfl, .inr rfl, trivial⟩
  exact ev_sub (L2 := [(2, (0 : Int)), (9, 0), (9, 0)]) (e_X10_show_23 σ h) ⟨.inr rfl, .inl rfl, .inl rfl, trivial⟩
set_option maxHeartbeats 4000000 in
set_option maxRecDepth 20000 in
theorem e_X10_says_25 (σ : Mem)  {q : (Int × Mem)} (h : f_X10_says_25 σ  = some q) : Ev M_X10_says 210 210 (some (0, q.1), rho, q.2) 25 210 rho σ [(2, (0 : Int)), (9, 0), (9, 0), (9, 0), (9, 0)] [] := by
  unfold f_X10_says_25 at h
  refine ev_aload_n dX10_says_25 rfl (by decide) ?_
  refine ev_bipush dX10_says_26 (by decide) (by decide) ?_
  obtain ⟨v17, hc18, h⟩ := bind_of h
  refine ev_invV_v (k := (0 : Int)) (av := [(0, (-52 : Int))]) (st := []) (v := (0, v17.1)) (τ := v17.2) dX10_says_28 ml_X10_90 mv_X10_refuse (T := TX10) (ci := 9) rfl sp0 (by decide) (by decide) rfl ⟨Nat.le_of_ble_eq_true rfl, Nat.le_of_ble_eq_true rfl⟩ (Nat.le_of_ble_eq_true rfl) (c_X10_refuse hc18) ?_
  obtain rfl := Option.some.inj h
  dsimp only
  exact ev_iret dX10_says_31 rfl rfl
set_option maxHeartbeats 4000000 in
set_option maxRecDepth 20000 in
theorem e_X10_says_90 (σ : Mem)  {q : (Int × Mem)} (h : f_X10_says_90 σ  = some q) : Ev M_X10_says 210 210 (some (0, q.1), rho, q.2) 90 210 rho σ [(2, (0 : Int)), (9, 0), (9, 0), (9, 0), (9, 0)] [] := by
  unfold f_X10_says_90 at h
  refine ev_aload_n dX10_says_90 rfl (by decide) ?_
  refine ev_bipush dX10_says_91 (by decide) (by decide) ?_
  obtain ⟨v19, hc20, h⟩ := bind_of h
  refine ev_invV_v (k := (0 : Int)) (av := [(0, (-53 : Int))]) (st := []) (v := (0, v19.1)) (τ := v19.2) dX10_says_93 ml_X10_90 mv_X10_refuse (T := TX10) (ci := 9) rfl sp0 (by decide) (by decide) rfl ⟨Nat.le_of_ble_eq_true rfl, Nat.le_of_ble_eq_true rfl⟩ (Nat.le_of_ble_eq_true rfl) (c_X10_refuse hc20) ?_
  obtain rfl := Option.some.inj h
  dsimp only
  exact ev_iret dX10_says_96 rfl rfl
set_option maxHeartbeats 4000000 in
set_option maxRecDepth 20000 in
theorem c_X10_says {σ : Mem} {x1 x2 x3 : Int}  {q : (Int × Mem)} (h : f_X10_says σ x1 x2 x3 = some q) : Ms yX10_says M_X10_says 210 210 [(2, (0 : Int)), (0, x1), (0, x2), (0, x3)] rho σ (some (0, q.1), rho, q.2) := by
  refine Ms.of 1 (by decide +kernel) rfl (fun z => absurd z (by decide)) (fun _ _ _ => trivial) rfl rfl ?_
  unfold f_X10_says at h
  show Ev M_X10_says 210 210 _ 0 210 rho σ [(2, (0 : Int)), (0, x1), (0, x2), (0, x3), (9, 0)] []
  refine ev_iload_n dX10_says_0 rfl ?_
  obtain ⟨v1, hc2, h⟩ := bind_of h
  refine ev_invS_v (av := [(0, x1)]) (st := []) (v := (0, v1)) (τ := σ) dX10_says_1 ml_X10_83 mt_X6_isShelf rfl ⟨Nat.le_of_ble_eq_true rfl, Nat.le_of_ble_eq_true rfl⟩ (Nat.le_of_ble_eq_true rfl) (c_X6_isShelf hc2) ?_
  refine ev_if_eq (tgt := 25) dX10_says_4 rfl h (fun cb h => ?_) (fun cb h => ?_)
  · exact ev_sub (L2 := [(2, (0 : Int)), (9, 0), (9, 0), (9, 0), (9, 0)]) (e_X10_says_25 σ h) ⟨.inr rfl, .inl rfl, .inl rfl, .inl rfl, .inl rfl, trivial⟩
  refine ev_iload_n dX10_says_7 rfl ?_
  obtain ⟨v3, hc4, h⟩ := bind_of h
  refine ev_invS_v (av := [(0, x2)]) (st := []) (v := (0, v3)) (τ := σ) dX10_says_8 ml_X10_131 mt_X2_isKind rfl ⟨Nat.le_of_ble_eq_true rfl, Nat.le_of_ble_eq_true rfl⟩ (Nat.le_of_ble_eq_true rfl) (c_X2_isKind hc4) ?_
  refine ev_if_eq (tgt := 25) dX10_says_11 rfl h (fun cb h => ?_) (fun cb h => ?_)
  · exact ev_sub (L2 := [(2, (0 : Int)), (9, 0), (9, 0), (9, 0), (9, 0)]) (e_X10_says_25 σ h) ⟨.inr rfl, .inl rfl, .inl rfl, .inl rfl, .inl rfl, trivial⟩
  refine ev_iload_n dX10_says_14 rfl ?_
  refine ev_iconst dX10_says_15 (by decide) ?_
  refine ev_icmp_lt (tgt := 25) dX10_says_16 rfl h (fun cb h => ?_) (fun cb h => ?_)
  · exact ev_sub (L2 := [(2, (0 : Int)), (9, 0), (9, 0), (9, 0), (9, 0)]) (e_X10_says_25 σ h) ⟨.inr rfl, .inl rfl, .inl rfl, .inl rfl, .inl rfl, trivial⟩
  refine ev_iload_n dX10_says_19 rfl ?_
  refine ev_bipush dX10_says_20 (by decide) (by decide) ?_
  refine ev_icmp_le (tgt := 32) dX10_says_22 rfl h (fun cb h => ?_) (fun cb h => ?_)
  · refine ev_aload_n dX10_says_32 rfl (by decide) ?_
    refine ev_getf (j := 5) (t := 2) (x := (30 : Int)) dX10_says_33 cf_X10 wf_X10_32 sp0 (by decide) (by decide) rfl (by decide) (rp0_5 _) ?_
    refine ev_iload_n dX10_says_36 rfl ?_
    obtain ⟨v5, hc6, h⟩ := bind_of h
    refine ev_invV_v (k := (30 : Int)) (av := [(0, x1)]) (st := []) (v := (0, v5)) (τ := σ) dX10_says_37 ml_X10_109 mv_X6_holding (T := TX6) (ci := 5) rfl sp30 (by decide) (by decide) rfl ⟨Nat.le_of_ble_eq_true rfl, Nat.le_of_ble_eq_true rfl⟩ (Nat.le_of_ble_eq_true rfl) (c_X6_holding hc6) ?_
    refine ev_iconst dX10_says_40 (by decide) ?_
    refine ev_icmp_ne (tgt := 51) dX10_says_41 rfl h (fun cb h => ?_) (fun cb h => ?_)
    · refine ev_aload_n dX10_says_51 rfl (by decide) ?_
      refine ev_getf (j := 5) (t := 2) (x := (30 : Int)) dX10_says_52 cf_X10 wf_X10_32 sp0 (by decide) (by decide) rfl (by decide) (rp0_5 _) ?_
      refine ev_iload_n dX10_says_55 rfl ?_
      obtain ⟨v7, hc8, h⟩ := bind_of h
      refine ev_invV_v (k := (30 : Int)) (av := [(0, x1)]) (st := []) (v := (0, v7)) (τ := σ) dX10_says_56 ml_X10_136 mv_X6_candOn (T := TX6) (ci := 5) rfl sp30 (by decide) (by decide) rfl ⟨Nat.le_of_ble_eq_true rfl, Nat.le_of_ble_eq_true rfl⟩ (Nat.le_of_ble_eq_true rfl) (c_X6_candOn hc8) ?_
      refine ev_istore dX10_says_59 rfl (by decide) ?_
      show Ev _ _ _ _ 61 _ _ _ [(2, (0 : Int)), (0, x1), (0, x2), (0, x3), (0, v7)] _
      refine ev_aload_n dX10_says_61 rfl (by decide) ?_
      refine ev_getf (j := 0) (t := 2) (x := (1 : Int)) dX10_says_62 cf_X10 wf_X10_12 sp0 (by decide) (by decide) rfl (by decide) (rp0_0 _) ?_
      refine ev_iload dX10_says_65 rfl ?_
      obtain ⟨v9, hc10, h⟩ := bind_of h
      refine ev_invV_v (k := (1 : Int)) (av := [(0, v7)]) (st := []) (v := (0, v9)) (τ := σ) dX10_says_67 ml_X10_124 mv_X0_hasCand (T := TX0) (ci := 0) rfl sp1 (by decide) (by decide) rfl ⟨Nat.le_of_ble_eq_true rfl, Nat.le_of_ble_eq_true rfl⟩ (Nat.le_of_ble_eq_true rfl) (c_X0_hasCand hB1 hc10) ?_
      refine ev_if_eq (tgt := 90) dX10_says_70 rfl h (fun cb h => ?_) (fun cb h => ?_)
      · exact ev_sub (L2 := [(2, (0 : Int)), (9, 0), (9, 0), (9, 0), (9, 0)]) (e_X10_says_90 σ h) ⟨.inr rfl, .inl rfl, .inl rfl, .inl rfl, .inl rfl, trivial⟩
      refine ev_aload_n dX10_says_73 rfl (by decide) ?_
      refine ev_getf (j := 0) (t := 2) (x := (1 : Int)) dX10_says_74 cf_X10 wf_X10_12 sp0 (by decide) (by decide) rfl (by decide) (rp0_0 _) ?_
      refine ev_getf (j := 3) (t := 2) (x := (5 : Int)) dX10_says_77 cf_X0 wf_X10_139 sp1 (by decide) (by decide) rfl (by decide) (rp1_3 _) ?_
      refine ev_iload dX10_says_80 rfl ?_
      refine ev_iald dX10_says_82 sp5 (by decide) (by decide) h (fun h => ?_)
      refine ev_iload_n dX10_says_83 rfl ?_
      obtain ⟨v11, hc12, h⟩ := bind_of h
      refine ev_invS_v (av := [(0, (σ (5 : Int) v7)), (0, x2)]) (st := []) (v := (0, v11)) (τ := σ) dX10_says_84 ml_X10_142 mt_X2_isUnder rfl ⟨Nat.le_of_ble_eq_true rfl, Nat.le_of_ble_eq_true rfl⟩ (Nat.le_of_ble_eq_true rfl) (c_X2_isUnder hc12) ?_
      refine ev_if_ne (tgt := 97) dX10_says_87 rfl h (fun cb h => ?_) (fun cb h => ?_)
      · refine ev_iload_n dX10_says_97 rfl ?_
        refine ev_aload_n dX10_says_98 rfl (by decide) ?_
        refine ev_getf (j := 0) (t := 2) (x := (1 : Int)) dX10_says_99 cf_X10 wf_X10_12 sp0 (by decide) (by decide) rfl (by decide) (rp0_0 _) ?_
        refine ev_getf (j := 3) (t := 2) (x := (5 : Int)) dX10_says_102 cf_X0 wf_X10_139 sp1 (by decide) (by decide) rfl (by decide) (rp1_3 _) ?_
        refine ev_iload dX10_says_105 rfl ?_
        refine ev_iald dX10_says_107 sp5 (by decide) (by decide) h (fun h => ?_)
        refine ev_aload_n dX10_says_108 rfl (by decide) ?_
        refine ev_getf (j := 0) (t := 2) (x := (1 : Int)) dX10_says_109 cf_X10 wf_X10_12 sp0 (by decide) (by decide) rfl (by decide) (rp0_0 _) ?_
        refine ev_getf (j := 4) (t := 2) (x := (6 : Int)) dX10_says_112 cf_X0 wf_X10_145 sp1 (by decide) (by decide) rfl (by decide) (rp1_4 _) ?_
        refine ev_iload dX10_says_115 rfl ?_
        refine ev_iald dX10_says_117 sp6 (by decide) (by decide) h (fun h => ?_)
        show Ev _ _ _ _ 118 _ _ _ _ _
        refine ev_iload_n dX10_says_118 rfl ?_
        obtain ⟨v13, hc14, h⟩ := bind_of h
        refine ev_invS_v (av := [(0, x2), (0, (σ (5 : Int) v7)), (0, (σ (6 : Int) v7)), (0, x3)]) (st := []) (v := (0, v13)) (τ := σ) dX10_says_119 ml_X10_148 mt_X2_word rfl ⟨Nat.le_of_ble_eq_true rfl, Nat.le_of_ble_eq_true rfl⟩ (Nat.le_of_ble_eq_true rfl) (c_X2_word hc14) ?_
        obtain rfl := Option.some.inj h
        dsimp only
        exact ev_iret dX10_says_122 rfl rfl
      exact ev_sub (L2 := [(2, (0 : Int)), (9, 0), (9, 0), (9, 0), (9, 0)]) (e_X10_says_90 σ h) ⟨.inr rfl, .inl rfl, .inl rfl, .inl rfl, .inl rfl, trivial⟩
    refine ev_aload_n dX10_says_44 rfl (by decide) ?_
    refine ev_bipush dX10_says_45 (by decide) (by decide) ?_
    obtain ⟨v15, hc16, h⟩ := bind_of h
    refine ev_invV_v (k := (0 : Int)) (av := [(0, (-54 : Int))]) (st := []) (v := (0, v15.1)) (τ := v15.2) dX10_says_47 ml_X10_90 mv_X10_refuse (T := TX10) (ci := 9) rfl sp0 (by decide) (by decide) rfl ⟨Nat.le_of_ble_eq_true rfl, Nat.le_of_ble_eq_true rfl⟩ (Nat.le_of_ble_eq_true rfl) (c_X10_refuse hc16) ?_
    obtain rfl := Option.some.inj h
    dsimp only
    exact ev_iret dX10_says_50 rfl rfl
  exact ev_sub (L2 := [(2, (0 : Int)), (9, 0), (9, 0), (9, 0), (9, 0)]) (e_X10_says_25 σ h) ⟨.inr rfl, .inl rfl, .inl rfl, .inl rfl, .inl rfl, trivial⟩
set_option maxHeartbeats 4000000 in
set_option maxRecDepth 20000 in
theorem c_X10_isDay {σ : Mem} {x0 : Int}  {q : Int} (h : f_X10_isDay σ x0 = some q) : Ms yX10_isDay M_X10_isDay 210 210 [(0, x0)] rho σ (some (0, q), rho, σ) := by
  refine Ms.of 0 (by decide +kernel) rfl (fun z => absurd z (by decide)) (fun _ _ _ => trivial) rfl rfl ?_
  unfold f_X10_isDay at h
  show Ev M_X10_isDay 210 210 _ 0 210 rho σ [(0, x0)] []
  refine ev_iload_n dX10_isDay_0 rfl ?_
  refine ev_if_lt (tgt := 13) dX10_isDay_1 rfl h (fun cb h => ?_) (fun cb h => ?_)
  · refine ev_iconst dX10_isDay_13 (by decide) ?_
    obtain rfl := Option.some.inj h
    exact ev_zret dX10_isDay_14 rfl (chk_pos (.inl rfl))
  refine ev_iload_n dX10_isDay_4 rfl ?_
  refine ev_iconst dX10_isDay_5 (by decide) ?_
  refine ev_icmp_ge (tgt := 13) dX10_isDay_6 rfl h (fun cb h => ?_) (fun cb h => ?_)
  · refine ev_iconst dX10_isDay_13 (by decide) ?_
    obtain rfl := Option.some.inj h
    exact ev_zret dX10_isDay_14 rfl (chk_pos (.inl rfl))
  refine ev_iconst dX10_isDay_9 (by decide) ?_
  refine ev_goto (tgt := 14) dX10_isDay_10 rfl ?_
  obtain rfl := Option.some.inj h
  exact ev_zret dX10_isDay_14 rfl (chk_pos (.inr rfl))
set_option maxHeartbeats 4000000 in
set_option maxRecDepth 20000 in
theorem c_X10_isSlot {σ : Mem} {x0 : Int}  {q : Int} (h : f_X10_isSlot σ x0 = some q) : Ms yX10_isSlot M_X10_isSlot 210 210 [(0, x0)] rho σ (some (0, q), rho, σ) := by
  refine Ms.of 0 (by decide +kernel) rfl (fun z => absurd z (by decide)) (fun _ _ _ => trivial) rfl rfl ?_
  unfold f_X10_isSlot at h
  show Ev M_X10_isSlot 210 210 _ 0 210 rho σ [(0, x0)] []
  refine ev_iload_n dX10_isSlot_0 rfl ?_
  refine ev_if_lt (tgt := 14) dX10_isSlot_1 rfl h (fun cb h => ?_) (fun cb h => ?_)
  · refine ev_iconst dX10_isSlot_14 (by decide) ?_
    obtain rfl := Option.some.inj h
    exact ev_zret dX10_isSlot_15 rfl (chk_pos (.inl rfl))
  refine ev_iload_n dX10_isSlot_4 rfl ?_
  refine ev_bipush dX10_isSlot_5 (by decide) (by decide) ?_
  refine ev_icmp_ge (tgt := 14) dX10_isSlot_7 rfl h (fun cb h => ?_) (fun cb h => ?_)
  · refine ev_iconst dX10_isSlot_14 (by decide) ?_
    obtain rfl := Option.some.inj h
    exact ev_zret dX10_isSlot_15 rfl (chk_pos (.inl rfl))
  refine ev_iconst dX10_isSlot_10 (by decide) ?_
  refine ev_goto (tgt := 15) dX10_isSlot_11 rfl ?_
  obtain rfl := Option.some.inj h
  exact ev_zret dX10_isSlot_15 rfl (chk_pos (.inr rfl))
set_option maxHeartbeats 4000000 in
set_option maxRecDepth 20000 in
theorem e_X10_paper_25 (σ : Mem)  {q : (Int × Mem)} (h : f_X10_paper_25 σ  = some q) : Ev M_X10_paper 210 210 (some (0, q.1), rho, q.2) 25 210 rho σ [(2, (0 : Int)), (9, 0), (9, 0), (9, 0)] [] := by
  unfold f_X10_paper_25 at h
  refine ev_aload_n dX10_paper_25 rfl (by decide) ?_
  refine ev_bipush dX10_paper_26 (by decide) (by decide) ?_
  obtain ⟨v9, hc10, h⟩ := bind_of h
  refine ev_invV_v (k := (0 : Int)) (av := [(0, (-52 : Int))]) (st := []) (v := (0, v9.1)) (τ := v9.2) dX10_paper_28 ml_X10_90 mv_X10_refuse (T := TX10) (ci := 9) rfl sp0 (by decide) (by decide) rfl ⟨Nat.le_of_ble_eq_true rfl, Nat.le_of_ble_eq_true rfl⟩ (Nat.le_of_ble_eq_true rfl) (c_X10_refuse hc10) ?_
  obtain rfl := Option.some.inj h
  dsimp only
  exact ev_iret dX10_paper_31 rfl rfl
set_option maxHeartbeats 4000000 in
set_option maxRecDepth 20000 in
theorem c_X10_paper {σ : Mem} {x1 x2 x3 : Int}  {q : (Int × Mem)} (h : f_X10_paper σ x1 x2 x3 = some q) : Ms yX10_paper M_X10_paper 210 210 [(2, (0 : Int)), (0, x1), (0, x2), (0, x3)] rho σ (some (0, q.1), rho, q.2) := by
  refine Ms.of 0 (by decide +kernel) rfl (fun z => absurd z (by decide)) (fun _ _ _ => trivial) rfl rfl ?_
  unfold f_X10_paper at h
  show Ev M_X10_paper 210 210 _ 0 210 rho σ [(2, (0 : Int)), (0, x1), (0, x2), (0, x3)] []
  refine ev_iload_n dX10_paper_0 rfl ?_
  obtain ⟨v1, hc2, h⟩ := bind_of h
  refine ev_invS_v (av := [(0, x1)]) (st := []) (v := (0, v1)) (τ := σ) dX10_paper_1 ml_X10_152 mt_X10_isDay rfl ⟨Nat.le_of_ble_eq_true rfl, Nat.le_of_ble_eq_true rfl⟩ (Nat.le_of_ble_eq_true rfl) (c_X10_isDay hc2) ?_
  refine ev_if_eq (tgt := 25) dX10_paper_4 rfl h (fun cb h => ?_) (fun cb h => ?_)
  · exact ev_sub (L2 := [(2, (0 : Int)), (9, 0), (9, 0), (9, 0)]) (e_X10_paper_25 σ h) ⟨.inr rfl, .inl rfl, .inl rfl, .inl rfl, trivial⟩
  refine ev_iload_n dX10_paper_7 rfl ?_
  obtain ⟨v3, hc4, h⟩ := bind_of h
  refine ev_invS_v (av := [(0, x2)]) (st := []) (v := (0, v3)) (τ := σ) dX10_paper_8 ml_X10_155 mt_X10_isSlot rfl ⟨Nat.le_of_ble_eq_true rfl, Nat.le_of_ble_eq_true rfl⟩ (Nat.le_of_ble_eq_true rfl) (c_X10_isSlot hc4) ?_
  refine ev_if_eq (tgt := 25) dX10_paper_11 rfl h (fun cb h => ?_) (fun cb h => ?_)
  · exact ev_sub (L2 := [(2, (0 : Int)), (9, 0), (9, 0), (9, 0)]) (e_X10_paper_25 σ h) ⟨.inr rfl, .inl rfl, .inl rfl, .inl rfl, trivial⟩
  refine ev_iload_n dX10_paper_14 rfl ?_
  refine ev_iconst dX10_paper_15 (by decide) ?_
  refine ev_icmp_lt (tgt := 25) dX10_paper_16 rfl h (fun cb h => ?_) (fun cb h => ?_)
  · exact ev_sub (L2 := [(2, (0 : Int)), (9, 0), (9, 0), (9, 0)]) (e_X10_paper_25 σ h) ⟨.inr rfl, .inl rfl, .inl rfl, .inl rfl, trivial⟩
  refine ev_iload_n dX10_paper_19 rfl ?_
  refine ev_bipush dX10_paper_20 (by decide) (by decide) ?_
  refine ev_icmp_le (tgt := 32) dX10_paper_22 rfl h (fun cb h => ?_) (fun cb h => ?_)
  · refine ev_aload_n dX10_paper_32 rfl (by decide) ?_
    refine ev_getf (j := 0) (t := 2) (x := (1 : Int)) dX10_paper_33 cf_X10 wf_X10_12 sp0 (by decide) (by decide) rfl (by decide) (rp0_0 _) ?_
    refine ev_getf (j := 8) (t := 0) (x := (σ (1 : Int) 8)) dX10_paper_36 cf_X0 wf_X10_158 sp1 (by decide) (by decide) rfl (by decide) rfl ?_
    refine ev_bipush dX10_paper_39 (by decide) (by decide) ?_
    refine ev_icmp_lt (tgt := 51) dX10_paper_41 rfl h (fun cb h => ?_) (fun cb h => ?_)
    · refine ev_aload_n dX10_paper_51 rfl (by decide) ?_
      refine ev_getf (j := 0) (t := 2) (x := (1 : Int)) dX10_paper_52 cf_X10 wf_X10_12 sp0 (by decide) (by decide) rfl (by decide) (rp0_0 _) ?_
      refine ev_iload_n dX10_paper_55 rfl ?_
      refine ev_iload_n dX10_paper_56 rfl ?_
      refine ev_iload_n dX10_paper_57 rfl ?_
      obtain ⟨v5, hc6, h⟩ := bind_of h
      refine ev_invV_v (k := (1 : Int)) (av := [(0, x1), (0, x2), (0, x3)]) (st := []) (v := (0, v5.1)) (τ := v5.2) dX10_paper_58 ml_X10_162 mv_X0_addPaper (T := TX0) (ci := 0) rfl sp1 (by decide) (by decide) rfl ⟨Nat.le_of_ble_eq_true rfl, Nat.le_of_ble_eq_true rfl⟩ (Nat.le_of_ble_eq_true rfl) (c_X0_addPaper hB1 hc6) ?_
      obtain rfl := Option.some.inj h
      dsimp only
      exact ev_iret dX10_paper_61 rfl rfl
    refine ev_aload_n dX10_paper_44 rfl (by decide) ?_
    refine ev_bipush dX10_paper_45 (by decide) (by decide) ?_
    obtain ⟨v7, hc8, h⟩ := bind_of h
    refine ev_invV_v (k := (0 : Int)) (av := [(0, (-56 : Int))]) (st := []) (v := (0, v7.1)) (τ := v7.2) dX10_paper_47 ml_X10_90 mv_X10_refuse (T := TX10) (ci := 9) rfl sp0 (by decide) (by decide) rfl ⟨Nat.le_of_ble_eq_true rfl, Nat.le_of_ble_eq_true rfl⟩ (Nat.le_of_ble_eq_true rfl) (c_X10_refuse hc8) ?_
    obtain rfl := Option.some.inj h
    dsimp only
    exact ev_iret dX10_paper_50 rfl rfl
  exact ev_sub (L2 := [(2, (0 : Int)), (9, 0), (9, 0), (9, 0)]) (e_X10_paper_25 σ h) ⟨.inr rfl, .inl rfl, .inl rfl, .inl rfl, trivial⟩
set_option maxHeartbeats 4000000 in
set_option maxRecDepth 20000 in
theorem e_X10_starts_19 (σ : Mem)  {q : (Int × Mem)} (h : f_X10_starts_19 σ  = some q) : Ev M_X10_starts 210 210 (some (0, q.1), rho, q.2) 19 210 rho σ [(2, (0 : Int)), (9, 0), (9, 0), (9, 0)] [] := by
  unfold f_X10_starts_19 at h
  refine ev_aload_n dX10_starts_19 rfl (by decide) ?_
  refine ev_bipush dX10_starts_20 (by decide) (by decide) ?_
  obtain ⟨v9, hc10, h⟩ := bind_of h
  refine ev_invV_v (k := (0 : Int)) (av := [(0, (-52 : Int))]) (st := []) (v := (0, v9.1)) (τ := v9.2) dX10_starts_22 ml_X10_90 mv_X10_refuse (T := TX10) (ci := 9) rfl sp0 (by decide) (by decide) rfl ⟨Nat.le_of_ble_eq_true rfl, Nat.le_of_ble_eq_true rfl⟩ (Nat.le_of_ble_eq_true rfl) (c_X10_refuse hc10) ?_
  obtain rfl := Option.some.inj h
  dsimp only
  exact ev_iret dX10_starts_25 rfl rfl
set_option maxHeartbeats 4000000 in
set_option maxRecDepth 20000 in
theorem c_X10_starts {σ : Mem} {x1 x2 : Int}  {q : (Int × Mem)} (h : f_X10_starts σ x1 x2 = some q) : Ms yX10_starts M_X10_starts 210 210 [(2, (0 : Int)), (0, x1), (0, x2)] rho σ (some (0, q.1), rho, q.2) := by
  refine Ms.of 1 (by decide +kernel) rfl (fun z => absurd z (by decide)) (fun _ _ _ => trivial) rfl rfl ?_
  unfold f_X10_starts at h
  show Ev M_X10_starts 210 210 _ 0 210 rho σ [(2, (0 : Int)), (0, x1), (0, x2), (9, 0)] []
  refine ev_aload_n dX10_starts_0 rfl (by decide) ?_
  refine ev_getf (j := 0) (t := 2) (x := (1 : Int)) dX10_starts_1 cf_X10 wf_X10_12 sp0 (by decide) (by decide) rfl (by decide) (rp0_0 _) ?_
  refine ev_iload_n dX10_starts_4 rfl ?_
  refine ev_i2lk dX10_starts_5 ?_
  obtain ⟨v1, hc2, h⟩ := bind_of h
  refine ev_invV_v (k := (1 : Int)) (av := [(1, x1)]) (st := []) (v := (0, v1)) (τ := σ) dX10_starts_6 ml_X10_166 mv_X0_hasPaper (T := TX0) (ci := 0) rfl sp1 (by decide) (by decide) rfl ⟨Nat.le_of_ble_eq_true rfl, Nat.le_of_ble_eq_true rfl⟩ (Nat.le_of_ble_eq_true rfl) (c_X0_hasPaper hB1 hc2) ?_
  refine ev_if_eq (tgt := 19) dX10_starts_9 rfl h (fun cb h => ?_) (fun cb h => ?_)
  · exact ev_sub (L2 := [(2, (0 : Int)), (9, 0), (9, 0), (9, 0)]) (e_X10_starts_19 σ h) ⟨.inr rfl, .inl rfl, .inl rfl, .inl rfl, trivial⟩
  refine ev_iload_n dX10_starts_12 rfl ?_
  obtain ⟨v3, hc4, h⟩ := bind_of h
  refine ev_invS_v (av := [(0, x2)]) (st := []) (v := (0, v3)) (τ := σ) dX10_starts_13 ml_X10_155 mt_X10_isSlot rfl ⟨Nat.le_of_ble_eq_true rfl, Nat.le_of_ble_eq_true rfl⟩ (Nat.le_of_ble_eq_true rfl) (c_X10_isSlot hc4) ?_
  refine ev_if_ne (tgt := 26) dX10_starts_16 rfl h (fun cb h => ?_) (fun cb h => ?_)
  · refine ev_aload_n dX10_starts_26 rfl (by decide) ?_
    refine ev_getf (j := 0) (t := 2) (x := (1 : Int)) dX10_starts_27 cf_X10 wf_X10_12 sp0 (by decide) (by decide) rfl (by decide) (rp0_0 _) ?_
    refine ev_getf (j := 1) (t := 2) (x := (3 : Int)) dX10_starts_30 cf_X0 wf_X10_170 sp1 (by decide) (by decide) rfl (by decide) (rp1_1 _) ?_
    refine ev_iload_n dX10_starts_33 rfl ?_
    refine ev_iald dX10_starts_34 sp3 (by decide) (by decide) h (fun h => ?_)
    refine ev_istore_nG dX10_starts_35 h rfl (by decide) (fun v5 h => ?_)
    show Ev _ _ _ _ 36 _ _ _ [(2, (0 : Int)), (0, x1), (0, x2), (0, v5)] _
    refine ev_aload_n dX10_starts_36 rfl (by decide) ?_
    refine ev_getf (j := 0) (t := 2) (x := (1 : Int)) dX10_starts_37 cf_X10 wf_X10_12 sp0 (by decide) (by decide) rfl (by decide) (rp0_0 _) ?_
    refine ev_getf (j := 1) (t := 2) (x := (3 : Int)) dX10_starts_40 cf_X0 wf_X10_170 sp1 (by decide) (by decide) rfl (by decide) (rp1_1 _) ?_
    refine ev_iload_n dX10_starts_43 rfl ?_
    refine ev_iload_n dX10_starts_44 rfl ?_
    show Ev _ _ _ _ 45 _ _ _ _ _
    refine ev_iastG dX10_starts_45 sp3 (by decide) (by decide) h (fun σ6 h => ?_)
    refine ev_aload_n dX10_starts_46 rfl (by decide) ?_
    refine ev_getf (j := 8) (t := 2) (x := (43 : Int)) dX10_starts_47 cf_X10 wf_X10_52 sp0 (by decide) (by decide) rfl (by decide) (rp0_8 _) ?_
    obtain ⟨σ7, hc8, h⟩ := bind_of h
    refine ev_invV_n (k := (43 : Int)) (av := []) (st := []) (τ := σ7) dX10_starts_50 ml_X10_173 mv_X9_forgetAll (T := TX9) (ci := 8) rfl sp43 (by decide) (by decide) rfl ⟨Nat.le_of_ble_eq_true rfl, Nat.le_of_ble_eq_true rfl⟩ (Nat.le_of_ble_eq_true rfl) (c_X9_forgetAll hc8) ?_
    refine ev_iload_n dX10_starts_53 rfl ?_
    obtain rfl := Option.some.inj h
    dsimp only
    exact ev_iret dX10_starts_54 rfl rfl
  exact ev_sub (L2 := [(2, (0 : Int)), (9, 0), (9, 0), (9, 0)]) (e_X10_starts_19 σ h) ⟨.inr rfl, .inl rfl, .inl rfl, .inl rfl, trivial⟩
set_option maxHeartbeats 4000000 in
set_option maxRecDepth 20000 in
theorem e_X10_cand_17 (σ : Mem)  {q : (Int × Mem)} (h : f_X10_cand_17 σ  = some q) : Ev M_X10_cand 210 210 (some (0, q.1), rho, q.2) 17 210 rho σ [(2, (0 : Int)), (9, 0), (9, 0), (9, 0)] [] := by
  unfold f_X10_cand_17 at h
  refine ev_aload_n dX10_cand_17 rfl (by decide) ?_
  refine ev_bipush dX10_cand_18 (by decide) (by decide) ?_
  obtain ⟨v10, hc11, h⟩ := bind_of h
  refine ev_invV_v (k := (0 : Int)) (av := [(0, (-52 : Int))]) (st := []) (v := (0, v10.1)) (τ := v10.2) dX10_cand_20 ml_X10_90 mv_X10_refuse (T := TX10) (ci := 9) rfl sp0 (by decide) (by decide) rfl ⟨Nat.le_of_ble_eq_true rfl, Nat.le_of_ble_eq_true rfl⟩ (Nat.le_of_ble_eq_true rfl) (c_X10_refuse hc11) ?_
  obtain rfl := Option.some.inj h
  dsimp only
  exact ev_iret dX10_cand_23 rfl rfl
set_option maxHeartbeats 4000000 in
set_option maxRecDepth 20000 in
theorem c_X10_cand {σ : Mem} {x1 x2 : Int}  {q : (Int × Mem)} (h : f_X10_cand σ x1 x2 = some q) : Ms yX10_cand M_X10_cand 210 210 [(2, (0 : Int)), (0, x1), (0, x2)] rho σ (some (0, q.1), rho, q.2) := by
  refine Ms.of 1 (by decide +kernel) rfl (fun z => absurd z (by decide)) (fun _ _ _ => trivial) rfl rfl ?_
  unfold f_X10_cand at h
  show Ev M_X10_cand 210 210 _ 0 210 rho σ [(2, (0 : Int)), (0, x1), (0, x2), (9, 0)] []
  refine ev_iload_n dX10_cand_0 rfl ?_
  obtain ⟨v1, hc2, h⟩ := bind_of h
  refine ev_invS_v (av := [(0, x1)]) (st := []) (v := (0, v1)) (τ := σ) dX10_cand_1 ml_X10_131 mt_X2_isKind rfl ⟨Nat.le_of_ble_eq_true rfl, Nat.le_of_ble_eq_true rfl⟩ (Nat.le_of_ble_eq_true rfl) (c_X2_isKind hc2) ?_
  refine ev_if_eq (tgt := 17) dX10_cand_4 rfl h (fun cb h => ?_) (fun cb h => ?_)
  · exact ev_sub (L2 := [(2, (0 : Int)), (9, 0), (9, 0), (9, 0)]) (e_X10_cand_17 σ h) ⟨.inr rfl, .inl rfl, .inl rfl, .inl rfl, trivial⟩
  refine ev_iload_n dX10_cand_7 rfl ?_
  refine ev_if_lt (tgt := 17) dX10_cand_8 rfl h (fun cb h => ?_) (fun cb h => ?_)
  · exact ev_sub (L2 := [(2, (0 : Int)), (9, 0), (9, 0), (9, 0)]) (e_X10_cand_17 σ h) ⟨.inr rfl, .inl rfl, .inl rfl, .inl rfl, trivial⟩
  refine ev_iload_n dX10_cand_11 rfl ?_
  refine ev_bipush dX10_cand_12 (by decide) (by decide) ?_
  refine ev_icmp_le (tgt := 24) dX10_cand_14 rfl h (fun cb h => ?_) (fun cb h => ?_)
  · refine ev_aload_n dX10_cand_24 rfl (by decide) ?_
    refine ev_getf (j := 0) (t := 2) (x := (1 : Int)) dX10_cand_25 cf_X10 wf_X10_12 sp0 (by decide) (by decide) rfl (by decide) (rp0_0 _) ?_
    refine ev_getf (j := 9) (t := 0) (x := (σ (1 : Int) 9)) dX10_cand_28 cf_X0 wf_X10_176 sp1 (by decide) (by decide) rfl (by decide) rfl ?_
    refine ev_bipush dX10_cand_31 (by decide) (by decide) ?_
    refine ev_icmp_lt (tgt := 43) dX10_cand_33 rfl h (fun cb h => ?_) (fun cb h => ?_)
    · refine ev_aload_n dX10_cand_43 rfl (by decide) ?_
      refine ev_getf (j := 0) (t := 2) (x := (1 : Int)) dX10_cand_44 cf_X10 wf_X10_12 sp0 (by decide) (by decide) rfl (by decide) (rp0_0 _) ?_
      refine ev_iload_n dX10_cand_47 rfl ?_
      refine ev_iload_n dX10_cand_48 rfl ?_
      obtain ⟨v3, hc4, h⟩ := bind_of h
      refine ev_invV_v (k := (1 : Int)) (av := [(0, x1), (0, x2)]) (st := []) (v := (0, v3.1)) (τ := v3.2) dX10_cand_49 ml_X10_179 mv_X0_addCand (T := TX0) (ci := 0) rfl sp1 (by decide) (by decide) rfl ⟨Nat.le_of_ble_eq_true rfl, Nat.le_of_ble_eq_true rfl⟩ (Nat.le_of_ble_eq_true rfl) (c_X0_addCand hB1 hc4) ?_
      refine ev_istore_nG dX10_cand_52 h rfl (by decide) (fun v5 h => ?_)
      show Ev _ _ _ _ 53 _ _ _ [(2, (0 : Int)), (0, x1), (0, x2), (0, v5)] _
      refine ev_aload_n dX10_cand_53 rfl (by decide) ?_
      refine ev_getf (j := 8) (t := 2) (x := (43 : Int)) dX10_cand_54 cf_X10 wf_X10_52 sp0 (by decide) (by decide) rfl (by decide) (rp0_8 _) ?_
      refine ev_iload_n dX10_cand_57 rfl ?_
      obtain ⟨σ6, hc7, h⟩ := bind_of h
      refine ev_invV_n (k := (43 : Int)) (av := [(0, v5)]) (st := []) (τ := σ6) dX10_cand_58 ml_X10_183 mv_X9_forget (T := TX9) (ci := 8) rfl sp43 (by decide) (by decide) rfl ⟨Nat.le_of_ble_eq_true rfl, Nat.le_of_ble_eq_true rfl⟩ (Nat.le_of_ble_eq_true rfl) (c_X9_forget hc7) ?_
      refine ev_iload_n dX10_cand_61 rfl ?_
      show Ev _ _ _ _ 62 _ _ _ _ _
      obtain rfl := Option.some.inj h
      dsimp only
      exact ev_iret dX10_cand_62 rfl rfl
    refine ev_aload_n dX10_cand_36 rfl (by decide) ?_
    refine ev_bipush dX10_cand_37 (by decide) (by decide) ?_
    obtain ⟨v8, hc9, h⟩ := bind_of h
    refine ev_invV_v (k := (0 : Int)) (av := [(0, (-56 : Int))]) (st := []) (v := (0, v8.1)) (τ := v8.2) dX10_cand_39 ml_X10_90 mv_X10_refuse (T := TX10) (ci := 9) rfl sp0 (by decide) (by decide) rfl ⟨Nat.le_of_ble_eq_true rfl, Nat.le_of_ble_eq_true rfl⟩ (Nat.le_of_ble_eq_true rfl) (c_X10_refuse hc9) ?_
    obtain rfl := Option.some.inj h
    dsimp only
    exact ev_iret dX10_cand_42 rfl rfl
  exact ev_sub (L2 := [(2, (0 : Int)), (9, 0), (9, 0), (9, 0)]) (e_X10_cand_17 σ h) ⟨.inr rfl, .inl rfl, .inl rfl, .inl rfl, trivial⟩
set_option maxHeartbeats 4000000 in
set_option maxRecDepth 20000 in
theorem e_X10_isYesOrNo_9 (σ : Mem)  {q : Int} (h : f_X10_isYesOrNo_9 σ  = some q) : Ev M_X10_isYesOrNo 210 210 (some (0, q), rho, σ) 9 210 rho σ [(9, 0)] [] := by
  unfold f_X10_isYesOrNo_9 at h
  refine ev_iconst dX10_isYesOrNo_9 (by decide) ?_
  refine ev_goto (tgt := 14) dX10_isYesOrNo_10 rfl ?_
  obtain rfl := Option.some.inj h
  exact ev_zret dX10_isYesOrNo_14 rfl (chk_pos (.inr rfl))
set_option maxHeartbeats 4000000 in
set_option maxRecDepth 20000 in
theorem c_X10_isYesOrNo {σ : Mem} {x0 : Int}  {q : Int} (h : f_X10_isYesOrNo σ x0 = some q) : Ms yX10_isYesOrNo M_X10_isYesOrNo 210 210 [(0, x0)] rho σ (some (0, q), rho, σ) := by
  refine Ms.of 0 (by decide +kernel) rfl (fun z => absurd z (by decide)) (fun _ _ _ => trivial) rfl rfl ?_
  unfold f_X10_isYesOrNo at h
  show Ev M_X10_isYesOrNo 210 210 _ 0 210 rho σ [(0, x0)] []
  refine ev_iload_n dX10_isYesOrNo_0 rfl ?_
  refine ev_if_eq (tgt := 9) dX10_isYesOrNo_1 rfl h (fun cb h => ?_) (fun cb h => ?_)
  · exact ev_sub (L2 := [(9, 0)]) (e_X10_isYesOrNo_9 σ h) ⟨.inl rfl, trivial⟩
  refine ev_iload_n dX10_isYesOrNo_4 rfl ?_
  refine ev_iconst dX10_isYesOrNo_5 (by decide) ?_
  refine ev_icmp_ne (tgt := 13) dX10_isYesOrNo_6 rfl h (fun cb h => ?_) (fun cb h => ?_)
  · refine ev_iconst dX10_isYesOrNo_13 (by decide) ?_
    obtain rfl := Option.some.inj h
    exact ev_zret dX10_isYesOrNo_14 rfl (chk_pos (.inl rfl))
  exact ev_sub (L2 := [(9, 0)]) (e_X10_isYesOrNo_9 σ h) ⟨.inl rfl, trivial⟩
set_option maxHeartbeats 4000000 in
set_option maxRecDepth 20000 in
theorem e_X10_takes_30 (σ : Mem)  {q : (Int × Mem)} (h : f_X10_takes_30 σ  = some q) : Ev M_X10_takes 210 210 (some (0, q.1), rho, q.2) 30 210 rho σ [(2, (0 : Int)), (9, 0), (9, 0), (9, 0), (9, 0)] [] := by
  unfold f_X10_takes_30 at h
  refine ev_aload_n dX10_takes_30 rfl (by decide) ?_
  refine ev_bipush dX10_takes_31 (by decide) (by decide) ?_
  obtain ⟨v9, hc10, h⟩ := bind_of h
  refine ev_invV_v (k := (0 : Int)) (av := [(0, (-52 : Int))]) (st := []) (v := (0, v9.1)) (τ := v9.2) dX10_takes_33 ml_X10_90 mv_X10_refuse (T := TX10) (ci := 9) rfl sp0 (by decide) (by decide) rfl ⟨Nat.le_of_ble_eq_true rfl, Nat.le_of_ble_eq_true rfl⟩ (Nat.le_of_ble_eq_true rfl) (c_X10_refuse hc10) ?_
  obtain rfl := Option.some.inj h
  dsimp only
  exact ev_iret dX10_takes_36 rfl rfl
set_option maxHeartbeats 4000000 in
set_option maxRecDepth 20000 in
theorem e_X10_takes_54 (σ : Mem) (x1 x2 x3 s0 : Int)  {q : (Int × Mem)} (h : f_X10_takes_54 σ x1 x2 x3 s0 = some q) : Ev M_X10_takes 210 210 (some (0, q.1), rho, q.2) 54 210 rho σ [(2, (0 : Int)), (0, x1), (0, x2), (0, x3), (9, 0)] [(0, s0)] := by
  unfold f_X10_takes_54 at h
  refine ev_istore dX10_takes_54 rfl (by decide) ?_
  show Ev _ _ _ _ 56 _ _ _ [(2, (0 : Int)), (0, x1), (0, x2), (0, x3), (0, s0)] _
  refine ev_iload_n dX10_takes_56 rfl ?_
  refine ev_iload dX10_takes_57 rfl ?_
  refine ev_icmp_eq (tgt := 98) dX10_takes_59 rfl h (fun cb h => ?_) (fun cb h => ?_)
  · refine ev_iload dX10_takes_98 rfl ?_
    obtain rfl := Option.some.inj h
    dsimp only
    exact ev_iret dX10_takes_100 rfl rfl
  refine ev_aload_n dX10_takes_62 rfl (by decide) ?_
  refine ev_getf (j := 0) (t := 2) (x := (1 : Int)) dX10_takes_63 cf_X10 wf_X10_12 sp0 (by decide) (by decide) rfl (by decide) (rp0_0 _) ?_
  refine ev_iload_n dX10_takes_66 rfl ?_
  refine ev_iload_n dX10_takes_67 rfl ?_
  obtain ⟨v11, hc12, h⟩ := bind_of h
  refine ev_invV_v (k := (1 : Int)) (av := [(0, x1), (0, x2)]) (st := []) (v := (0, v11)) (τ := σ) dX10_takes_68 ml_X10_193 mv_X0_mayFlip (T := TX0) (ci := 0) rfl sp1 (by decide) (by decide) rfl ⟨Nat.le_of_ble_eq_true rfl, Nat.le_of_ble_eq_true rfl⟩ (Nat.le_of_ble_eq_true rfl) (c_X0_mayFlip hB1 hc12) ?_
  refine ev_if_ne (tgt := 81) dX10_takes_71 rfl h (fun cb h => ?_) (fun cb h => ?_)
  · refine ev_aload_n dX10_takes_81 rfl (by decide) ?_
    refine ev_getf (j := 0) (t := 2) (x := (1 : Int)) dX10_takes_82 cf_X10 wf_X10_12 sp0 (by decide) (by decide) rfl (by decide) (rp0_0 _) ?_
    refine ev_iload_n dX10_takes_85 rfl ?_
    refine ev_iload_n dX10_takes_86 rfl ?_
    obtain ⟨σ13, hc14, h⟩ := bind_of h
    refine ev_invV_n (k := (1 : Int)) (av := [(0, x1), (0, x2)]) (st := []) (τ := σ13) dX10_takes_87 ml_X10_196 mv_X0_flip (T := TX0) (ci := 0) rfl sp1 (by decide) (by decide) rfl ⟨Nat.le_of_ble_eq_true rfl, Nat.le_of_ble_eq_true rfl⟩ (Nat.le_of_ble_eq_true rfl) (c_X0_flip hB1 hc14) ?_
    refine ev_aload_n dX10_takes_90 rfl (by decide) ?_
    refine ev_getf (j := 8) (t := 2) (x := (43 : Int)) dX10_takes_91 cf_X10 wf_X10_52 sp0 (by decide) (by decide) rfl (by decide) (rp0_8 _) ?_
    refine ev_iload_n dX10_takes_94 rfl ?_
    obtain ⟨σ15, hc16, h⟩ := bind_of h
    refine ev_invV_n (k := (43 : Int)) (av := [(0, x1)]) (st := []) (τ := σ15) dX10_takes_95 ml_X10_183 mv_X9_forget (T := TX9) (ci := 8) rfl sp43 (by decide) (by decide) rfl ⟨Nat.le_of_ble_eq_true rfl, Nat.le_of_ble_eq_true rfl⟩ (Nat.le_of_ble_eq_true rfl) (c_X9_forget hc16) ?_
    refine ev_iload dX10_takes_98 rfl ?_
    obtain rfl := Option.some.inj h
    dsimp only
    exact ev_iret dX10_takes_100 rfl rfl
  refine ev_aload_n dX10_takes_74 rfl (by decide) ?_
  refine ev_bipush dX10_takes_75 (by decide) (by decide) ?_
  obtain ⟨v17, hc18, h⟩ := bind_of h
  refine ev_invV_v (k := (0 : Int)) (av := [(0, (-55 : Int))]) (st := []) (v := (0, v17.1)) (τ := v17.2) dX10_takes_77 ml_X10_90 mv_X10_refuse (T := TX10) (ci := 9) rfl sp0 (by decide) (by decide) rfl ⟨Nat.le_of_ble_eq_true rfl, Nat.le_of_ble_eq_true rfl⟩ (Nat.le_of_ble_eq_true rfl) (c_X10_refuse hc18) ?_
  obtain rfl := Option.some.inj h
  dsimp only
  exact ev_iret dX10_takes_80 rfl rfl
set_option maxHeartbeats 4000000 in
set_option maxRecDepth 20000 in
theorem c_X10_takes {σ : Mem} {x1 x2 x3 : Int}  {q : (Int × Mem)} (h : f_X10_takes σ x1 x2 x3 = some q) : Ms yX10_takes M_X10_takes 210 210 [(2, (0 : Int)), (0, x1), (0, x2), (0, x3)] rho σ (some (0, q.1), rho, q.2) := by
  refine Ms.of 1 (by decide +kernel) rfl (fun z => absurd z (by decide)) (fun _ _ _ => trivial) rfl rfl ?_
  unfold f_X10_takes at h
  show Ev M_X10_takes 210 210 _ 0 210 rho σ [(2, (0 : Int)), (0, x1), (0, x2), (0, x3), (9, 0)] []
  refine ev_aload_n dX10_takes_0 rfl (by decide) ?_
  refine ev_getf (j := 0) (t := 2) (x := (1 : Int)) dX10_takes_1 cf_X10 wf_X10_12 sp0 (by decide) (by decide) rfl (by decide) (rp0_0 _) ?_
  refine ev_iload_n dX10_takes_4 rfl ?_
  obtain ⟨v1, hc2, h⟩ := bind_of h
  refine ev_invV_v (k := (1 : Int)) (av := [(0, x1)]) (st := []) (v := (0, v1)) (τ := σ) dX10_takes_5 ml_X10_124 mv_X0_hasCand (T := TX0) (ci := 0) rfl sp1 (by decide) (by decide) rfl ⟨Nat.le_of_ble_eq_true rfl, Nat.le_of_ble_eq_true rfl⟩ (Nat.le_of_ble_eq_true rfl) (c_X0_hasCand hB1 hc2) ?_
  refine ev_if_eq (tgt := 30) dX10_takes_8 rfl h (fun cb h => ?_) (fun cb h => ?_)
  · exact ev_sub (L2 := [(2, (0 : Int)), (9, 0), (9, 0), (9, 0), (9, 0)]) (e_X10_takes_30 σ h) ⟨.inr rfl, .inl rfl, .inl rfl, .inl rfl, .inl rfl, trivial⟩
  refine ev_aload_n dX10_takes_11 rfl (by decide) ?_
  refine ev_getf (j := 0) (t := 2) (x := (1 : Int)) dX10_takes_12 cf_X10 wf_X10_12 sp0 (by decide) (by decide) rfl (by decide) (rp0_0 _) ?_
  refine ev_iload_n dX10_takes_15 rfl ?_
  refine ev_i2lk dX10_takes_16 ?_
  obtain ⟨v3, hc4, h⟩ := bind_of h
  refine ev_invV_v (k := (1 : Int)) (av := [(1, x2)]) (st := []) (v := (0, v3)) (τ := σ) dX10_takes_17 ml_X10_166 mv_X0_hasPaper (T := TX0) (ci := 0) rfl sp1 (by decide) (by decide) rfl ⟨Nat.le_of_ble_eq_true rfl, Nat.le_of_ble_eq_true rfl⟩ (Nat.le_of_ble_eq_true rfl) (c_X0_hasPaper hB1 hc4) ?_
  refine ev_if_eq (tgt := 30) dX10_takes_20 rfl h (fun cb h => ?_) (fun cb h => ?_)
  · exact ev_sub (L2 := [(2, (0 : Int)), (9, 0), (9, 0), (9, 0), (9, 0)]) (e_X10_takes_30 σ h) ⟨.inr rfl, .inl rfl, .inl rfl, .inl rfl, .inl rfl, trivial⟩
  refine ev_iload_n dX10_takes_23 rfl ?_
  obtain ⟨v5, hc6, h⟩ := bind_of h
  refine ev_invS_v (av := [(0, x3)]) (st := []) (v := (0, v5)) (τ := σ) dX10_takes_24 ml_X10_187 mt_X10_isYesOrNo rfl ⟨Nat.le_of_ble_eq_true rfl, Nat.le_of_ble_eq_true rfl⟩ (Nat.le_of_ble_eq_true rfl) (c_X10_isYesOrNo hc6) ?_
  refine ev_if_ne (tgt := 37) dX10_takes_27 rfl h (fun cb h => ?_) (fun cb h => ?_)
  · refine ev_aload_n dX10_takes_37 rfl (by decide) ?_
    refine ev_getf (j := 0) (t := 2) (x := (1 : Int)) dX10_takes_38 cf_X10 wf_X10_12 sp0 (by decide) (by decide) rfl (by decide) (rp0_0 _) ?_
    refine ev_iload_n dX10_takes_41 rfl ?_
    refine ev_iload_n dX10_takes_42 rfl ?_
    obtain ⟨v7, hc8, h⟩ := bind_of h
    refine ev_invV_v (k := (1 : Int)) (av := [(0, x1), (0, x2)]) (st := []) (v := (0, v7)) (τ := σ) dX10_takes_43 ml_X10_190 mv_X0_doesTake (T := TX0) (ci := 0) rfl sp1 (by decide) (by decide) rfl ⟨Nat.le_of_ble_eq_true rfl, Nat.le_of_ble_eq_true rfl⟩ (Nat.le_of_ble_eq_true rfl) (c_X0_doesTake hB1 hc8) ?_
    refine ev_if_eq (tgt := 53) dX10_takes_46 rfl h (fun cb h => ?_) (fun cb h => ?_)
    · refine ev_iconst dX10_takes_53 (by decide) ?_
      exact ev_sub (L2 := [(2, (0 : Int)), (0, x1), (0, x2), (0, x3), (9, 0)]) (e_X10_takes_54 σ x1 x2 x3 (0 : Int) h) ⟨.inr rfl, .inr rfl, .inr rfl, .inr rfl, .inl rfl, trivial⟩
    refine ev_iconst dX10_takes_49 (by decide) ?_
    refine ev_goto (tgt := 54) dX10_takes_50 rfl ?_
    exact ev_sub (L2 := [(2, (0 : Int)), (0, x1), (0, x2), (0, x3), (9, 0)]) (e_X10_takes_54 σ x1 x2 x3 (1 : Int) h) ⟨.inr rfl, .inr rfl, .inr rfl, .inr rfl, .inl rfl, trivial⟩
  exact ev_sub (L2 := [(2, (0 : Int)), (9, 0), (9, 0), (9, 0), (9, 0)]) (e_X10_takes_30 σ h) ⟨.inr rfl, .inl rfl, .inl rfl, .inl rfl, .inl rfl, trivial⟩
set_option maxHeartbeats 4000000 in
set_option maxRecDepth 20000 in
theorem e_X10_night_18 (σ : Mem)  {q : (Int × Mem)} (h : f_X10_night_18 σ  = some q) : Ev M_X10_night 210 210 (some (0, q.1), rho, q.2) 18 210 rho σ [(2, (0 : Int)), (9, 0), (9, 0), (9, 0)] [] := by
  unfold f_X10_night_18 at h
  refine ev_aload_n dX10_night_18 rfl (by decide) ?_
  refine ev_bipush dX10_night_19 (by decide) (by decide) ?_
  obtain ⟨v9, hc10, h⟩ := bind_of h
  refine ev_invV_v (k := (0 : Int)) (av := [(0, (-52 : Int))]) (st := []) (v := (0, v9.1)) (τ := v9.2) dX10_night_21 ml_X10_90 mv_X10_refuse (T := TX10) (ci := 9) rfl sp0 (by decide) (by decide) rfl ⟨Nat.le_of_ble_eq_true rfl, Nat.le_of_ble_eq_true rfl⟩ (Nat.le_of_ble_eq_true rfl) (c_X10_refuse hc10) ?_
  obtain rfl := Option.some.inj h
  dsimp only
  exact ev_iret dX10_night_24 rfl rfl
set_option maxHeartbeats 4000000 in
set_option maxRecDepth 20000 in
theorem c_X10_night {σ : Mem} {x1 x2 : Int}  {q : (Int × Mem)} (h : f_X10_night σ x1 x2 = some q) : Ms yX10_night M_X10_night 210 210 [(2, (0 : Int)), (0, x1), (0, x2)] rho σ (some (0, q.1), rho, q.2) := by
  refine Ms.of 1 (by decide +kernel) rfl (fun z => absurd z (by decide)) (fun _ _ _ => trivial) rfl rfl ?_
  unfold f_X10_night at h
  show Ev M_X10_night 210 210 _ 0 210 rho σ [(2, (0 : Int)), (0, x1), (0, x2), (9, 0)] []
  refine ev_aload_n dX10_night_0 rfl (by decide) ?_
  refine ev_getf (j := 0) (t := 2) (x := (1 : Int)) dX10_night_1 cf_X10 wf_X10_12 sp0 (by decide) (by decide) rfl (by decide) (rp0_0 _) ?_
  refine ev_iload_n dX10_night_4 rfl ?_
  obtain ⟨v1, hc2, h⟩ := bind_of h
  refine ev_invV_v (k := (1 : Int)) (av := [(0, x1)]) (st := []) (v := (0, v1)) (τ := σ) dX10_night_5 ml_X10_124 mv_X0_hasCand (T := TX0) (ci := 0) rfl sp1 (by decide) (by decide) rfl ⟨Nat.le_of_ble_eq_true rfl, Nat.le_of_ble_eq_true rfl⟩ (Nat.le_of_ble_eq_true rfl) (c_X0_hasCand hB1 hc2) ?_
  refine ev_if_eq (tgt := 18) dX10_night_8 rfl h (fun cb h => ?_) (fun cb h => ?_)
  · exact ev_sub (L2 := [(2, (0 : Int)), (9, 0), (9, 0), (9, 0)]) (e_X10_night_18 σ h) ⟨.inr rfl, .inl rfl, .inl rfl, .inl rfl, trivial⟩
  refine ev_iload_n dX10_night_11 rfl ?_
  obtain ⟨v3, hc4, h⟩ := bind_of h
  refine ev_invS_v (av := [(0, x2)]) (st := []) (v := (0, v3)) (τ := σ) dX10_night_12 ml_X10_187 mt_X10_isYesOrNo rfl ⟨Nat.le_of_ble_eq_true rfl, Nat.le_of_ble_eq_true rfl⟩ (Nat.le_of_ble_eq_true rfl) (c_X10_isYesOrNo hc4) ?_
  refine ev_if_ne (tgt := 25) dX10_night_15 rfl h (fun cb h => ?_) (fun cb h => ?_)
  · refine ev_aload_n dX10_night_25 rfl (by decide) ?_
    refine ev_getf (j := 0) (t := 2) (x := (1 : Int)) dX10_night_26 cf_X10 wf_X10_12 sp0 (by decide) (by decide) rfl (by decide) (rp0_0 _) ?_
    refine ev_getf (j := 5) (t := 2) (x := (7 : Int)) dX10_night_29 cf_X0 wf_X10_199 sp1 (by decide) (by decide) rfl (by decide) (rp1_5 _) ?_
    refine ev_iload_n dX10_night_32 rfl ?_
    refine ev_iald dX10_night_33 sp7 (by decide) (by decide) h (fun h => ?_)
    refine ev_istore_nG dX10_night_34 h rfl (by decide) (fun v5 h => ?_)
    show Ev _ _ _ _ 35 _ _ _ [(2, (0 : Int)), (0, x1), (0, x2), (0, v5)] _
    refine ev_aload_n dX10_night_35 rfl (by decide) ?_
    refine ev_getf (j := 0) (t := 2) (x := (1 : Int)) dX10_night_36 cf_X10 wf_X10_12 sp0 (by decide) (by decide) rfl (by decide) (rp0_0 _) ?_
    refine ev_getf (j := 5) (t := 2) (x := (7 : Int)) dX10_night_39 cf_X0 wf_X10_199 sp1 (by decide) (by decide) rfl (by decide) (rp1_5 _) ?_
    refine ev_iload_n dX10_night_42 rfl ?_
    refine ev_iload_n dX10_night_43 rfl ?_
    show Ev _ _ _ _ 44 _ _ _ _ _
    refine ev_iastG dX10_night_44 sp7 (by decide) (by decide) h (fun σ6 h => ?_)
    refine ev_aload_n dX10_night_45 rfl (by decide) ?_
    refine ev_getf (j := 8) (t := 2) (x := (43 : Int)) dX10_night_46 cf_X10 wf_X10_52 sp0 (by decide) (by decide) rfl (by decide) (rp0_8 _) ?_
    refine ev_iload_n dX10_night_49 rfl ?_
    obtain ⟨σ7, hc8, h⟩ := bind_of h
    refine ev_invV_n (k := (43 : Int)) (av := [(0, x1)]) (st := []) (τ := σ7) dX10_night_50 ml_X10_183 mv_X9_forget (T := TX9) (ci := 8) rfl sp43 (by decide) (by decide) rfl ⟨Nat.le_of_ble_eq_true rfl, Nat.le_of_ble_eq_true rfl⟩ (Nat.le_of_ble_eq_true rfl) (c_X9_forget hc8) ?_
    refine ev_iload_n dX10_night_53 rfl ?_
    obtain rfl := Option.some.inj h
    dsimp only
    exact ev_iret dX10_night_54 rfl rfl
  exact ev_sub (L2 := [(2, (0 : Int)), (9, 0), (9, 0), (9, 0)]) (e_X10_night_18 σ h) ⟨.inr rfl, .inl rfl, .inl rfl, .inl rfl, trivial⟩
set_option maxHeartbeats 4000000 in
set_option maxRecDepth 20000 in
theorem e_X10_room_11 (σ : Mem)  {q : (Int × Mem)} (h : f_X10_room_11 σ  = some q) : Ev M_X10_room 210 210 (some (0, q.1), rho, q.2) 11 210 rho σ [(2, (0 : Int)), (9, 0)] [] := by
  unfold f_X10_room_11 at h
  refine ev_aload_n dX10_room_11 rfl (by decide) ?_
  refine ev_bipush dX10_room_12 (by decide) (by decide) ?_
  obtain ⟨v7, hc8, h⟩ := bind_of h
  refine ev_invV_v (k := (0 : Int)) (av := [(0, (-52 : Int))]) (st := []) (v := (0, v7.1)) (τ := v7.2) dX10_room_14 ml_X10_90 mv_X10_refuse (T := TX10) (ci := 9) rfl sp0 (by decide) (by decide) rfl ⟨Nat.le_of_ble_eq_true rfl, Nat.le_of_ble_eq_true rfl⟩ (Nat.le_of_ble_eq_true rfl) (c_X10_refuse hc8) ?_
  obtain rfl := Option.some.inj h
  dsimp only
  exact ev_iret dX10_room_17 rfl rfl
set_option maxHeartbeats 4000000 in
set_option maxRecDepth 20000 in
theorem c_X10_room {σ : Mem} {x1 : Int}  {q : (Int × Mem)} (h : f_X10_room σ x1 = some q) : Ms yX10_room M_X10_room 210 210 [(2, (0 : Int)), (0, x1)] rho σ (some (0, q.1), rho, q.2) := by
  refine Ms.of 0 (by decide +kernel) rfl (fun z => absurd z (by decide)) (fun _ _ _ => trivial) rfl rfl ?_
  unfold f_X10_room at h
  show Ev M_X10_room 210 210 _ 0 210 rho σ [(2, (0 : Int)), (0, x1)] []
  refine ev_iload_n dX10_room_0 rfl ?_
  refine ev_iconst dX10_room_1 (by decide) ?_
  refine ev_icmp_lt (tgt := 11) dX10_room_2 rfl h (fun cb h => ?_) (fun cb h => ?_)
  · exact ev_sub (L2 := [(2, (0 : Int)), (9, 0)]) (e_X10_room_11 σ h) ⟨.inr rfl, .inl rfl, trivial⟩
  refine ev_iload_n dX10_room_5 rfl ?_
  refine ev_bipush dX10_room_6 (by decide) (by decide) ?_
  refine ev_icmp_le (tgt := 18) dX10_room_8 rfl h (fun cb h => ?_) (fun cb h => ?_)
  · refine ev_aload_n dX10_room_18 rfl (by decide) ?_
    refine ev_getf (j := 0) (t := 2) (x := (1 : Int)) dX10_room_19 cf_X10 wf_X10_12 sp0 (by decide) (by decide) rfl (by decide) (rp0_0 _) ?_
    refine ev_getf (j := 10) (t := 0) (x := (σ (1 : Int) 10)) dX10_room_22 cf_X0 wf_X10_202 sp1 (by decide) (by decide) rfl (by decide) rfl ?_
    refine ev_bipush dX10_room_25 (by decide) (by decide) ?_
    refine ev_icmp_lt (tgt := 37) dX10_room_27 rfl h (fun cb h => ?_) (fun cb h => ?_)
    · refine ev_aload_n dX10_room_37 rfl (by decide) ?_
      refine ev_getf (j := 8) (t := 2) (x := (43 : Int)) dX10_room_38 cf_X10 wf_X10_52 sp0 (by decide) (by decide) rfl (by decide) (rp0_8 _) ?_
      obtain ⟨σ1, hc2, h⟩ := bind_of h
      refine ev_invV_n (k := (43 : Int)) (av := []) (st := []) (τ := σ1) dX10_room_41 ml_X10_205 mv_X9_forgetOthers (T := TX9) (ci := 8) rfl sp43 (by decide) (by decide) rfl ⟨Nat.le_of_ble_eq_true rfl, Nat.le_of_ble_eq_true rfl⟩ (Nat.le_of_ble_eq_true rfl) (c_X9_forgetOthers hc2) ?_
      refine ev_aload_n dX10_room_44 rfl (by decide) ?_
      refine ev_getf (j := 0) (t := 2) (x := (1 : Int)) dX10_room_45 cf_X10 wf_X10_12 sp0 (by decide) (by decide) rfl (by decide) (rp0_0 _) ?_
      refine ev_iload_n dX10_room_48 rfl ?_
      obtain ⟨v3, hc4, h⟩ := bind_of h
      refine ev_invV_v (k := (1 : Int)) (av := [(0, x1)]) (st := []) (v := (0, v3.1)) (τ := v3.2) dX10_room_49 ml_X10_208 mv_X0_addRoom (T := TX0) (ci := 0) rfl sp1 (by decide) (by decide) rfl ⟨Nat.le_of_ble_eq_true rfl, Nat.le_of_ble_eq_true rfl⟩ (Nat.le_of_ble_eq_true rfl) (c_X0_addRoom hB1 hc4) ?_
      obtain rfl := Option.some.inj h
      dsimp only
      exact ev_iret dX10_room_52 rfl rfl
    refine ev_aload_n dX10_room_30 rfl (by decide) ?_
    refine ev_bipush dX10_room_31 (by decide) (by decide) ?_
    obtain ⟨v5, hc6, h⟩ := bind_of h
    refine ev_invV_v (k := (0 : Int)) (av := [(0, (-56 : Int))]) (st := []) (v := (0, v5.1)) (τ := v5.2) dX10_room_33 ml_X10_90 mv_X10_refuse (T := TX10) (ci := 9) rfl sp0 (by decide) (by decide) rfl ⟨Nat.le_of_ble_eq_true rfl, Nat.le_of_ble_eq_true rfl⟩ (Nat.le_of_ble_eq_true rfl) (c_X10_refuse hc6) ?_
    obtain rfl := Option.some.inj h
    dsimp only
    exact ev_iret dX10_room_36 rfl rfl
  exact ev_sub (L2 := [(2, (0 : Int)), (9, 0)]) (e_X10_room_11 σ h) ⟨.inr rfl, .inl rfl, trivial⟩
set_option maxHeartbeats 4000000 in
set_option maxRecDepth 20000 in
theorem e_X10_hours_12 (σ : Mem)  {q : (Int × Mem)} (h : f_X10_hours_12 σ  = some q) : Ev M_X10_hours 210 210 (some (0, q.1), rho, q.2) 12 210 rho σ [(2, (0 : Int)), (9, 0), (9, 0)] [] := by
  unfold f_X10_hours_12 at h
  refine ev_aload_n dX10_hours_12 rfl (by decide) ?_
  refine ev_bipush dX10_hours_13 (by decide) (by decide) ?_
  obtain ⟨v5, hc6, h⟩ := bind_of h
  refine ev_invV_v (k := (0 : Int)) (av := [(0, (-52 : Int))]) (st := []) (v := (0, v5.1)) (τ := v5.2) dX10_hours_15 ml_X10_90 mv_X10_refuse (T := TX10) (ci := 9) rfl sp0 (by decide) (by decide) rfl ⟨Nat.le_of_ble_eq_true rfl, Nat.le_of_ble_eq_true rfl⟩ (Nat.le_of_ble_eq_true rfl) (c_X10_refuse hc6) ?_
  obtain rfl := Option.some.inj h
  dsimp only
  exact ev_iret dX10_hours_18 rfl rfl
set_option maxHeartbeats 4000000 in
set_option maxRecDepth 20000 in
theorem c_X10_hours {σ : Mem} {x1 : Int}  {q : (Int × Mem)} (h : f_X10_hours σ x1 = some q) : Ms yX10_hours M_X10_hours 210 210 [(2, (0 : Int)), (0, x1)] rho σ (some (0, q.1), rho, q.2) := by
  refine Ms.of 1 (by decide +kernel) rfl (fun z => absurd z (by decide)) (fun _ _ _ => trivial) rfl rfl ?_
  unfold f_X10_hours at h
  show Ev M_X10_hours 210 210 _ 0 210 rho σ [(2, (0 : Int)), (0, x1), (9, 0)] []
  refine ev_iload_n dX10_hours_0 rfl ?_
  refine ev_bipush dX10_hours_1 (by decide) (by decide) ?_
  refine ev_icmp_lt (tgt := 12) dX10_hours_3 rfl h (fun cb h => ?_) (fun cb h => ?_)
  · exact ev_sub (L2 := [(2, (0 : Int)), (9, 0), (9, 0)]) (e_X10_hours_12 σ h) ⟨.inr rfl, .inl rfl, .inl rfl, trivial⟩
  refine ev_iload_n dX10_hours_6 rfl ?_
  refine ev_bipush dX10_hours_7 (by decide) (by decide) ?_
  refine ev_icmp_le (tgt := 19) dX10_hours_9 rfl h (fun cb h => ?_) (fun cb h => ?_)
  · refine ev_aload_n dX10_hours_19 rfl (by decide) ?_
    refine ev_getf (j := 0) (t := 2) (x := (1 : Int)) dX10_hours_20 cf_X10 wf_X10_12 sp0 (by decide) (by decide) rfl (by decide) (rp0_0 _) ?_
    refine ev_getf (j := 11) (t := 0) (x := (σ (1 : Int) 11)) dX10_hours_23 cf_X0 wf_X10_211 sp1 (by decide) (by decide) rfl (by decide) rfl ?_
    refine ev_istore_nG dX10_hours_26 h rfl (by decide) (fun v1 h => ?_)
    show Ev _ _ _ _ 27 _ _ _ [(2, (0 : Int)), (0, x1), (0, v1)] _
    refine ev_aload_n dX10_hours_27 rfl (by decide) ?_
    refine ev_getf (j := 0) (t := 2) (x := (1 : Int)) dX10_hours_28 cf_X10 wf_X10_12 sp0 (by decide) (by decide) rfl (by decide) (rp0_0 _) ?_
    refine ev_iload_n dX10_hours_31 rfl ?_
    refine ev_putfG (j := 11) (t := 0) dX10_hours_32 cf_X0 wf_X10_211 sp1 (by decide) (by decide) rfl (by decide) (by decide) rfl (fun z => absurd z (by decide +kernel)) h (fun σ2 h => ?_)
    refine ev_aload_n dX10_hours_35 rfl (by decide) ?_
    refine ev_getf (j := 8) (t := 2) (x := (43 : Int)) dX10_hours_36 cf_X10 wf_X10_52 sp0 (by decide) (by decide) rfl (by decide) (rp0_8 _) ?_
    obtain ⟨σ3, hc4, h⟩ := bind_of h
    refine ev_invV_n (k := (43 : Int)) (av := []) (st := []) (τ := σ3) dX10_hours_39 ml_X10_173 mv_X9_forgetAll (T := TX9) (ci := 8) rfl sp43 (by decide) (by decide) rfl ⟨Nat.le_of_ble_eq_true rfl, Nat.le_of_ble_eq_true rfl⟩ (Nat.le_of_ble_eq_true rfl) (c_X9_forgetAll hc4) ?_
    show Ev _ _ _ _ 42 _ _ _ _ _
    refine ev_iload_n dX10_hours_42 rfl ?_
    obtain rfl := Option.some.inj h
    dsimp only
    exact ev_iret dX10_hours_43 rfl rfl
  exact ev_sub (L2 := [(2, (0 : Int)), (9, 0), (9, 0)]) (e_X10_hours_12 σ h) ⟨.inr rfl, .inl rfl, .inl rfl, trivial⟩
set_option maxHeartbeats 4000000 in
set_option maxRecDepth 20000 in
theorem e_X10_turn_10 (σ : Mem)  {q : (Int × Mem)} (h : f_X10_turn_10 σ  = some q) : Ev M_X10_turn 210 210 (some (0, q.1), rho, q.2) 10 210 rho σ [(2, (0 : Int)), (9, 0), (9, 0)] [] := by
  unfold f_X10_turn_10 at h
  refine ev_aload_n dX10_turn_10 rfl (by decide) ?_
  refine ev_bipush dX10_turn_11 (by decide) (by decide) ?_
  obtain ⟨v5, hc6, h⟩ := bind_of h
  refine ev_invV_v (k := (0 : Int)) (av := [(0, (-52 : Int))]) (st := []) (v := (0, v5.1)) (τ := v5.2) dX10_turn_13 ml_X10_90 mv_X10_refuse (T := TX10) (ci := 9) rfl sp0 (by decide) (by decide) rfl ⟨Nat.le_of_ble_eq_true rfl, Nat.le_of_ble_eq_true rfl⟩ (Nat.le_of_ble_eq_true rfl) (c_X10_refuse hc6) ?_
  obtain rfl := Option.some.inj h
  dsimp only
  exact ev_iret dX10_turn_16 rfl rfl
set_option maxHeartbeats 4000000 in
set_option maxRecDepth 20000 in
theorem c_X10_turn {σ : Mem} {x1 : Int}  {q : (Int × Mem)} (h : f_X10_turn σ x1 = some q) : Ms yX10_turn M_X10_turn 210 210 [(2, (0 : Int)), (0, x1)] rho σ (some (0, q.1), rho, q.2) := by
  refine Ms.of 1 (by decide +kernel) rfl (fun z => absurd z (by decide)) (fun _ _ _ => trivial) rfl rfl ?_
  unfold f_X10_turn at h
  show Ev M_X10_turn 210 210 _ 0 210 rho σ [(2, (0 : Int)), (0, x1), (9, 0)] []
  refine ev_iload_n dX10_turn_0 rfl ?_
  refine ev_if_lt (tgt := 10) dX10_turn_1 rfl h (fun cb h => ?_) (fun cb h => ?_)
  · exact ev_sub (L2 := [(2, (0 : Int)), (9, 0), (9, 0)]) (e_X10_turn_10 σ h) ⟨.inr rfl, .inl rfl, .inl rfl, trivial⟩
  refine ev_iload_n dX10_turn_4 rfl ?_
  refine ev_bipush dX10_turn_5 (by decide) (by decide) ?_
  refine ev_icmp_le (tgt := 17) dX10_turn_7 rfl h (fun cb h => ?_) (fun cb h => ?_)
  · refine ev_aload_n dX10_turn_17 rfl (by decide) ?_
    refine ev_getf (j := 0) (t := 2) (x := (1 : Int)) dX10_turn_18 cf_X10 wf_X10_12 sp0 (by decide) (by decide) rfl (by decide) (rp0_0 _) ?_
    refine ev_getf (j := 12) (t := 0) (x := (σ (1 : Int) 12)) dX10_turn_21 cf_X0 wf_X10_214 sp1 (by decide) (by decide) rfl (by decide) rfl ?_
    refine ev_istore_nG dX10_turn_24 h rfl (by decide) (fun v1 h => ?_)
    show Ev _ _ _ _ 25 _ _ _ [(2, (0 : Int)), (0, x1), (0, v1)] _
    refine ev_aload_n dX10_turn_25 rfl (by decide) ?_
    refine ev_getf (j := 0) (t := 2) (x := (1 : Int)) dX10_turn_26 cf_X10 wf_X10_12 sp0 (by decide) (by decide) rfl (by decide) (rp0_0 _) ?_
    refine ev_iload_n dX10_turn_29 rfl ?_
    refine ev_putfG (j := 12) (t := 0) dX10_turn_30 cf_X0 wf_X10_214 sp1 (by decide) (by decide) rfl (by decide) (by decide) rfl (fun z => absurd z (by decide +kernel)) h (fun σ2 h => ?_)
    refine ev_aload_n dX10_turn_33 rfl (by decide) ?_
    refine ev_getf (j := 8) (t := 2) (x := (43 : Int)) dX10_turn_34 cf_X10 wf_X10_52 sp0 (by decide) (by decide) rfl (by decide) (rp0_8 _) ?_
    obtain ⟨σ3, hc4, h⟩ := bind_of h
    refine ev_invV_n (k := (43 : Int)) (av := []) (st := []) (τ := σ3) dX10_turn_37 ml_X10_205 mv_X9_forgetOthers (T := TX9) (ci := 8) rfl sp43 (by decide) (by decide) rfl ⟨Nat.le_of_ble_eq_true rfl, Nat.le_of_ble_eq_true rfl⟩ (Nat.le_of_ble_eq_true rfl) (c_X9_forgetOthers hc4) ?_
    show Ev _ _ _ _ 40 _ _ _ _ _
    refine ev_iload_n dX10_turn_40 rfl ?_
    obtain rfl := Option.some.inj h
    dsimp only
    exact ev_iret dX10_turn_41 rfl rfl
  exact ev_sub (L2 := [(2, (0 : Int)), (9, 0), (9, 0)]) (e_X10_turn_10 σ h) ⟨.inr rfl, .inl rfl, .inl rfl, trivial⟩
set_option maxHeartbeats 4000000 in
set_option maxRecDepth 20000 in
theorem e_X10_feed_11 (σ : Mem)  {q : (Int × Mem)} (h : f_X10_feed_11 σ  = some q) : Ev M_X10_feed 210 210 (some (0, q.1), rho, q.2) 11 210 rho σ [(2, (0 : Int)), (9, 0)] [] := by
  unfold f_X10_feed_11 at h
  refine ev_aload_n dX10_feed_11 rfl (by decide) ?_
  refine ev_bipush dX10_feed_12 (by decide) (by decide) ?_
  obtain ⟨v7, hc8, h⟩ := bind_of h
  refine ev_invV_v (k := (0 : Int)) (av := [(0, (-52 : Int))]) (st := []) (v := (0, v7.1)) (τ := v7.2) dX10_feed_14 ml_X10_90 mv_X10_refuse (T := TX10) (ci := 9) rfl sp0 (by decide) (by decide) rfl ⟨Nat.le_of_ble_eq_true rfl, Nat.le_of_ble_eq_true rfl⟩ (Nat.le_of_ble_eq_true rfl) (c_X10_refuse hc8) ?_
  obtain rfl := Option.some.inj h
  dsimp only
  exact ev_iret dX10_feed_17 rfl rfl
set_option maxHeartbeats 4000000 in
set_option maxRecDepth 20000 in
theorem c_X10_feed {σ : Mem} {x1 : Int}  {q : (Int × Mem)} (h : f_X10_feed σ x1 = some q) : Ms yX10_feed M_X10_feed 210 210 [(2, (0 : Int)), (0, x1)] rho σ (some (0, q.1), rho, q.2) := by
  refine Ms.of 0 (by decide +kernel) rfl (fun z => absurd z (by decide)) (fun _ _ _ => trivial) rfl rfl ?_
  unfold f_X10_feed at h
  show Ev M_X10_feed 210 210 _ 0 210 rho σ [(2, (0 : Int)), (0, x1)] []
  refine ev_iload_n dX10_feed_0 rfl ?_
  refine ev_if_lt (tgt := 11) dX10_feed_1 rfl h (fun cb h => ?_) (fun cb h => ?_)
  · exact ev_sub (L2 := [(2, (0 : Int)), (9, 0)]) (e_X10_feed_11 σ h) ⟨.inr rfl, .inl rfl, trivial⟩
  refine ev_iload_n dX10_feed_4 rfl ?_
  refine ev_sipush dX10_feed_5 (by decide) (by decide) ?_
  refine ev_icmp_le (tgt := 18) dX10_feed_8 rfl h (fun cb h => ?_) (fun cb h => ?_)
  · refine ev_aload_n dX10_feed_18 rfl (by decide) ?_
    refine ev_getf (j := 4) (t := 2) (x := (28 : Int)) dX10_feed_19 cf_X10 wf_X10_25 sp0 (by decide) (by decide) rfl (by decide) (rp0_4 _) ?_
    obtain ⟨v1, hc2, h⟩ := bind_of h
    refine ev_invV_v (k := (28 : Int)) (av := []) (st := []) (v := (0, v1)) (τ := σ) dX10_feed_22 ml_X10_217 mv_X7_isFull (T := TX7) (ci := 6) rfl sp28 (by decide) (by decide) rfl ⟨Nat.le_of_ble_eq_true rfl, Nat.le_of_ble_eq_true rfl⟩ (Nat.le_of_ble_eq_true rfl) (c_X7_isFull hc2) ?_
    refine ev_if_eq (tgt := 35) dX10_feed_25 rfl h (fun cb h => ?_) (fun cb h => ?_)
    · refine ev_aload_n dX10_feed_35 rfl (by decide) ?_
      refine ev_getf (j := 4) (t := 2) (x := (28 : Int)) dX10_feed_36 cf_X10 wf_X10_25 sp0 (by decide) (by decide) rfl (by decide) (rp0_4 _) ?_
      refine ev_iload_n dX10_feed_39 rfl ?_
      obtain ⟨v3, hc4, h⟩ := bind_of h
      refine ev_invV_v (k := (28 : Int)) (av := [(0, x1)]) (st := []) (v := (0, v3.1)) (τ := v3.2) dX10_feed_40 ml_X10_221 mv_X7_append (T := TX7) (ci := 6) rfl sp28 (by decide) (by decide) rfl ⟨Nat.le_of_ble_eq_true rfl, Nat.le_of_ble_eq_true rfl⟩ (Nat.le_of_ble_eq_true rfl) (c_X7_append hc4) ?_
      obtain rfl := Option.some.inj h
      dsimp only
      exact ev_iret dX10_feed_43 rfl rfl
    refine ev_aload_n dX10_feed_28 rfl (by decide) ?_
    refine ev_bipush dX10_feed_29 (by decide) (by decide) ?_
    obtain ⟨v5, hc6, h⟩ := bind_of h
    refine ev_invV_v (k := (0 : Int)) (av := [(0, (-56 : Int))]) (st := []) (v := (0, v5.1)) (τ := v5.2) dX10_feed_31 ml_X10_90 mv_X10_refuse (T := TX10) (ci := 9) rfl sp0 (by decide) (by decide) rfl ⟨Nat.le_of_ble_eq_true rfl, Nat.le_of_ble_eq_true rfl⟩ (Nat.le_of_ble_eq_true rfl) (c_X10_refuse hc6) ?_
    obtain rfl := Option.some.inj h
    dsimp only
    exact ev_iret dX10_feed_34 rfl rfl
  exact ev_sub (L2 := [(2, (0 : Int)), (9, 0)]) (e_X10_feed_11 σ h) ⟨.inr rfl, .inl rfl, trivial⟩
set_option maxHeartbeats 4000000 in
set_option maxRecDepth 20000 in
theorem c_X10_wipe {σ : Mem}  {q : (Int × Mem)} (h : f_X10_wipe σ  = some q) : Ms yX10_wipe M_X10_wipe 210 210 [(2, (0 : Int))] rho σ (some (0, q.1), rho, q.2) := by
  refine Ms.of 0 (by decide +kernel) rfl (fun z => absurd z (by decide)) (fun _ _ _ => trivial) rfl rfl ?_
  unfold f_X10_wipe at h
  show Ev M_X10_wipe 210 210 _ 0 210 rho σ [(2, (0 : Int))] []
  refine ev_aload_n dX10_wipe_0 rfl (by decide) ?_
  refine ev_getf (j := 4) (t := 2) (x := (28 : Int)) dX10_wipe_1 cf_X10 wf_X10_25 sp0 (by decide) (by decide) rfl (by decide) (rp0_4 _) ?_
  obtain ⟨v1, hc2, h⟩ := bind_of h
  refine ev_invV_v (k := (28 : Int)) (av := []) (st := []) (v := (0, v1.1)) (τ := v1.2) dX10_wipe_4 ml_X10_224 mv_X7_clear (T := TX7) (ci := 6) rfl sp28 (by decide) (by decide) rfl ⟨Nat.le_of_ble_eq_true rfl, Nat.le_of_ble_eq_true rfl⟩ (Nat.le_of_ble_eq_true rfl) (c_X7_clear hc2) ?_
  obtain rfl := Option.some.inj h
  dsimp only
  exact ev_iret dX10_wipe_7 rfl rfl
set_option maxHeartbeats 4000000 in
set_option maxRecDepth 20000 in
theorem c_X10_book {σ : Mem}  {q : (Int × Mem)} (h : f_X10_book σ  = some q) : Ms yX10_book M_X10_book 210 210 [(2, (0 : Int))] rho σ (some (0, q.1), rho, q.2) := by
  refine Ms.of 1 (by decide +kernel) rfl (fun z => absurd z (by decide)) (fun _ _ _ => trivial) rfl rfl ?_
  unfold f_X10_book at h
  show Ev M_X10_book 210 210 _ 0 210 rho σ [(2, (0 : Int)), (9, 0)] []
  refine ev_aload_n dX10_book_0 rfl (by decide) ?_
  refine ev_getf (j := 1) (t := 2) (x := (10 : Int)) dX10_book_1 cf_X10 wf_X10_16 sp0 (by decide) (by decide) rfl (by decide) (rp0_1 _) ?_
  refine ev_aload_n dX10_book_4 rfl (by decide) ?_
  refine ev_getf (j := 0) (t := 2) (x := (1 : Int)) dX10_book_5 cf_X10 wf_X10_12 sp0 (by decide) (by decide) rfl (by decide) (rp0_0 _) ?_
  obtain ⟨σ1, hc2, h⟩ := bind_of h
  refine ev_invV_n (k := (10 : Int)) (av := [(2, (1 : Int))]) (st := []) (τ := σ1) dX10_book_8 ml_X10_228 mv_X0_become (T := TX0) (ci := 0) rfl sp10 (by decide) (by decide) rfl ⟨Nat.le_of_ble_eq_true rfl, Nat.le_of_ble_eq_true rfl⟩ (Nat.le_of_ble_eq_true rfl) (c_X0_become hB10 hB1 hc2) ?_
  refine ev_aload_n dX10_book_11 rfl (by decide) ?_
  refine ev_getf (j := 4) (t := 2) (x := (28 : Int)) dX10_book_12 cf_X10 wf_X10_25 sp0 (by decide) (by decide) rfl (by decide) (rp0_4 _) ?_
  refine ev_aload_n dX10_book_15 rfl (by decide) ?_
  refine ev_getf (j := 1) (t := 2) (x := (10 : Int)) dX10_book_16 cf_X10 wf_X10_16 sp0 (by decide) (by decide) rfl (by decide) (rp0_1 _) ?_
  obtain ⟨v3, hc4, h⟩ := bind_of h
  refine ev_invV_v (k := (28 : Int)) (av := [(2, (10 : Int))]) (st := []) (v := (0, v3.1)) (τ := v3.2) dX10_book_19 ml_X10_232 mv_X7_readInto (T := TX7) (ci := 6) rfl sp28 (by decide) (by decide) rfl ⟨Nat.le_of_ble_eq_true rfl, Nat.le_of_ble_eq_true rfl⟩ (Nat.le_of_ble_eq_true rfl) (c_X7_readInto hc4) ?_
  refine ev_istore_nG dX10_book_22 h rfl (by decide) (fun v5 h => ?_)
  show Ev _ _ _ _ 23 _ _ _ [(2, (0 : Int)), (0, v5)] _
  show Ev _ _ _ _ 23 _ _ _ _ _
  refine ev_aload_n dX10_book_23 rfl (by decide) ?_
  refine ev_getf (j := 4) (t := 2) (x := (28 : Int)) dX10_book_24 cf_X10 wf_X10_25 sp0 (by decide) (by decide) rfl (by decide) (rp0_4 _) ?_
  obtain ⟨v6, hc7, h⟩ := bind_of h
  refine ev_invV_v (k := (28 : Int)) (av := []) (st := []) (v := (0, v6.1)) (τ := v6.2) dX10_book_27 ml_X10_224 mv_X7_clear (T := TX7) (ci := 6) rfl sp28 (by decide) (by decide) rfl ⟨Nat.le_of_ble_eq_true rfl, Nat.le_of_ble_eq_true rfl⟩ (Nat.le_of_ble_eq_true rfl) (c_X7_clear hc7) ?_
  refine ev_pop dX10_book_30 (show (0 : Nat) ≠ 1 by decide) ?_
  refine ev_iload_n dX10_book_31 rfl ?_
  refine ev_iconst dX10_book_32 (by decide) ?_
  refine ev_icmp_ne (tgt := 55) dX10_book_33 rfl h (fun cb h => ?_) (fun cb h => ?_)
  · refine ev_aload_n dX10_book_55 rfl (by decide) ?_
    refine ev_getf (j := 0) (t := 2) (x := (1 : Int)) dX10_book_56 cf_X10 wf_X10_12 sp0 (by decide) (by decide) rfl (by decide) (rp0_0 _) ?_
    refine ev_aload_n dX10_book_59 rfl (by decide) ?_
    refine ev_getf (j := 1) (t := 2) (x := (10 : Int)) dX10_book_60 cf_X10 wf_X10_16 sp0 (by decide) (by decide) rfl (by decide) (rp0_1 _) ?_
    obtain ⟨σ8, hc9, h⟩ := bind_of h
    refine ev_invV_n (k := (1 : Int)) (av := [(2, (10 : Int))]) (st := []) (τ := σ8) dX10_book_63 ml_X10_228 mv_X0_become (T := TX0) (ci := 0) rfl sp1 (by decide) (by decide) rfl ⟨Nat.le_of_ble_eq_true rfl, Nat.le_of_ble_eq_true rfl⟩ (Nat.le_of_ble_eq_true rfl) (c_X0_become hB1 hB10 hc9) ?_
    refine ev_aload_n dX10_book_66 rfl (by decide) ?_
    refine ev_getf (j := 8) (t := 2) (x := (43 : Int)) dX10_book_67 cf_X10 wf_X10_52 sp0 (by decide) (by decide) rfl (by decide) (rp0_8 _) ?_
    obtain ⟨σ10, hc11, h⟩ := bind_of h
    refine ev_invV_n (k := (43 : Int)) (av := []) (st := []) (τ := σ10) dX10_book_70 ml_X10_173 mv_X9_forgetAll (T := TX9) (ci := 8) rfl sp43 (by decide) (by decide) rfl ⟨Nat.le_of_ble_eq_true rfl, Nat.le_of_ble_eq_true rfl⟩ (Nat.le_of_ble_eq_true rfl) (c_X9_forgetAll hc11) ?_
    refine ev_iload_n dX10_book_73 rfl ?_
    obtain rfl := Option.some.inj h
    dsimp only
    exact ev_iret dX10_book_74 rfl rfl
  refine ev_aload_n dX10_book_36 rfl (by decide) ?_
  refine ev_bipush dX10_book_37 (by decide) (by decide) ?_
  obtain ⟨v12, hc13, h⟩ := bind_of h
  refine ev_invV_v (k := (0 : Int)) (av := [(0, (-52 : Int))]) (st := []) (v := (0, v12.1)) (τ := v12.2) dX10_book_39 ml_X10_90 mv_X10_refuse (T := TX10) (ci := 9) rfl sp0 (by decide) (by decide) rfl ⟨Nat.le_of_ble_eq_true rfl, Nat.le_of_ble_eq_true rfl⟩ (Nat.le_of_ble_eq_true rfl) (c_X10_refuse hc13) ?_
  refine ev_pop dX10_book_42 (show (0 : Nat) ≠ 1 by decide) ?_
  refine ev_sipush dX10_book_43 (by decide) (by decide) ?_
  refine ev_aload_n dX10_book_46 rfl (by decide) ?_
  refine ev_getf (j := 4) (t := 2) (x := (28 : Int)) dX10_book_47 cf_X10 wf_X10_25 sp0 (by decide) (by decide) rfl (by decide) (rp0_4 _) ?_
  obtain ⟨v14, hc15, h⟩ := bind_of h
  refine ev_invV_v (k := (28 : Int)) (av := []) (st := [(0, (-600 : Int))]) (v := (0, v14)) (τ := v12.2) dX10_book_50 ml_X10_236 mv_X7_fault (T := TX7) (ci := 6) rfl sp28 (by decide) (by decide) rfl ⟨Nat.le_of_ble_eq_true rfl, Nat.le_of_ble_eq_true rfl⟩ (Nat.le_of_ble_eq_true rfl) (c_X7_fault hc15) ?_
  refine ev_isub dX10_book_53 ?_
  obtain rfl := Option.some.inj h
  dsimp only
  exact ev_iret dX10_book_54 rfl rfl
set_option maxHeartbeats 4000000 in
set_option maxRecDepth 20000 in
theorem c_X10_candOf {σ : Mem} {x1 x2 : Int}  {q : (Int × Mem)} (h : f_X10_candOf σ x1 x2 = some q) : Ms yX10_candOf M_X10_candOf 210 210 [(2, (0 : Int)), (0, x1), (0, x2)] rho σ (some (0, q.1), rho, q.2) := by
  refine Ms.of 0 (by decide +kernel) rfl (fun z => absurd z (by decide)) (fun _ _ _ => trivial) rfl rfl ?_
  unfold f_X10_candOf at h
  show Ev M_X10_candOf 210 210 _ 0 210 rho σ [(2, (0 : Int)), (0, x1), (0, x2)] []
  refine ev_aload_n dX10_candOf_0 rfl (by decide) ?_
  refine ev_getf (j := 0) (t := 2) (x := (1 : Int)) dX10_candOf_1 cf_X10 wf_X10_12 sp0 (by decide) (by decide) rfl (by decide) (rp0_0 _) ?_
  refine ev_iload_n dX10_candOf_4 rfl ?_
  obtain ⟨v1, hc2, h⟩ := bind_of h
  refine ev_invV_v (k := (1 : Int)) (av := [(0, x1)]) (st := []) (v := (0, v1)) (τ := σ) dX10_candOf_5 ml_X10_124 mv_X0_hasCand (T := TX0) (ci := 0) rfl sp1 (by decide) (by decide) rfl ⟨Nat.le_of_ble_eq_true rfl, Nat.le_of_ble_eq_true rfl⟩ (Nat.le_of_ble_eq_true rfl) (c_X0_hasCand hB1 hc2) ?_
  refine ev_if_ne (tgt := 18) dX10_candOf_8 rfl h (fun cb h => ?_) (fun cb h => ?_)
  · refine ev_iload_n dX10_candOf_18 rfl ?_
    refine ev_by h (fun cs h => ?_) (fun cs0 h => ?_)
    · refine ev_tswIn (off := 37) (tgt := 56) dX10_candOf_19 (by rw [cs]; decide) (by rw [cs]; decide) (by rw [cs]; rfl) rfl ?_
      refine ev_aload_n dX10_candOf_56 rfl (by decide) ?_
      refine ev_getf (j := 0) (t := 2) (x := (1 : Int)) dX10_candOf_57 cf_X10 wf_X10_12 sp0 (by decide) (by decide) rfl (by decide) (rp0_0 _) ?_
      refine ev_getf (j := 3) (t := 2) (x := (5 : Int)) dX10_candOf_60 cf_X0 wf_X10_139 sp1 (by decide) (by decide) rfl (by decide) (rp1_3 _) ?_
      refine ev_iload_n dX10_candOf_63 rfl ?_
      refine ev_iald dX10_candOf_64 sp5 (by decide) (by decide) h (fun h => ?_)
      obtain rfl := Option.some.inj h
      dsimp only
      exact ev_iret dX10_candOf_65 rfl rfl
    refine ev_by h (fun cs h => ?_) (fun cs1 h => ?_)
    · refine ev_tswIn (off := 47) (tgt := 66) dX10_candOf_19 (by rw [cs]; decide) (by rw [cs]; decide) (by rw [cs]; rfl) rfl ?_
      refine ev_aload_n dX10_candOf_66 rfl (by decide) ?_
      refine ev_getf (j := 0) (t := 2) (x := (1 : Int)) dX10_candOf_67 cf_X10 wf_X10_12 sp0 (by decide) (by decide) rfl (by decide) (rp0_0 _) ?_
      refine ev_getf (j := 4) (t := 2) (x := (6 : Int)) dX10_candOf_70 cf_X0 wf_X10_145 sp1 (by decide) (by decide) rfl (by decide) (rp1_4 _) ?_
      refine ev_iload_n dX10_candOf_73 rfl ?_
      refine ev_iald dX10_candOf_74 sp6 (by decide) (by decide) h (fun h => ?_)
      obtain rfl := Option.some.inj h
      dsimp only
      exact ev_iret dX10_candOf_75 rfl rfl
    refine ev_by h (fun cs h => ?_) (fun cs2 h => ?_)
    · refine ev_tswIn (off := 57) (tgt := 76) dX10_candOf_19 (by rw [cs]; decide) (by rw [cs]; decide) (by rw [cs]; rfl) rfl ?_
      refine ev_aload_n dX10_candOf_76 rfl (by decide) ?_
      refine ev_getf (j := 0) (t := 2) (x := (1 : Int)) dX10_candOf_77 cf_X10 wf_X10_12 sp0 (by decide) (by decide) rfl (by decide) (rp0_0 _) ?_
      refine ev_getf (j := 5) (t := 2) (x := (7 : Int)) dX10_candOf_80 cf_X0 wf_X10_199 sp1 (by decide) (by decide) rfl (by decide) (rp1_5 _) ?_
      refine ev_iload_n dX10_candOf_83 rfl ?_
      refine ev_iald dX10_candOf_84 sp7 (by decide) (by decide) h (fun h => ?_)
      obtain rfl := Option.some.inj h
      dsimp only
      exact ev_iret dX10_candOf_85 rfl rfl
    refine ev_by h (fun cs h => ?_) (fun cs3 h => ?_)
    · refine ev_tswIn (off := 67) (tgt := 86) dX10_candOf_19 (by rw [cs]; decide) (by rw [cs]; decide) (by rw [cs]; rfl) rfl ?_
      refine ev_aload_n dX10_candOf_86 rfl (by decide) ?_
      refine ev_getf (j := 0) (t := 2) (x := (1 : Int)) dX10_candOf_87 cf_X10 wf_X10_12 sp0 (by decide) (by decide) rfl (by decide) (rp0_0 _) ?_
      refine ev_getf (j := 6) (t := 2) (x := (8 : Int)) dX10_candOf_90 cf_X0 wf_X10_239 sp1 (by decide) (by decide) rfl (by decide) (rp1_6 _) ?_
      refine ev_iload_n dX10_candOf_93 rfl ?_
      refine ev_iald dX10_candOf_94 sp8 (by decide) (by decide) h (fun h => ?_)
      obtain rfl := Option.some.inj h
      dsimp only
      exact ev_iret dX10_candOf_95 rfl rfl
    refine ev_by h (fun cs h => ?_) (fun cs4 h => ?_)
    · refine ev_tswIn (off := 77) (tgt := 96) dX10_candOf_19 (by rw [cs]; decide) (by rw [cs]; decide) (by rw [cs]; rfl) rfl ?_
      refine ev_aload_n dX10_candOf_96 rfl (by decide) ?_
      refine ev_getf (j := 0) (t := 2) (x := (1 : Int)) dX10_candOf_97 cf_X10 wf_X10_12 sp0 (by decide) (by decide) rfl (by decide) (rp0_0 _) ?_
      refine ev_iload_n dX10_candOf_100 rfl ?_
      obtain ⟨v3, hc4, h⟩ := bind_of h
      refine ev_invV_v (k := (1 : Int)) (av := [(0, x1)]) (st := []) (v := (0, v3)) (τ := σ) dX10_candOf_101 ml_X10_242 mv_X0_restFor (T := TX0) (ci := 0) rfl sp1 (by decide) (by decide) rfl ⟨Nat.le_of_ble_eq_true rfl, Nat.le_of_ble_eq_true rfl⟩ (Nat.le_of_ble_eq_true rfl) (c_X0_restFor hB1 hc4) ?_
      obtain rfl := Option.some.inj h
      dsimp only
      exact ev_iret dX10_candOf_104 rfl rfl
    refine ev_by h (fun cs h => ?_) (fun cs5 h => ?_)
    · refine ev_tswIn (off := 86) (tgt := 105) dX10_candOf_19 (by rw [cs]; decide) (by rw [cs]; decide) (by rw [cs]; rfl) rfl ?_
      refine ev_aload_n dX10_candOf_105 rfl (by decide) ?_
      refine ev_getf (j := 8) (t := 2) (x := (43 : Int)) dX10_candOf_106 cf_X10 wf_X10_52 sp0 (by decide) (by decide) rfl (by decide) (rp0_8 _) ?_
      refine ev_iload_n dX10_candOf_109 rfl ?_
      obtain ⟨v5, hc6, h⟩ := bind_of h
      refine ev_invV_v (k := (43 : Int)) (av := [(0, x1)]) (st := []) (v := (2, v5.1)) (τ := v5.2) dX10_candOf_110 ml_X10_245 mv_X9_of (T := TX9) (ci := 8) rfl sp43 (by decide) (by decide) rfl ⟨Nat.le_of_ble_eq_true rfl, Nat.le_of_ble_eq_true rfl⟩ (Nat.le_of_ble_eq_true rfl) (c_X9_of hc6) ?_
      have hw7 := w_X9_of hc6
      obtain ⟨v8, hc9, h⟩ := bind_of h
      refine ev_invV_v (k := v5.1) (av := []) (st := []) (v := (0, v8)) (τ := v5.2) dX10_candOf_113 ml_X10_249 mv_X8_cants (T := TX8) (ci := 7) rfl (sW hw7) (pW hw7).1 (pW hw7).2 rfl ⟨Nat.le_of_ble_eq_true rfl, Nat.le_of_ble_eq_true rfl⟩ (Nat.le_of_ble_eq_true rfl) (c_X8_cants hw7 hc9) ?_
      obtain rfl := Option.some.inj h
      dsimp only
      exact ev_iret dX10_candOf_116 rfl rfl
    refine ev_tswOut (tgt := 117) dX10_candOf_19 (by omega) rfl ?_
    refine ev_aload_n dX10_candOf_117 rfl (by decide) ?_
    refine ev_bipush dX10_candOf_118 (by decide) (by decide) ?_
    obtain ⟨v10, hc11, h⟩ := bind_of h
    refine ev_invV_v (k := (0 : Int)) (av := [(0, (-52 : Int))]) (st := []) (v := (0, v10.1)) (τ := v10.2) dX10_candOf_120 ml_X10_90 mv_X10_refuse (T := TX10) (ci := 9) rfl sp0 (by decide) (by decide) rfl ⟨Nat.le_of_ble_eq_true rfl, Nat.le_of_ble_eq_true rfl⟩ (Nat.le_of_ble_eq_true rfl) (c_X10_refuse hc11) ?_
    obtain rfl := Option.some.inj h
    dsimp only
    exact ev_iret dX10_candOf_123 rfl rfl
  refine ev_aload_n dX10_candOf_11 rfl (by decide) ?_
  refine ev_bipush dX10_candOf_12 (by decide) (by decide) ?_
  obtain ⟨v12, hc13, h⟩ := bind_of h
  refine ev_invV_v (k := (0 : Int)) (av := [(0, (-52 : Int))]) (st := []) (v := (0, v12.1)) (τ := v12.2) dX10_candOf_14 ml_X10_90 mv_X10_refuse (T := TX10) (ci := 9) rfl sp0 (by decide) (by decide) rfl ⟨Nat.le_of_ble_eq_true rfl, Nat.le_of_ble_eq_true rfl⟩ (Nat.le_of_ble_eq_true rfl) (c_X10_refuse hc13) ?_
  obtain rfl := Option.some.inj h
  dsimp only
  exact ev_iret dX10_candOf_17 rfl rfl
def K_X10_takersOf_4 (σ : Mem) (x1 : Int) (r : Option V × Mem × Mem) : (Int × Int) ⊕ ((Int)) → Prop := Sum.elim (fun a => Ev M_X10_takersOf 210 210 r 4 210 rho σ [(2, (0 : Int)), (0, x1), (0, a.1), (0, a.2)] []) (fun e => Ev M_X10_takersOf 210 210 r 36 210 rho σ [(9, 0), (9, 0), (0, e), (9, 0)] [])
set_option maxHeartbeats 4000000 in
set_option maxRecDepth 20000 in
theorem e_X10_takersOf_30 (σ : Mem) (x1 x2 x3 : Int)  {q : ((Int × Int) ⊕ ((Int)))} (h : f_X10_takersOf_30 σ x1 x2 x3 = some q) {r : Option V × Mem × Mem} (K : K_X10_takersOf_4 σ x1 r q) : Ev M_X10_takersOf 210 210 r 30 210 rho σ [(2, (0 : Int)), (0, x1), (0, x2), (0, x3)] [] := by
  unfold f_X10_takersOf_30 at h
  refine ev_iincG dX10_takersOf_30 rfl h rfl (fun v4 h => ?_)
  show Ev _ _ _ _ 33 _ _ _ [(2, (0 : Int)), (0, x1), (0, x2), (0, v4)] _
  refine ev_goto (tgt := 4) dX10_takersOf_33 rfl ?_
  obtain rfl := Option.some.inj h
  exact ev_sub (L2 := [(2, (0 : Int)), (0, x1), (0, x2), (0, v4)]) K ⟨.inr rfl, .inr rfl, .inr rfl, .inr rfl, trivial⟩
set_option maxHeartbeats 4000000 in
set_option maxRecDepth 20000 in
theorem b_X10_takersOf_4 (σ : Mem) (x1 : Int)  {r : Option V × Mem × Mem} : ∀ a x, f_X10_takersOf_4B σ x1 a = some x → K_X10_takersOf_4 σ x1 r x → K_X10_takersOf_4 σ x1 r (.inl a) := by
  intro a x h K
  obtain ⟨x2, x3⟩ := a
  have h : f_X10_takersOf_4C σ x1 x2 x3 = some x := h
  unfold f_X10_takersOf_4C at h
  show Ev M_X10_takersOf 210 210 r 4 210 rho σ [(2, (0 : Int)), (0, x1), (0, x2), (0, x3)] []
  refine ev_iload_n dX10_takersOf_4 rfl ?_
  refine ev_aload_n dX10_takersOf_5 rfl (by decide) ?_
  refine ev_getf (j := 0) (t := 2) (x := (1 : Int)) dX10_takersOf_6 cf_X10 wf_X10_12 sp0 (by decide) (by decide) rfl (by decide) (rp0_0 _) ?_
  refine ev_getf (j := 9) (t := 0) (x := (σ (1 : Int) 9)) dX10_takersOf_9 cf_X0 wf_X10_176 sp1 (by decide) (by decide) rfl (by decide) rfl ?_
  refine ev_icmp_ge (tgt := 36) dX10_takersOf_12 rfl h (fun cb h => ?_) (fun cb h => ?_)
  · obtain rfl := Option.some.inj h
    exact ev_sub (L2 := [(9, 0), (9, 0), (0, x2), (9, 0)]) K ⟨.inl rfl, .inl rfl, .inr rfl, .inl rfl, trivial⟩
  refine ev_aload_n dX10_takersOf_15 rfl (by decide) ?_
  refine ev_getf (j := 0) (t := 2) (x := (1 : Int)) dX10_takersOf_16 cf_X10 wf_X10_12 sp0 (by decide) (by decide) rfl (by decide) (rp0_0 _) ?_
  refine ev_iload_n dX10_takersOf_19 rfl ?_
  refine ev_iload_n dX10_takersOf_20 rfl ?_
  obtain ⟨v1, hc2, h⟩ := bind_of h
  refine ev_invV_v (k := (1 : Int)) (av := [(0, x3), (0, x1)]) (st := []) (v := (0, v1)) (τ := σ) dX10_takersOf_21 ml_X10_190 mv_X0_doesTake (T := TX0) (ci := 0) rfl sp1 (by decide) (by decide) rfl ⟨Nat.le_of_ble_eq_true rfl, Nat.le_of_ble_eq_true rfl⟩ (Nat.le_of_ble_eq_true rfl) (c_X0_doesTake hB1 hc2) ?_
  refine ev_if_eq (tgt := 30) dX10_takersOf_24 rfl h (fun cb h => ?_) (fun cb h => ?_)
  · exact ev_sub (L2 := [(2, (0 : Int)), (0, x1), (0, x2), (0, x3)]) (e_X10_takersOf_30 σ x1 x2 x3 h K) ⟨.inr rfl, .inr rfl, .inr rfl, .inr rfl, trivial⟩
  refine ev_iincG dX10_takersOf_27 rfl h rfl (fun v3 h => ?_)
  show Ev _ _ _ _ 30 _ _ _ [(2, (0 : Int)), (0, x1), (0, v3), (0, x3)] _
  exact ev_sub (L2 := [(2, (0 : Int)), (0, x1), (0, v3), (0, x3)]) (e_X10_takersOf_30 σ x1 v3 x3 h K) ⟨.inr rfl, .inr rfl, .inr rfl, .inr rfl, trivial⟩
set_option maxHeartbeats 4000000 in
set_option maxRecDepth 20000 in
theorem e_X10_takersOf_4 (σ : Mem) (x1 x2 x3 : Int)  {q : Int} (h : f_X10_takersOf_4 σ x1 x2 x3 = some q) : Ev M_X10_takersOf 210 210 (some (0, q), rho, σ) 4 210 rho σ [(2, (0 : Int)), (0, x1), (0, x2), (0, x3)] [] := by
  unfold f_X10_takersOf_4 at h
  obtain ⟨e, hl, h⟩ := bind_of h
  refine loop_ev (K := K_X10_takersOf_4 σ x1 (some (0, q), rho, σ)) (b_X10_takersOf_4 σ x1) FU (x2, x3) e hl ?_
  show Ev M_X10_takersOf 210 210 _ 36 210 rho σ [(9, 0), (9, 0), (0, e), (9, 0)] []
  replace h : some e = some q := h
  refine ev_iload_n dX10_takersOf_36 rfl ?_
  obtain rfl := Option.some.inj h
  exact ev_iret dX10_takersOf_37 rfl rfl
set_option maxHeartbeats 4000000 in
set_option maxRecDepth 20000 in
theorem c_X10_takersOf {σ : Mem} {x1 : Int}  {q : Int} (h : f_X10_takersOf σ x1 = some q) : Ms yX10_takersOf M_X10_takersOf 210 210 [(2, (0 : Int)), (0, x1)] rho σ (some (0, q), rho, σ) := by
  refine Ms.of 2 (by decide +kernel) rfl (fun z => absurd z (by decide)) (fun _ _ _ => trivial) rfl rfl ?_
  unfold f_X10_takersOf at h
  show Ev M_X10_takersOf 210 210 _ 0 210 rho σ [(2, (0 : Int)), (0, x1), (9, 0), (9, 0)] []
  refine ev_iconst dX10_takersOf_0 (by decide) ?_
  refine ev_istore_n dX10_takersOf_1 rfl (by decide) ?_
  show Ev _ _ _ _ 2 _ _ _ [(2, (0 : Int)), (0, x1), (0, (0 : Int)), (9, 0)] _
  refine ev_iconst dX10_takersOf_2 (by decide) ?_
  refine ev_istore_n dX10_takersOf_3 rfl (by decide) ?_
  show Ev _ _ _ _ 4 _ _ _ [(2, (0 : Int)), (0, x1), (0, (0 : Int)), (0, (0 : Int))] _
  exact ev_sub (L2 := [(2, (0 : Int)), (0, x1), (0, (0 : Int)), (0, (0 : Int))]) (e_X10_takersOf_4 σ x1 (0 : Int) (0 : Int) h) ⟨.inr rfl, .inr rfl, .inr rfl, .inr rfl, trivial⟩
def K_X10_lateOnesOf_4 (x1 : Int) (r : Option V × Mem × Mem) : (Int × Int × Mem) ⊕ ((Int × Mem)) → Prop := Sum.elim (fun a => Ev M_X10_lateOnesOf 210 210 r 4 210 rho a.2.2 [(2, (0 : Int)), (0, x1), (0, a.1), (0, a.2.1)] []) (fun e => Ev M_X10_lateOnesOf 210 210 r 43 210 rho e.2 [(9, 0), (9, 0), (0, e.1), (9, 0)] [])
set_option maxHeartbeats 4000000 in
set_option maxRecDepth 20000 in
theorem e_X10_lateOnesOf_37 (σ : Mem) (x1 x2 x3 : Int)  {q : ((Int × Int × Mem) ⊕ ((Int × Mem)))} (h : f_X10_lateOnesOf_37 σ x1 x2 x3 = some q) {r : Option V × Mem × Mem} (K : K_X10_lateOnesOf_4 x1 r q) : Ev M_X10_lateOnesOf 210 210 r 37 210 rho σ [(2, (0 : Int)), (0, x1), (0, x2), (0, x3)] [] := by
  unfold f_X10_lateOnesOf_37 at h
  refine ev_iincG dX10_lateOnesOf_37 rfl h rfl (fun v7 h => ?_)
  show Ev _ _ _ _ 40 _ _ _ [(2, (0 : Int)), (0, x1), (0, x2), (0, v7)] _
  refine ev_goto (tgt := 4) dX10_lateOnesOf_40 rfl ?_
  obtain rfl := Option.some.inj h
  exact ev_sub (L2 := [(2, (0 : Int)), (0, x1), (0, x2), (0, v7)]) K ⟨.inr rfl, .inr rfl, .inr rfl, .inr rfl, trivial⟩
set_option maxHeartbeats 4000000 in
set_option maxRecDepth 20000 in
theorem b_X10_lateOnesOf_4 (x1 : Int)  {r : Option V × Mem × Mem} : ∀ a x, f_X10_lateOnesOf_4B x1 a = some x → K_X10_lateOnesOf_4 x1 r x → K_X10_lateOnesOf_4 x1 r (.inl a) := by
  intro a x h K
  obtain ⟨x2, x3, σ⟩ := a
  have h : f_X10_lateOnesOf_4C x1 x2 x3 σ = some x := h
  unfold f_X10_lateOnesOf_4C at h
  show Ev M_X10_lateOnesOf 210 210 r 4 210 rho σ [(2, (0 : Int)), (0, x1), (0, x2), (0, x3)] []
  refine ev_iload_n dX10_lateOnesOf_4 rfl ?_
  refine ev_aload_n dX10_lateOnesOf_5 rfl (by decide) ?_
  refine ev_getf (j := 0) (t := 2) (x := (1 : Int)) dX10_lateOnesOf_6 cf_X10 wf_X10_12 sp0 (by decide) (by decide) rfl (by decide) (rp0_0 _) ?_
  refine ev_getf (j := 9) (t := 0) (x := (σ (1 : Int) 9)) dX10_lateOnesOf_9 cf_X0 wf_X10_176 sp1 (by decide) (by decide) rfl (by decide) rfl ?_
  refine ev_icmp_ge (tgt := 43) dX10_lateOnesOf_12 rfl h (fun cb h => ?_) (fun cb h => ?_)
  · obtain rfl := Option.some.inj h
    exact ev_sub (L2 := [(9, 0), (9, 0), (0, x2), (9, 0)]) K ⟨.inl rfl, .inl rfl, .inr rfl, .inl rfl, trivial⟩
  refine ev_aload_n dX10_lateOnesOf_15 rfl (by decide) ?_
  refine ev_getf (j := 8) (t := 2) (x := (43 : Int)) dX10_lateOnesOf_16 cf_X10 wf_X10_52 sp0 (by decide) (by decide) rfl (by decide) (rp0_8 _) ?_
  refine ev_iload_n dX10_lateOnesOf_19 rfl ?_
  obtain ⟨v1, hc2, h⟩ := bind_of h
  refine ev_invV_v (k := (43 : Int)) (av := [(0, x3)]) (st := []) (v := (2, v1.1)) (τ := v1.2) dX10_lateOnesOf_20 ml_X10_245 mv_X9_of (T := TX9) (ci := 8) rfl sp43 (by decide) (by decide) rfl ⟨Nat.le_of_ble_eq_true rfl, Nat.le_of_ble_eq_true rfl⟩ (Nat.le_of_ble_eq_true rfl) (c_X9_of hc2) ?_
  have hw3 := w_X9_of hc2
  refine ev_aload_n dX10_lateOnesOf_23 rfl (by decide) ?_
  refine ev_getf (j := 0) (t := 2) (x := (1 : Int)) dX10_lateOnesOf_24 cf_X10 wf_X10_12 sp0 (by decide) (by decide) rfl (by decide) (rp0_0 _) ?_
  refine ev_iload_n dX10_lateOnesOf_27 rfl ?_
  obtain ⟨v4, hc5, h⟩ := bind_of h
  refine ev_invV_v (k := v1.1) (av := [(2, (1 : Int)), (0, x1)]) (st := []) (v := (0, v4)) (τ := v1.2) dX10_lateOnesOf_28 ml_X10_423 mv_X8_beginsLate (T := TX8) (ci := 7) rfl (sW hw3) (pW hw3).1 (pW hw3).2 rfl ⟨Nat.le_of_ble_eq_true rfl, Nat.le_of_ble_eq_true rfl⟩ (Nat.le_of_ble_eq_true rfl) (c_X8_beginsLate hw3 hB1 hc5) ?_
  refine ev_if_eq (tgt := 37) dX10_lateOnesOf_31 rfl h (fun cb h => ?_) (fun cb h => ?_)
  · exact ev_sub (L2 := [(2, (0 : Int)), (0, x1), (0, x2), (0, x3)]) (e_X10_lateOnesOf_37 v1.2 x1 x2 x3 h K) ⟨.inr rfl, .inr rfl, .inr rfl, .inr rfl, trivial⟩
  refine ev_iincG dX10_lateOnesOf_34 rfl h rfl (fun v6 h => ?_)
  show Ev _ _ _ _ 37 _ _ _ [(2, (0 : Int)), (0, x1), (0, v6), (0, x3)] _
  exact ev_sub (L2 := [(2, (0 : Int)), (0, x1), (0, v6), (0, x3)]) (e_X10_lateOnesOf_37 v1.2 x1 v6 x3 h K) ⟨.inr rfl, .inr rfl, .inr rfl, .inr rfl, trivial⟩
set_option maxHeartbeats 4000000 in
set_option maxRecDepth 20000 in
theorem e_X10_lateOnesOf_4 (σ : Mem) (x1 x2 x3 : Int)  {q : (Int × Mem)} (h : f_X10_lateOnesOf_4 σ x1 x2 x3 = some q) : Ev M_X10_lateOnesOf 210 210 (some (0, q.1), rho, q.2) 4 210 rho σ [(2, (0 : Int)), (0, x1), (0, x2), (0, x3)] [] := by
  unfold f_X10_lateOnesOf_4 at h
  obtain ⟨e, hl, h⟩ := bind_of h
  refine loop_ev (K := K_X10_lateOnesOf_4 x1 (some (0, q.1), rho, q.2)) (b_X10_lateOnesOf_4 x1) FU (x2, x3, σ) e hl ?_
  show Ev M_X10_lateOnesOf 210 210 _ 43 210 rho e.2 [(9, 0), (9, 0), (0, e.1), (9, 0)] []
  replace h : some (e.1, e.2) = some q := h
  refine ev_iload_n dX10_lateOnesOf_43 rfl ?_
  obtain rfl := Option.some.inj h
  dsimp only
  exact ev_iret dX10_lateOnesOf_44 rfl rfl
set_option maxHeartbeats 4000000 in
set_option maxRecDepth 20000 in
theorem c_X10_lateOnesOf {σ : Mem} {x1 : Int}  {q : (Int × Mem)} (h : f_X10_lateOnesOf σ x1 = some q) : Ms yX10_lateOnesOf M_X10_lateOnesOf 210 210 [(2, (0 : Int)), (0, x1)] rho σ (some (0, q.1), rho, q.2) := by
  refine Ms.of 2 (by decide +kernel) rfl (fun z => absurd z (by decide)) (fun _ _ _ => trivial) rfl rfl ?_
  unfold f_X10_lateOnesOf at h
  show Ev M_X10_lateOnesOf 210 210 _ 0 210 rho σ [(2, (0 : Int)), (0, x1), (9, 0), (9, 0)] []
  refine ev_iconst dX10_lateOnesOf_0 (by decide) ?_
  refine ev_istore_n dX10_lateOnesOf_1 rfl (by decide) ?_
  show Ev _ _ _ _ 2 _ _ _ [(2, (0 : Int)), (0, x1), (0, (0 : Int)), (9, 0)] _
  refine ev_iconst dX10_lateOnesOf_2 (by decide) ?_
  refine ev_istore_n dX10_lateOnesOf_3 rfl (by decide) ?_
  show Ev _ _ _ _ 4 _ _ _ [(2, (0 : Int)), (0, x1), (0, (0 : Int)), (0, (0 : Int))] _
  exact ev_sub (L2 := [(2, (0 : Int)), (0, x1), (0, (0 : Int)), (0, (0 : Int))]) (e_X10_lateOnesOf_4 σ x1 (0 : Int) (0 : Int) h) ⟨.inr rfl, .inr rfl, .inr rfl, .inr rfl, trivial⟩
set_option maxHeartbeats 4000000 in
set_option maxRecDepth 20000 in
theorem c_X10_paperOf {σ : Mem} {x1 x2 : Int}  {q : (Int × Mem)} (h : f_X10_paperOf σ x1 x2 = some q) : Ms yX10_paperOf M_X10_paperOf 210 210 [(2, (0 : Int)), (0, x1), (0, x2)] rho σ (some (0, q.1), rho, q.2) := by
  refine Ms.of 0 (by decide +kernel) rfl (fun z => absurd z (by decide)) (fun _ _ _ => trivial) rfl rfl ?_
  unfold f_X10_paperOf at h
  show Ev M_X10_paperOf 210 210 _ 0 210 rho σ [(2, (0 : Int)), (0, x1), (0, x2)] []
  refine ev_aload_n dX10_paperOf_0 rfl (by decide) ?_
  refine ev_getf (j := 0) (t := 2) (x := (1 : Int)) dX10_paperOf_1 cf_X10 wf_X10_12 sp0 (by decide) (by decide) rfl (by decide) (rp0_0 _) ?_
  refine ev_iload_n dX10_paperOf_4 rfl ?_
  refine ev_i2lk dX10_paperOf_5 ?_
  obtain ⟨v1, hc2, h⟩ := bind_of h
  refine ev_invV_v (k := (1 : Int)) (av := [(1, x1)]) (st := []) (v := (0, v1)) (τ := σ) dX10_paperOf_6 ml_X10_166 mv_X0_hasPaper (T := TX0) (ci := 0) rfl sp1 (by decide) (by decide) rfl ⟨Nat.le_of_ble_eq_true rfl, Nat.le_of_ble_eq_true rfl⟩ (Nat.le_of_ble_eq_true rfl) (c_X0_hasPaper hB1 hc2) ?_
  refine ev_if_ne (tgt := 19) dX10_paperOf_9 rfl h (fun cb h => ?_) (fun cb h => ?_)
  · refine ev_iload_n dX10_paperOf_19 rfl ?_
    refine ev_by h (fun cs h => ?_) (fun cs0 h => ?_)
    · refine ev_tswIn (off := 36) (tgt := 56) dX10_paperOf_20 (by rw [cs]; decide) (by rw [cs]; decide) (by rw [cs]; rfl) rfl ?_
      refine ev_aload_n dX10_paperOf_56 rfl (by decide) ?_
      refine ev_getf (j := 0) (t := 2) (x := (1 : Int)) dX10_paperOf_57 cf_X10 wf_X10_12 sp0 (by decide) (by decide) rfl (by decide) (rp0_0 _) ?_
      refine ev_getf (j := 0) (t := 2) (x := (2 : Int)) dX10_paperOf_60 cf_X0 wf_X10_252 sp1 (by decide) (by decide) rfl (by decide) (rp1_0 _) ?_
      refine ev_iload_n dX10_paperOf_63 rfl ?_
      refine ev_iald dX10_paperOf_64 sp2 (by decide) (by decide) h (fun h => ?_)
      obtain rfl := Option.some.inj h
      dsimp only
      exact ev_iret dX10_paperOf_65 rfl rfl
    refine ev_by h (fun cs h => ?_) (fun cs1 h => ?_)
    · refine ev_tswIn (off := 46) (tgt := 66) dX10_paperOf_20 (by rw [cs]; decide) (by rw [cs]; decide) (by rw [cs]; rfl) rfl ?_
      refine ev_aload_n dX10_paperOf_66 rfl (by decide) ?_
      refine ev_getf (j := 0) (t := 2) (x := (1 : Int)) dX10_paperOf_67 cf_X10 wf_X10_12 sp0 (by decide) (by decide) rfl (by decide) (rp0_0 _) ?_
      refine ev_getf (j := 1) (t := 2) (x := (3 : Int)) dX10_paperOf_70 cf_X0 wf_X10_170 sp1 (by decide) (by decide) rfl (by decide) (rp1_1 _) ?_
      refine ev_iload_n dX10_paperOf_73 rfl ?_
      refine ev_iald dX10_paperOf_74 sp3 (by decide) (by decide) h (fun h => ?_)
      obtain rfl := Option.some.inj h
      dsimp only
      exact ev_iret dX10_paperOf_75 rfl rfl
    refine ev_by h (fun cs h => ?_) (fun cs2 h => ?_)
    · refine ev_tswIn (off := 56) (tgt := 76) dX10_paperOf_20 (by rw [cs]; decide) (by rw [cs]; decide) (by rw [cs]; rfl) rfl ?_
      refine ev_aload_n dX10_paperOf_76 rfl (by decide) ?_
      refine ev_getf (j := 0) (t := 2) (x := (1 : Int)) dX10_paperOf_77 cf_X10 wf_X10_12 sp0 (by decide) (by decide) rfl (by decide) (rp0_0 _) ?_
      refine ev_getf (j := 2) (t := 2) (x := (4 : Int)) dX10_paperOf_80 cf_X0 wf_X10_255 sp1 (by decide) (by decide) rfl (by decide) (rp1_2 _) ?_
      refine ev_iload_n dX10_paperOf_83 rfl ?_
      refine ev_iald dX10_paperOf_84 sp4 (by decide) (by decide) h (fun h => ?_)
      obtain rfl := Option.some.inj h
      dsimp only
      exact ev_iret dX10_paperOf_85 rfl rfl
    refine ev_by h (fun cs h => ?_) (fun cs3 h => ?_)
    · refine ev_tswIn (off := 66) (tgt := 86) dX10_paperOf_20 (by rw [cs]; decide) (by rw [cs]; decide) (by rw [cs]; rfl) rfl ?_
      refine ev_aload_n dX10_paperOf_86 rfl (by decide) ?_
      refine ev_iload_n dX10_paperOf_87 rfl ?_
      obtain ⟨v3, hc4, h⟩ := bind_of h
      refine ev_invV_v (k := (0 : Int)) (av := [(0, x1)]) (st := []) (v := (0, v3)) (τ := σ) dX10_paperOf_88 ml_X10_258 mv_X10_takersOf (T := TX10) (ci := 9) rfl sp0 (by decide) (by decide) rfl ⟨Nat.le_of_ble_eq_true rfl, Nat.le_of_ble_eq_true rfl⟩ (Nat.le_of_ble_eq_true rfl) (c_X10_takersOf hc4) ?_
      obtain rfl := Option.some.inj h
      dsimp only
      exact ev_iret dX10_paperOf_91 rfl rfl
    refine ev_by h (fun cs h => ?_) (fun cs4 h => ?_)
    · refine ev_tswIn (off := 72) (tgt := 92) dX10_paperOf_20 (by rw [cs]; decide) (by rw [cs]; decide) (by rw [cs]; rfl) rfl ?_
      refine ev_aload_n dX10_paperOf_92 rfl (by decide) ?_
      refine ev_iload_n dX10_paperOf_93 rfl ?_
      obtain ⟨v5, hc6, h⟩ := bind_of h
      refine ev_invV_v (k := (0 : Int)) (av := [(0, x1)]) (st := []) (v := (0, v5.1)) (τ := v5.2) dX10_paperOf_94 ml_X10_261 mv_X10_lateOnesOf (T := TX10) (ci := 9) rfl sp0 (by decide) (by decide) rfl ⟨Nat.le_of_ble_eq_true rfl, Nat.le_of_ble_eq_true rfl⟩ (Nat.le_of_ble_eq_true rfl) (c_X10_lateOnesOf hc6) ?_
      obtain rfl := Option.some.inj h
      dsimp only
      exact ev_iret dX10_paperOf_97 rfl rfl
    refine ev_tswOut (tgt := 98) dX10_paperOf_20 (by omega) rfl ?_
    refine ev_aload_n dX10_paperOf_98 rfl (by decide) ?_
    refine ev_bipush dX10_paperOf_99 (by decide) (by decide) ?_
    obtain ⟨v7, hc8, h⟩ := bind_of h
    refine ev_invV_v (k := (0 : Int)) (av := [(0, (-52 : Int))]) (st := []) (v := (0, v7.1)) (τ := v7.2) dX10_paperOf_101 ml_X10_90 mv_X10_refuse (T := TX10) (ci := 9) rfl sp0 (by decide) (by decide) rfl ⟨Nat.le_of_ble_eq_true rfl, Nat.le_of_ble_eq_true rfl⟩ (Nat.le_of_ble_eq_true rfl) (c_X10_refuse hc8) ?_
    obtain rfl := Option.some.inj h
    dsimp only
    exact ev_iret dX10_paperOf_104 rfl rfl
  refine ev_aload_n dX10_paperOf_12 rfl (by decide) ?_
  refine ev_bipush dX10_paperOf_13 (by decide) (by decide) ?_
  obtain ⟨v9, hc10, h⟩ := bind_of h
  refine ev_invV_v (k := (0 : Int)) (av := [(0, (-52 : Int))]) (st := []) (v := (0, v9.1)) (τ := v9.2) dX10_paperOf_15 ml_X10_90 mv_X10_refuse (T := TX10) (ci := 9) rfl sp0 (by decide) (by decide) rfl ⟨Nat.le_of_ble_eq_true rfl, Nat.le_of_ble_eq_true rfl⟩ (Nat.le_of_ble_eq_true rfl) (c_X10_refuse hc10) ?_
  obtain rfl := Option.some.inj h
  dsimp only
  exact ev_iret dX10_paperOf_18 rfl rfl
set_option maxHeartbeats 4000000 in
set_option maxRecDepth 20000 in
theorem e_X10_time_23 (σ : Mem)  {q : (Int × Mem)} (h : f_X10_time_23 σ  = some q) : Ev M_X10_time 210 210 (some (0, q.1), rho, q.2) 23 210 rho σ [(2, (0 : Int)), (9, 0), (9, 0)] [] := by
  unfold f_X10_time_23 at h
  refine ev_aload_n dX10_time_23 rfl (by decide) ?_
  refine ev_bipush dX10_time_24 (by decide) (by decide) ?_
  obtain ⟨v7, hc8, h⟩ := bind_of h
  refine ev_invV_v (k := (0 : Int)) (av := [(0, (-52 : Int))]) (st := []) (v := (0, v7.1)) (τ := v7.2) dX10_time_26 ml_X10_90 mv_X10_refuse (T := TX10) (ci := 9) rfl sp0 (by decide) (by decide) rfl ⟨Nat.le_of_ble_eq_true rfl, Nat.le_of_ble_eq_true rfl⟩ (Nat.le_of_ble_eq_true rfl) (c_X10_refuse hc8) ?_
  obtain rfl := Option.some.inj h
  dsimp only
  exact ev_iret dX10_time_29 rfl rfl
set_option maxHeartbeats 4000000 in
set_option maxRecDepth 20000 in
theorem c_X10_time {σ : Mem} {x1 x2 : Int}  {q : (Int × Mem)} (h : f_X10_time σ x1 x2 = some q) : Ms yX10_time M_X10_time 210 210 [(2, (0 : Int)), (0, x1), (0, x2)] rho σ (some (0, q.1), rho, q.2) := by
  refine Ms.of 0 (by decide +kernel) rfl (fun z => absurd z (by decide)) (fun _ _ _ => trivial) rfl rfl ?_
  unfold f_X10_time at h
  show Ev M_X10_time 210 210 _ 0 210 rho σ [(2, (0 : Int)), (0, x1), (0, x2)] []
  refine ev_aload_n dX10_time_0 rfl (by decide) ?_
  refine ev_getf (j := 0) (t := 2) (x := (1 : Int)) dX10_time_1 cf_X10 wf_X10_12 sp0 (by decide) (by decide) rfl (by decide) (rp0_0 _) ?_
  refine ev_iload_n dX10_time_4 rfl ?_
  obtain ⟨v1, hc2, h⟩ := bind_of h
  refine ev_invV_v (k := (1 : Int)) (av := [(0, x1)]) (st := []) (v := (0, v1)) (τ := σ) dX10_time_5 ml_X10_124 mv_X0_hasCand (T := TX0) (ci := 0) rfl sp1 (by decide) (by decide) rfl ⟨Nat.le_of_ble_eq_true rfl, Nat.le_of_ble_eq_true rfl⟩ (Nat.le_of_ble_eq_true rfl) (c_X0_hasCand hB1 hc2) ?_
  refine ev_if_eq (tgt := 23) dX10_time_8 rfl h (fun cb h => ?_) (fun cb h => ?_)
  · exact ev_sub (L2 := [(2, (0 : Int)), (9, 0), (9, 0)]) (e_X10_time_23 σ h) ⟨.inr rfl, .inl rfl, .inl rfl, trivial⟩
  refine ev_aload_n dX10_time_11 rfl (by decide) ?_
  refine ev_getf (j := 0) (t := 2) (x := (1 : Int)) dX10_time_12 cf_X10 wf_X10_12 sp0 (by decide) (by decide) rfl (by decide) (rp0_0 _) ?_
  refine ev_iload_n dX10_time_15 rfl ?_
  refine ev_i2lk dX10_time_16 ?_
  obtain ⟨v3, hc4, h⟩ := bind_of h
  refine ev_invV_v (k := (1 : Int)) (av := [(1, x2)]) (st := []) (v := (0, v3)) (τ := σ) dX10_time_17 ml_X10_166 mv_X0_hasPaper (T := TX0) (ci := 0) rfl sp1 (by decide) (by decide) rfl ⟨Nat.le_of_ble_eq_true rfl, Nat.le_of_ble_eq_true rfl⟩ (Nat.le_of_ble_eq_true rfl) (c_X0_hasPaper hB1 hc4) ?_
  refine ev_if_ne (tgt := 30) dX10_time_20 rfl h (fun cb h => ?_) (fun cb h => ?_)
  · refine ev_aload_n dX10_time_30 rfl (by decide) ?_
    refine ev_getf (j := 0) (t := 2) (x := (1 : Int)) dX10_time_31 cf_X10 wf_X10_12 sp0 (by decide) (by decide) rfl (by decide) (rp0_0 _) ?_
    refine ev_iload_n dX10_time_34 rfl ?_
    refine ev_iload_n dX10_time_35 rfl ?_
    obtain ⟨v5, hc6, h⟩ := bind_of h
    refine ev_invV_v (k := (1 : Int)) (av := [(0, x1), (0, x2)]) (st := []) (v := (0, v5)) (τ := σ) dX10_time_36 ml_X10_264 mv_X0_timeFor (T := TX0) (ci := 0) rfl sp1 (by decide) (by decide) rfl ⟨Nat.le_of_ble_eq_true rfl, Nat.le_of_ble_eq_true rfl⟩ (Nat.le_of_ble_eq_true rfl) (c_X0_timeFor hB1 hc6) ?_
    obtain rfl := Option.some.inj h
    dsimp only
    exact ev_iret dX10_time_39 rfl rfl
  exact ev_sub (L2 := [(2, (0 : Int)), (9, 0), (9, 0)]) (e_X10_time_23 σ h) ⟨.inr rfl, .inl rfl, .inl rfl, trivial⟩
set_option maxHeartbeats 4000000 in
set_option maxRecDepth 20000 in
theorem e_X10_plan_18 (σ : Mem)  {q : (Int × Mem)} (h : f_X10_plan_18 σ  = some q) : Ev M_X10_plan 210 210 (some (0, q.1), rho, q.2) 18 210 rho σ [(2, (0 : Int)), (9, 0), (9, 0), (9, 0), (9, 0)] [] := by
  unfold f_X10_plan_18 at h
  refine ev_aload_n dX10_plan_18 rfl (by decide) ?_
  refine ev_bipush dX10_plan_19 (by decide) (by decide) ?_
  obtain ⟨v14, hc15, h⟩ := bind_of h
  refine ev_invV_v (k := (0 : Int)) (av := [(0, (-52 : Int))]) (st := []) (v := (0, v14.1)) (τ := v14.2) dX10_plan_21 ml_X10_90 mv_X10_refuse (T := TX10) (ci := 9) rfl sp0 (by decide) (by decide) rfl ⟨Nat.le_of_ble_eq_true rfl, Nat.le_of_ble_eq_true rfl⟩ (Nat.le_of_ble_eq_true rfl) (c_X10_refuse hc15) ?_
  obtain rfl := Option.some.inj h
  dsimp only
  exact ev_iret dX10_plan_24 rfl rfl
set_option maxHeartbeats 4000000 in
set_option maxRecDepth 20000 in
theorem c_X10_plan {σ : Mem} {x1 x2 x3 : Int}  {q : (Int × Mem)} (h : f_X10_plan σ x1 x2 x3 = some q) : Ms yX10_plan M_X10_plan 210 210 [(2, (0 : Int)), (0, x1), (0, x2), (0, x3)] rho σ (some (0, q.1), rho, q.2) := by
  refine Ms.of 1 (by decide +kernel) rfl (fun z => absurd z (by decide)) (fun _ _ _ => trivial) rfl rfl ?_
  unfold f_X10_plan at h
  show Ev M_X10_plan 210 210 _ 0 210 rho σ [(2, (0 : Int)), (0, x1), (0, x2), (0, x3), (9, 0)] []
  refine ev_aload_n dX10_plan_0 rfl (by decide) ?_
  refine ev_getf (j := 0) (t := 2) (x := (1 : Int)) dX10_plan_1 cf_X10 wf_X10_12 sp0 (by decide) (by decide) rfl (by decide) (rp0_0 _) ?_
  refine ev_iload_n dX10_plan_4 rfl ?_
  obtain ⟨v1, hc2, h⟩ := bind_of h
  refine ev_invV_v (k := (1 : Int)) (av := [(0, x1)]) (st := []) (v := (0, v1)) (τ := σ) dX10_plan_5 ml_X10_124 mv_X0_hasCand (T := TX0) (ci := 0) rfl sp1 (by decide) (by decide) rfl ⟨Nat.le_of_ble_eq_true rfl, Nat.le_of_ble_eq_true rfl⟩ (Nat.le_of_ble_eq_true rfl) (c_X0_hasCand hB1 hc2) ?_
  refine ev_if_eq (tgt := 18) dX10_plan_8 rfl h (fun cb h => ?_) (fun cb h => ?_)
  · exact ev_sub (L2 := [(2, (0 : Int)), (9, 0), (9, 0), (9, 0), (9, 0)]) (e_X10_plan_18 σ h) ⟨.inr rfl, .inl rfl, .inl rfl, .inl rfl, .inl rfl, trivial⟩
  refine ev_iload_n dX10_plan_11 rfl ?_
  obtain ⟨v3, hc4, h⟩ := bind_of h
  refine ev_invS_v (av := [(0, x2)]) (st := []) (v := (0, v3)) (τ := σ) dX10_plan_12 ml_X10_152 mt_X10_isDay rfl ⟨Nat.le_of_ble_eq_true rfl, Nat.le_of_ble_eq_true rfl⟩ (Nat.le_of_ble_eq_true rfl) (c_X10_isDay hc4) ?_
  refine ev_if_ne (tgt := 25) dX10_plan_15 rfl h (fun cb h => ?_) (fun cb h => ?_)
  · refine ev_aload_n dX10_plan_25 rfl (by decide) ?_
    refine ev_getf (j := 8) (t := 2) (x := (43 : Int)) dX10_plan_26 cf_X10 wf_X10_52 sp0 (by decide) (by decide) rfl (by decide) (rp0_8 _) ?_
    refine ev_iload_n dX10_plan_29 rfl ?_
    obtain ⟨v5, hc6, h⟩ := bind_of h
    refine ev_invV_v (k := (43 : Int)) (av := [(0, x1)]) (st := []) (v := (2, v5.1)) (τ := v5.2) dX10_plan_30 ml_X10_245 mv_X9_of (T := TX9) (ci := 8) rfl sp43 (by decide) (by decide) rfl ⟨Nat.le_of_ble_eq_true rfl, Nat.le_of_ble_eq_true rfl⟩ (Nat.le_of_ble_eq_true rfl) (c_X9_of hc6) ?_
    have hw7 := w_X9_of hc6
    refine ev_astore dX10_plan_33 rfl (by decide) (pW hw7).1 ?_
    show Ev _ _ _ _ 35 _ _ _ [(2, (0 : Int)), (0, x1), (0, x2), (0, x3), (2, v5.1)] _
    refine ev_iload_n dX10_plan_35 rfl ?_
    refine ev_by h (fun cs h => ?_) (fun cs0 h => ?_)
    · refine ev_tswIn (off := 44) (tgt := 80) dX10_plan_36 (by rw [cs]; decide) (by rw [cs]; decide) (by rw [cs]; rfl) rfl ?_
      refine ev_aload dX10_plan_80 rfl (pW hw7).1 ?_
      refine ev_getf (j := 0) (t := 2) (x := (v5.1 + 1)) dX10_plan_82 cf_X8 wf_X10_267 (sW hw7) (pW hw7).1 (pW hw7).2 rfl (by decide) (rW0 _ hw7) ?_
      refine ev_iload_n dX10_plan_85 rfl ?_
      refine ev_zald dX10_plan_86 (sW0 hw7) (pW0 hw7).1 (pW0 hw7).2 h (fun h => ?_)
      refine ev_if_eq (tgt := 94) dX10_plan_87 rfl h (fun cb h => ?_) (fun cb h => ?_)
      · refine ev_iconst dX10_plan_94 (by decide) ?_
        obtain rfl := Option.some.inj h
        dsimp only
        exact ev_iret dX10_plan_95 rfl rfl
      refine ev_iconst dX10_plan_90 (by decide) ?_
      refine ev_goto (tgt := 95) dX10_plan_91 rfl ?_
      obtain rfl := Option.some.inj h
      dsimp only
      exact ev_iret dX10_plan_95 rfl rfl
    refine ev_by h (fun cs h => ?_) (fun cs1 h => ?_)
    · refine ev_tswIn (off := 60) (tgt := 96) dX10_plan_36 (by rw [cs]; decide) (by rw [cs]; decide) (by rw [cs]; rfl) rfl ?_
      refine ev_aload dX10_plan_96 rfl (pW hw7).1 ?_
      refine ev_getf (j := 5) (t := 2) (x := (v5.1 + 6)) dX10_plan_98 cf_X8 wf_X10_271 (sW hw7) (pW hw7).1 (pW hw7).2 rfl (by decide) (rW5 _ hw7) ?_
      refine ev_iload_n dX10_plan_101 rfl ?_
      refine ev_lald dX10_plan_102 (sW5 hw7) (pW5 hw7).1 (pW5 hw7).2 h (fun h => ?_)
      obtain ⟨v8, hc9, h⟩ := bind_of h
      refine ev_invS_v (av := [(1, (v5.2 (v5.1 + 6) x2))]) (st := []) (v := (0, v8)) (τ := v5.2) dX10_plan_103 ml_X10_275 mt_J13_bitCount_95d88 rfl ⟨Nat.le_of_ble_eq_true rfl, Nat.le_of_ble_eq_true rfl⟩ (Nat.le_of_ble_eq_true rfl) (c_J13_bitCount_95d88 hc9) ?_
      obtain rfl := Option.some.inj h
      dsimp only
      exact ev_iret dX10_plan_106 rfl rfl
    refine ev_by h (fun cs h => ?_) (fun cs2 h => ?_)
    · refine ev_tswIn (off := 71) (tgt := 107) dX10_plan_36 (by rw [cs]; decide) (by rw [cs]; decide) (by rw [cs]; rfl) rfl ?_
      refine ev_aload dX10_plan_107 rfl (pW hw7).1 ?_
      refine ev_getf (j := 1) (t := 2) (x := (v5.1 + 2)) dX10_plan_109 cf_X8 wf_X10_281 (sW hw7) (pW hw7).1 (pW hw7).2 rfl (by decide) (rW1 _ hw7) ?_
      refine ev_iload_n dX10_plan_112 rfl ?_
      refine ev_iald dX10_plan_113 (sW1 hw7) (pW1 hw7).1 (pW1 hw7).2 h (fun h => ?_)
      obtain rfl := Option.some.inj h
      dsimp only
      exact ev_iret dX10_plan_114 rfl rfl
    refine ev_by h (fun cs h => ?_) (fun cs3 h => ?_)
    · refine ev_tswIn (off := 79) (tgt := 115) dX10_plan_36 (by rw [cs]; decide) (by rw [cs]; decide) (by rw [cs]; rfl) rfl ?_
      refine ev_aload dX10_plan_115 rfl (pW hw7).1 ?_
      refine ev_getf (j := 2) (t := 2) (x := (v5.1 + 3)) dX10_plan_117 cf_X8 wf_X10_284 (sW hw7) (pW hw7).1 (pW hw7).2 rfl (by decide) (rW2 _ hw7) ?_
      refine ev_iload_n dX10_plan_120 rfl ?_
      refine ev_iald dX10_plan_121 (sW2 hw7) (pW2 hw7).1 (pW2 hw7).2 h (fun h => ?_)
      obtain rfl := Option.some.inj h
      dsimp only
      exact ev_iret dX10_plan_122 rfl rfl
    refine ev_by h (fun cs h => ?_) (fun cs4 h => ?_)
    · refine ev_tswIn (off := 87) (tgt := 123) dX10_plan_36 (by rw [cs]; decide) (by rw [cs]; decide) (by rw [cs]; rfl) rfl ?_
      refine ev_aload dX10_plan_123 rfl (pW hw7).1 ?_
      refine ev_getf (j := 3) (t := 2) (x := (v5.1 + 4)) dX10_plan_125 cf_X8 wf_X10_287 (sW hw7) (pW hw7).1 (pW hw7).2 rfl (by decide) (rW3 _ hw7) ?_
      refine ev_iload_n dX10_plan_128 rfl ?_
      refine ev_iald dX10_plan_129 (sW3 hw7) (pW3 hw7).1 (pW3 hw7).2 h (fun h => ?_)
      obtain rfl := Option.some.inj h
      dsimp only
      exact ev_iret dX10_plan_130 rfl rfl
    refine ev_by h (fun cs h => ?_) (fun cs5 h => ?_)
    · refine ev_tswIn (off := 95) (tgt := 131) dX10_plan_36 (by rw [cs]; decide) (by rw [cs]; decide) (by rw [cs]; rfl) rfl ?_
      refine ev_aload dX10_plan_131 rfl (pW hw7).1 ?_
      refine ev_getf (j := 4) (t := 2) (x := (v5.1 + 5)) dX10_plan_133 cf_X8 wf_X10_290 (sW hw7) (pW hw7).1 (pW hw7).2 rfl (by decide) (rW4 _ hw7) ?_
      refine ev_iload_n dX10_plan_136 rfl ?_
      refine ev_iald dX10_plan_137 (sW4 hw7) (pW4 hw7).1 (pW4 hw7).2 h (fun h => ?_)
      obtain rfl := Option.some.inj h
      dsimp only
      exact ev_iret dX10_plan_138 rfl rfl
    refine ev_by h (fun cs h => ?_) (fun cs6 h => ?_)
    · refine ev_tswIn (off := 103) (tgt := 139) dX10_plan_36 (by rw [cs]; decide) (by rw [cs]; decide) (by rw [cs]; rfl) rfl ?_
      refine ev_aload dX10_plan_139 rfl (pW hw7).1 ?_
      refine ev_getf (j := 0) (t := 2) (x := (v5.1 + 1)) dX10_plan_141 cf_X8 wf_X10_267 (sW hw7) (pW hw7).1 (pW hw7).2 rfl (by decide) (rW0 _ hw7) ?_
      refine ev_iload_n dX10_plan_144 rfl ?_
      refine ev_zald dX10_plan_145 (sW0 hw7) (pW0 hw7).1 (pW0 hw7).2 h (fun h => ?_)
      refine ev_if_eq (tgt := 153) dX10_plan_146 rfl h (fun cb h => ?_) (fun cb h => ?_)
      · refine ev_aload_n dX10_plan_153 rfl (by decide) ?_
        refine ev_getf (j := 7) (t := 2) (x := (35 : Int)) dX10_plan_154 cf_X10 wf_X10_43 sp0 (by decide) (by decide) rfl (by decide) (rp0_7 _) ?_
        refine ev_aload_n dX10_plan_157 rfl (by decide) ?_
        refine ev_getf (j := 0) (t := 2) (x := (1 : Int)) dX10_plan_158 cf_X10 wf_X10_12 sp0 (by decide) (by decide) rfl (by decide) (rp0_0 _) ?_
        refine ev_iload_n dX10_plan_161 rfl ?_
        refine ev_iload_n dX10_plan_162 rfl ?_
        refine ev_aload dX10_plan_163 rfl (pW hw7).1 ?_
        obtain ⟨v10, hc11, h⟩ := bind_of h
        refine ev_invV_v (k := (35 : Int)) (av := [(2, (1 : Int)), (0, x1), (0, x2), (2, v5.1)]) (st := []) (v := (0, v10.1)) (τ := v10.2) dX10_plan_165 ml_X10_293 mv_X4_clash (T := TX4) (ci := 3) rfl sp35 (by decide) (by decide) rfl ⟨Nat.le_of_ble_eq_true rfl, Nat.le_of_ble_eq_true rfl⟩ (Nat.le_of_ble_eq_true rfl) (c_X4_clash hB1 hw7 hc11) ?_
        obtain rfl := Option.some.inj h
        dsimp only
        exact ev_iret dX10_plan_168 rfl rfl
      refine ev_iconst dX10_plan_149 (by decide) ?_
      refine ev_goto (tgt := 168) dX10_plan_150 rfl ?_
      obtain rfl := Option.some.inj h
      dsimp only
      exact ev_iret dX10_plan_168 rfl rfl
    refine ev_tswOut (tgt := 169) dX10_plan_36 (by omega) rfl ?_
    refine ev_aload_n dX10_plan_169 rfl (by decide) ?_
    refine ev_bipush dX10_plan_170 (by decide) (by decide) ?_
    obtain ⟨v12, hc13, h⟩ := bind_of h
    refine ev_invV_v (k := (0 : Int)) (av := [(0, (-52 : Int))]) (st := []) (v := (0, v12.1)) (τ := v12.2) dX10_plan_172 ml_X10_90 mv_X10_refuse (T := TX10) (ci := 9) rfl sp0 (by decide) (by decide) rfl ⟨Nat.le_of_ble_eq_true rfl, Nat.le_of_ble_eq_true rfl⟩ (Nat.le_of_ble_eq_true rfl) (c_X10_refuse hc13) ?_
    obtain rfl := Option.some.inj h
    dsimp only
    exact ev_iret dX10_plan_175 rfl rfl
  exact ev_sub (L2 := [(2, (0 : Int)), (9, 0), (9, 0), (9, 0), (9, 0)]) (e_X10_plan_18 σ h) ⟨.inr rfl, .inl rfl, .inl rfl, .inl rfl, .inl rfl, trivial⟩
set_option maxHeartbeats 4000000 in
set_option maxRecDepth 20000 in
theorem e_X10_sits_18 (σ : Mem)  {q : (Int × Mem)} (h : f_X10_sits_18 σ  = some q) : Ev M_X10_sits 210 210 (some (0, q.1), rho, q.2) 18 210 rho σ [(2, (0 : Int)), (9, 0), (9, 0), (9, 0), (9, 0), (9, 0), (9, 0)] [] := by
  unfold f_X10_sits_18 at h
  refine ev_aload_n dX10_sits_18 rfl (by decide) ?_
  refine ev_bipush dX10_sits_19 (by decide) (by decide) ?_
  obtain ⟨v11, hc12, h⟩ := bind_of h
  refine ev_invV_v (k := (0 : Int)) (av := [(0, (-52 : Int))]) (st := []) (v := (0, v11.1)) (τ := v11.2) dX10_sits_21 ml_X10_90 mv_X10_refuse (T := TX10) (ci := 9) rfl sp0 (by decide) (by decide) rfl ⟨Nat.le_of_ble_eq_true rfl, Nat.le_of_ble_eq_true rfl⟩ (Nat.le_of_ble_eq_true rfl) (c_X10_refuse hc12) ?_
  obtain rfl := Option.some.inj h
  dsimp only
  exact ev_iret dX10_sits_24 rfl rfl
set_option maxHeartbeats 4000000 in
set_option maxRecDepth 20000 in
theorem e_X10_sits_50 (σ : Mem)  {q : (Int × Mem)} (h : f_X10_sits_50 σ  = some q) : Ev M_X10_sits 210 210 (some (0, q.1), rho, q.2) 50 210 rho σ [(2, (0 : Int)), (9, 0), (9, 0), (9, 0), (9, 0), (9, 0), (9, 0)] [] := by
  unfold f_X10_sits_50 at h
  refine ev_aload_n dX10_sits_50 rfl (by decide) ?_
  refine ev_bipush dX10_sits_51 (by decide) (by decide) ?_
  obtain ⟨v13, hc14, h⟩ := bind_of h
  refine ev_invV_v (k := (0 : Int)) (av := [(0, (-52 : Int))]) (st := []) (v := (0, v13.1)) (τ := v13.2) dX10_sits_53 ml_X10_90 mv_X10_refuse (T := TX10) (ci := 9) rfl sp0 (by decide) (by decide) rfl ⟨Nat.le_of_ble_eq_true rfl, Nat.le_of_ble_eq_true rfl⟩ (Nat.le_of_ble_eq_true rfl) (c_X10_refuse hc14) ?_
  obtain rfl := Option.some.inj h
  dsimp only
  exact ev_iret dX10_sits_56 rfl rfl
set_option maxHeartbeats 4000000 in
set_option maxRecDepth 20000 in
theorem c_X10_sits {σ : Mem} {x1 x2 x3 x4 : Int}  {q : (Int × Mem)} (h : f_X10_sits σ x1 x2 x3 x4 = some q) : Ms yX10_sits M_X10_sits 210 210 [(2, (0 : Int)), (0, x1), (0, x2), (0, x3), (0, x4)] rho σ (some (0, q.1), rho, q.2) := by
  refine Ms.of 2 (by decide +kernel) rfl (fun z => absurd z (by decide)) (fun _ _ _ => trivial) rfl rfl ?_
  unfold f_X10_sits at h
  show Ev M_X10_sits 210 210 _ 0 210 rho σ [(2, (0 : Int)), (0, x1), (0, x2), (0, x3), (0, x4), (9, 0), (9, 0)] []
  refine ev_aload_n dX10_sits_0 rfl (by decide) ?_
  refine ev_getf (j := 0) (t := 2) (x := (1 : Int)) dX10_sits_1 cf_X10 wf_X10_12 sp0 (by decide) (by decide) rfl (by decide) (rp0_0 _) ?_
  refine ev_iload_n dX10_sits_4 rfl ?_
  obtain ⟨v1, hc2, h⟩ := bind_of h
  refine ev_invV_v (k := (1 : Int)) (av := [(0, x1)]) (st := []) (v := (0, v1)) (τ := σ) dX10_sits_5 ml_X10_124 mv_X0_hasCand (T := TX0) (ci := 0) rfl sp1 (by decide) (by decide) rfl ⟨Nat.le_of_ble_eq_true rfl, Nat.le_of_ble_eq_true rfl⟩ (Nat.le_of_ble_eq_true rfl) (c_X0_hasCand hB1 hc2) ?_
  refine ev_if_eq (tgt := 18) dX10_sits_8 rfl h (fun cb h => ?_) (fun cb h => ?_)
  · exact ev_sub (L2 := [(2, (0 : Int)), (9, 0), (9, 0), (9, 0), (9, 0), (9, 0), (9, 0)]) (e_X10_sits_18 σ h) ⟨.inr rfl, .inl rfl, .inl rfl, .inl rfl, .inl rfl, .inl rfl, .inl rfl, trivial⟩
  refine ev_iload_n dX10_sits_11 rfl ?_
  obtain ⟨v3, hc4, h⟩ := bind_of h
  refine ev_invS_v (av := [(0, x2)]) (st := []) (v := (0, v3)) (τ := σ) dX10_sits_12 ml_X10_152 mt_X10_isDay rfl ⟨Nat.le_of_ble_eq_true rfl, Nat.le_of_ble_eq_true rfl⟩ (Nat.le_of_ble_eq_true rfl) (c_X10_isDay hc4) ?_
  refine ev_if_ne (tgt := 25) dX10_sits_15 rfl h (fun cb h => ?_) (fun cb h => ?_)
  · refine ev_aload_n dX10_sits_25 rfl (by decide) ?_
    refine ev_getf (j := 8) (t := 2) (x := (43 : Int)) dX10_sits_26 cf_X10 wf_X10_52 sp0 (by decide) (by decide) rfl (by decide) (rp0_8 _) ?_
    refine ev_iload_n dX10_sits_29 rfl ?_
    obtain ⟨v5, hc6, h⟩ := bind_of h
    refine ev_invV_v (k := (43 : Int)) (av := [(0, x1)]) (st := []) (v := (2, v5.1)) (τ := v5.2) dX10_sits_30 ml_X10_245 mv_X9_of (T := TX9) (ci := 8) rfl sp43 (by decide) (by decide) rfl ⟨Nat.le_of_ble_eq_true rfl, Nat.le_of_ble_eq_true rfl⟩ (Nat.le_of_ble_eq_true rfl) (c_X9_of hc6) ?_
    have hw7 := w_X9_of hc6
    refine ev_astore dX10_sits_33 rfl (by decide) (pW hw7).1 ?_
    show Ev _ _ _ _ 35 _ _ _ [(2, (0 : Int)), (0, x1), (0, x2), (0, x3), (0, x4), (2, v5.1), (9, 0)] _
    refine ev_iload_n dX10_sits_35 rfl ?_
    refine ev_if_lt (tgt := 50) dX10_sits_36 rfl h (fun cb h => ?_) (fun cb h => ?_)
    · exact ev_sub (L2 := [(2, (0 : Int)), (9, 0), (9, 0), (9, 0), (9, 0), (9, 0), (9, 0)]) (e_X10_sits_50 v5.2 h) ⟨.inr rfl, .inl rfl, .inl rfl, .inl rfl, .inl rfl, .inl rfl, .inl rfl, trivial⟩
    refine ev_iload_n dX10_sits_39 rfl ?_
    refine ev_aload dX10_sits_40 rfl (pW hw7).1 ?_
    refine ev_getf (j := 4) (t := 2) (x := (v5.1 + 5)) dX10_sits_42 cf_X8 wf_X10_290 (sW hw7) (pW hw7).1 (pW hw7).2 rfl (by decide) (rW4 _ hw7) ?_
    refine ev_iload_n dX10_sits_45 rfl ?_
    refine ev_iald dX10_sits_46 (sW4 hw7) (pW4 hw7).1 (pW4 hw7).2 h (fun h => ?_)
    refine ev_icmp_lt (tgt := 57) dX10_sits_47 rfl h (fun cb h => ?_) (fun cb h => ?_)
    · refine ev_iload_n dX10_sits_57 rfl ?_
      refine ev_iconst dX10_sits_58 (by decide) ?_
      refine ev_imul dX10_sits_59 ?_
      refine ev_iload_n dX10_sits_60 rfl ?_
      refine ev_iadd dX10_sits_61 ?_
      refine ev_istoreG dX10_sits_62 h rfl (by decide) (fun v8 h => ?_)
      show Ev _ _ _ _ 64 _ _ _ [(2, (0 : Int)), (0, x1), (0, x2), (0, x3), (0, x4), (2, v5.1), (0, v8)] _
      refine ev_iload dX10_sits_64 rfl ?_
      refine ev_by h (fun cs h => ?_) (fun cs0 h => ?_)
      · refine ev_tswIn (off := 26) (tgt := 92) dX10_sits_66 (by rw [cs]; decide) (by rw [cs]; decide) (by rw [cs]; rfl) rfl ?_
        refine ev_aload dX10_sits_92 rfl (pW hw7).1 ?_
        refine ev_getf (j := 6) (t := 2) (x := (v5.1 + 7)) dX10_sits_94 cf_X8 wf_X10_297 (sW hw7) (pW hw7).1 (pW hw7).2 rfl (by decide) (rW6 _ hw7) ?_
        refine ev_iload dX10_sits_97 rfl ?_
        refine ev_iald dX10_sits_99 (sW6 hw7) (pW6 hw7).1 (pW6 hw7).2 h (fun h => ?_)
        obtain rfl := Option.some.inj h
        dsimp only
        exact ev_iret dX10_sits_100 rfl rfl
      refine ev_by h (fun cs h => ?_) (fun cs1 h => ?_)
      · refine ev_tswIn (off := 35) (tgt := 101) dX10_sits_66 (by rw [cs]; decide) (by rw [cs]; decide) (by rw [cs]; rfl) rfl ?_
        refine ev_aload dX10_sits_101 rfl (pW hw7).1 ?_
        refine ev_getf (j := 7) (t := 2) (x := (v5.1 + 8)) dX10_sits_103 cf_X8 wf_X10_300 (sW hw7) (pW hw7).1 (pW hw7).2 rfl (by decide) (rW7 _ hw7) ?_
        refine ev_iload dX10_sits_106 rfl ?_
        refine ev_iald dX10_sits_108 (sW7 hw7) (pW7 hw7).1 (pW7 hw7).2 h (fun h => ?_)
        obtain rfl := Option.some.inj h
        dsimp only
        exact ev_iret dX10_sits_109 rfl rfl
      refine ev_by h (fun cs h => ?_) (fun cs2 h => ?_)
      · refine ev_tswIn (off := 44) (tgt := 110) dX10_sits_66 (by rw [cs]; decide) (by rw [cs]; decide) (by rw [cs]; rfl) rfl ?_
        refine ev_aload dX10_sits_110 rfl (pW hw7).1 ?_
        refine ev_getf (j := 8) (t := 2) (x := (v5.1 + 9)) dX10_sits_112 cf_X8 wf_X10_303 (sW hw7) (pW hw7).1 (pW hw7).2 rfl (by decide) (rW8 _ hw7) ?_
        refine ev_iload dX10_sits_115 rfl ?_
        refine ev_iald dX10_sits_117 (sW8 hw7) (pW8 hw7).1 (pW8 hw7).2 h (fun h => ?_)
        obtain rfl := Option.some.inj h
        dsimp only
        exact ev_iret dX10_sits_118 rfl rfl
      refine ev_tswOut (tgt := 119) dX10_sits_66 (by omega) rfl ?_
      refine ev_aload_n dX10_sits_119 rfl (by decide) ?_
      refine ev_bipush dX10_sits_120 (by decide) (by decide) ?_
      obtain ⟨v9, hc10, h⟩ := bind_of h
      refine ev_invV_v (k := (0 : Int)) (av := [(0, (-52 : Int))]) (st := []) (v := (0, v9.1)) (τ := v9.2) dX10_sits_122 ml_X10_90 mv_X10_refuse (T := TX10) (ci := 9) rfl sp0 (by decide) (by decide) rfl ⟨Nat.le_of_ble_eq_true rfl, Nat.le_of_ble_eq_true rfl⟩ (Nat.le_of_ble_eq_true rfl) (c_X10_refuse hc10) ?_
      obtain rfl := Option.some.inj h
      dsimp only
      exact ev_iret dX10_sits_125 rfl rfl
    exact ev_sub (L2 := [(2, (0 : Int)), (9, 0), (9, 0), (9, 0), (9, 0), (9, 0), (9, 0)]) (e_X10_sits_50 v5.2 h) ⟨.inr rfl, .inl rfl, .inl rfl, .inl rfl, .inl rfl, .inl rfl, .inl rfl, trivial⟩
  exact ev_sub (L2 := [(2, (0 : Int)), (9, 0), (9, 0), (9, 0), (9, 0), (9, 0), (9, 0)]) (e_X10_sits_18 σ h) ⟨.inr rfl, .inl rfl, .inl rfl, .inl rfl, .inl rfl, .inl rfl, .inl rfl, trivial⟩
set_option maxHeartbeats 4000000 in
set_option maxRecDepth 20000 in
theorem e_X10_does_25 (σ : Mem)  {q : (Int × Mem)} (h : f_X10_does_25 σ  = some q) : Ev M_X10_does 210 210 (some (0, q.1), rho, q.2) 25 210 rho σ [(2, (0 : Int)), (9, 0), (9, 0), (9, 0)] [] := by
  unfold f_X10_does_25 at h
  refine ev_aload_n dX10_does_25 rfl (by decide) ?_
  refine ev_bipush dX10_does_26 (by decide) (by decide) ?_
  obtain ⟨v12, hc13, h⟩ := bind_of h
  refine ev_invV_v (k := (0 : Int)) (av := [(0, (-52 : Int))]) (st := []) (v := (0, v12.1)) (τ := v12.2) dX10_does_28 ml_X10_90 mv_X10_refuse (T := TX10) (ci := 9) rfl sp0 (by decide) (by decide) rfl ⟨Nat.le_of_ble_eq_true rfl, Nat.le_of_ble_eq_true rfl⟩ (Nat.le_of_ble_eq_true rfl) (c_X10_refuse hc13) ?_
  obtain rfl := Option.some.inj h
  dsimp only
  exact ev_iret dX10_does_31 rfl rfl
set_option maxHeartbeats 4000000 in
set_option maxRecDepth 20000 in
theorem c_X10_does {σ : Mem} {x1 x2 x3 : Int}  {q : (Int × Mem)} (h : f_X10_does σ x1 x2 x3 = some q) : Ms yX10_does M_X10_does 210 210 [(2, (0 : Int)), (0, x1), (0, x2), (0, x3)] rho σ (some (0, q.1), rho, q.2) := by
  refine Ms.of 0 (by decide +kernel) rfl (fun z => absurd z (by decide)) (fun _ _ _ => trivial) rfl rfl ?_
  unfold f_X10_does at h
  show Ev M_X10_does 210 210 _ 0 210 rho σ [(2, (0 : Int)), (0, x1), (0, x2), (0, x3)] []
  refine ev_aload_n dX10_does_0 rfl (by decide) ?_
  refine ev_getf (j := 0) (t := 2) (x := (1 : Int)) dX10_does_1 cf_X10 wf_X10_12 sp0 (by decide) (by decide) rfl (by decide) (rp0_0 _) ?_
  refine ev_iload_n dX10_does_4 rfl ?_
  obtain ⟨v1, hc2, h⟩ := bind_of h
  refine ev_invV_v (k := (1 : Int)) (av := [(0, x1)]) (st := []) (v := (0, v1)) (τ := σ) dX10_does_5 ml_X10_124 mv_X0_hasCand (T := TX0) (ci := 0) rfl sp1 (by decide) (by decide) rfl ⟨Nat.le_of_ble_eq_true rfl, Nat.le_of_ble_eq_true rfl⟩ (Nat.le_of_ble_eq_true rfl) (c_X0_hasCand hB1 hc2) ?_
  refine ev_if_eq (tgt := 25) dX10_does_8 rfl h (fun cb h => ?_) (fun cb h => ?_)
  · exact ev_sub (L2 := [(2, (0 : Int)), (9, 0), (9, 0), (9, 0)]) (e_X10_does_25 σ h) ⟨.inr rfl, .inl rfl, .inl rfl, .inl rfl, trivial⟩
  refine ev_iload_n dX10_does_11 rfl ?_
  obtain ⟨v3, hc4, h⟩ := bind_of h
  refine ev_invS_v (av := [(0, x2)]) (st := []) (v := (0, v3)) (τ := σ) dX10_does_12 ml_X10_152 mt_X10_isDay rfl ⟨Nat.le_of_ble_eq_true rfl, Nat.le_of_ble_eq_true rfl⟩ (Nat.le_of_ble_eq_true rfl) (c_X10_isDay hc4) ?_
  refine ev_if_eq (tgt := 25) dX10_does_15 rfl h (fun cb h => ?_) (fun cb h => ?_)
  · exact ev_sub (L2 := [(2, (0 : Int)), (9, 0), (9, 0), (9, 0)]) (e_X10_does_25 σ h) ⟨.inr rfl, .inl rfl, .inl rfl, .inl rfl, trivial⟩
  refine ev_iload_n dX10_does_18 rfl ?_
  obtain ⟨v5, hc6, h⟩ := bind_of h
  refine ev_invS_v (av := [(0, x3)]) (st := []) (v := (0, v5)) (τ := σ) dX10_does_19 ml_X10_155 mt_X10_isSlot rfl ⟨Nat.le_of_ble_eq_true rfl, Nat.le_of_ble_eq_true rfl⟩ (Nat.le_of_ble_eq_true rfl) (c_X10_isSlot hc6) ?_
  refine ev_if_ne (tgt := 32) dX10_does_22 rfl h (fun cb h => ?_) (fun cb h => ?_)
  · refine ev_aload_n dX10_does_32 rfl (by decide) ?_
    refine ev_getf (j := 8) (t := 2) (x := (43 : Int)) dX10_does_33 cf_X10 wf_X10_52 sp0 (by decide) (by decide) rfl (by decide) (rp0_8 _) ?_
    refine ev_iload_n dX10_does_36 rfl ?_
    obtain ⟨v7, hc8, h⟩ := bind_of h
    refine ev_invV_v (k := (43 : Int)) (av := [(0, x1)]) (st := []) (v := (2, v7.1)) (τ := v7.2) dX10_does_37 ml_X10_245 mv_X9_of (T := TX9) (ci := 8) rfl sp43 (by decide) (by decide) rfl ⟨Nat.le_of_ble_eq_true rfl, Nat.le_of_ble_eq_true rfl⟩ (Nat.le_of_ble_eq_true rfl) (c_X9_of hc8) ?_
    have hw9 := w_X9_of hc8
    refine ev_iload_n dX10_does_40 rfl ?_
    refine ev_iload_n dX10_does_41 rfl ?_
    obtain ⟨v10, hc11, h⟩ := bind_of h
    refine ev_invV_v (k := v7.1) (av := [(0, x2), (0, x3)]) (st := []) (v := (0, v10)) (τ := v7.2) dX10_does_42 ml_X10_306 mv_X8_deed (T := TX8) (ci := 7) rfl (sW hw9) (pW hw9).1 (pW hw9).2 rfl ⟨Nat.le_of_ble_eq_true rfl, Nat.le_of_ble_eq_true rfl⟩ (Nat.le_of_ble_eq_true rfl) (c_X8_deed hw9 hc11) ?_
    obtain rfl := Option.some.inj h
    dsimp only
    exact ev_iret dX10_does_45 rfl rfl
  exact ev_sub (L2 := [(2, (0 : Int)), (9, 0), (9, 0), (9, 0)]) (e_X10_does_25 σ h) ⟨.inr rfl, .inl rfl, .inl rfl, .inl rfl, trivial⟩
set_option maxHeartbeats 4000000 in
set_option maxRecDepth 20000 in
theorem c_X10_isMeasure {σ : Mem} {x0 : Int}  {q : Int} (h : f_X10_isMeasure σ x0 = some q) : Ms yX10_isMeasure M_X10_isMeasure 210 210 [(0, x0)] rho σ (some (0, q), rho, σ) := by
  refine Ms.of 0 (by decide +kernel) rfl (fun z => absurd z (by decide)) (fun _ _ _ => trivial) rfl rfl ?_
  unfold f_X10_isMeasure at h
  show Ev M_X10_isMeasure 210 210 _ 0 210 rho σ [(0, x0)] []
  refine ev_iload_n dX10_isMeasure_0 rfl ?_
  refine ev_if_lt (tgt := 13) dX10_isMeasure_1 rfl h (fun cb h => ?_) (fun cb h => ?_)
  · refine ev_iconst dX10_isMeasure_13 (by decide) ?_
    obtain rfl := Option.some.inj h
    exact ev_zret dX10_isMeasure_14 rfl (chk_pos (.inl rfl))
  refine ev_iload_n dX10_isMeasure_4 rfl ?_
  refine ev_iconst dX10_isMeasure_5 (by decide) ?_
  refine ev_icmp_ge (tgt := 13) dX10_isMeasure_6 rfl h (fun cb h => ?_) (fun cb h => ?_)
  · refine ev_iconst dX10_isMeasure_13 (by decide) ?_
    obtain rfl := Option.some.inj h
    exact ev_zret dX10_isMeasure_14 rfl (chk_pos (.inl rfl))
  refine ev_iconst dX10_isMeasure_9 (by decide) ?_
  refine ev_goto (tgt := 14) dX10_isMeasure_10 rfl ?_
  obtain rfl := Option.some.inj h
  exact ev_zret dX10_isMeasure_14 rfl (chk_pos (.inr rfl))
set_option maxHeartbeats 4000000 in
set_option maxRecDepth 20000 in
theorem e_X10_measure_25 (σ : Mem)  {q : (Int × Mem)} (h : f_X10_measure_25 σ  = some q) : Ev M_X10_measure 210 210 (some (0, q.1), rho, q.2) 25 210 rho σ [(2, (0 : Int)), (9, 0), (9, 0), (9, 0), (9, 0)] [] := by
  unfold f_X10_measure_25 at h
  refine ev_aload_n dX10_measure_25 rfl (by decide) ?_
  refine ev_bipush dX10_measure_26 (by decide) (by decide) ?_
  obtain ⟨v12, hc13, h⟩ := bind_of h
  refine ev_invV_v (k := (0 : Int)) (av := [(0, (-52 : Int))]) (st := []) (v := (0, v12.1)) (τ := v12.2) dX10_measure_28 ml_X10_90 mv_X10_refuse (T := TX10) (ci := 9) rfl sp0 (by decide) (by decide) rfl ⟨Nat.le_of_ble_eq_true rfl, Nat.le_of_ble_eq_true rfl⟩ (Nat.le_of_ble_eq_true rfl) (c_X10_refuse hc13) ?_
  obtain rfl := Option.some.inj h
  dsimp only
  exact ev_iret dX10_measure_31 rfl rfl
set_option maxHeartbeats 4000000 in
set_option maxRecDepth 20000 in
theorem e_X10_measure_73 (σ : Mem)  {q : (Int × Mem)} (h : f_X10_measure_73 σ  = some q) : Ev M_X10_measure 210 210 (some (0, q.1), rho, q.2) 73 210 rho σ [(2, (0 : Int)), (9, 0), (9, 0), (9, 0), (9, 0)] [] := by
  unfold f_X10_measure_73 at h
  refine ev_aload_n dX10_measure_73 rfl (by decide) ?_
  refine ev_bipush dX10_measure_74 (by decide) (by decide) ?_
  obtain ⟨v14, hc15, h⟩ := bind_of h
  refine ev_invV_v (k := (0 : Int)) (av := [(0, (-55 : Int))]) (st := []) (v := (0, v14.1)) (τ := v14.2) dX10_measure_76 ml_X10_90 mv_X10_refuse (T := TX10) (ci := 9) rfl sp0 (by decide) (by decide) rfl ⟨Nat.le_of_ble_eq_true rfl, Nat.le_of_ble_eq_true rfl⟩ (Nat.le_of_ble_eq_true rfl) (c_X10_refuse hc15) ?_
  obtain rfl := Option.some.inj h
  dsimp only
  exact ev_iret dX10_measure_79 rfl rfl
set_option maxHeartbeats 4000000 in
set_option maxRecDepth 20000 in
theorem c_X10_measure {σ : Mem} {x1 x2 x3 : Int}  {q : (Int × Mem)} (h : f_X10_measure σ x1 x2 x3 = some q) : Ms yX10_measure M_X10_measure 210 210 [(2, (0 : Int)), (0, x1), (0, x2), (0, x3)] rho σ (some (0, q.1), rho, q.2) := by
  refine Ms.of 1 (by decide +kernel) rfl (fun z => absurd z (by decide)) (fun _ _ _ => trivial) rfl rfl ?_
  unfold f_X10_measure at h
  show Ev M_X10_measure 210 210 _ 0 210 rho σ [(2, (0 : Int)), (0, x1), (0, x2), (0, x3), (9, 0)] []
  refine ev_aload_n dX10_measure_0 rfl (by decide) ?_
  refine ev_getf (j := 0) (t := 2) (x := (1 : Int)) dX10_measure_1 cf_X10 wf_X10_12 sp0 (by decide) (by decide) rfl (by decide) (rp0_0 _) ?_
  refine ev_iload_n dX10_measure_4 rfl ?_
  obtain ⟨v1, hc2, h⟩ := bind_of h
  refine ev_invV_v (k := (1 : Int)) (av := [(0, x1)]) (st := []) (v := (0, v1)) (τ := σ) dX10_measure_5 ml_X10_124 mv_X0_hasCand (T := TX0) (ci := 0) rfl sp1 (by decide) (by decide) rfl ⟨Nat.le_of_ble_eq_true rfl, Nat.le_of_ble_eq_true rfl⟩ (Nat.le_of_ble_eq_true rfl) (c_X0_hasCand hB1 hc2) ?_
  refine ev_if_eq (tgt := 25) dX10_measure_8 rfl h (fun cb h => ?_) (fun cb h => ?_)
  · exact ev_sub (L2 := [(2, (0 : Int)), (9, 0), (9, 0), (9, 0), (9, 0)]) (e_X10_measure_25 σ h) ⟨.inr rfl, .inl rfl, .inl rfl, .inl rfl, .inl rfl, trivial⟩
  refine ev_iload_n dX10_measure_11 rfl ?_
  obtain ⟨v3, hc4, h⟩ := bind_of h
  refine ev_invS_v (av := [(0, x2)]) (st := []) (v := (0, v3)) (τ := σ) dX10_measure_12 ml_X10_152 mt_X10_isDay rfl ⟨Nat.le_of_ble_eq_true rfl, Nat.le_of_ble_eq_true rfl⟩ (Nat.le_of_ble_eq_true rfl) (c_X10_isDay hc4) ?_
  refine ev_if_eq (tgt := 25) dX10_measure_15 rfl h (fun cb h => ?_) (fun cb h => ?_)
  · exact ev_sub (L2 := [(2, (0 : Int)), (9, 0), (9, 0), (9, 0), (9, 0)]) (e_X10_measure_25 σ h) ⟨.inr rfl, .inl rfl, .inl rfl, .inl rfl, .inl rfl, trivial⟩
  refine ev_iload_n dX10_measure_18 rfl ?_
  obtain ⟨v5, hc6, h⟩ := bind_of h
  refine ev_invS_v (av := [(0, x3)]) (st := []) (v := (0, v5)) (τ := σ) dX10_measure_19 ml_X10_309 mt_X10_isMeasure rfl ⟨Nat.le_of_ble_eq_true rfl, Nat.le_of_ble_eq_true rfl⟩ (Nat.le_of_ble_eq_true rfl) (c_X10_isMeasure hc6) ?_
  refine ev_if_ne (tgt := 32) dX10_measure_22 rfl h (fun cb h => ?_) (fun cb h => ?_)
  · refine ev_aload_n dX10_measure_32 rfl (by decide) ?_
    refine ev_getf (j := 8) (t := 2) (x := (43 : Int)) dX10_measure_33 cf_X10 wf_X10_52 sp0 (by decide) (by decide) rfl (by decide) (rp0_8 _) ?_
    refine ev_iload_n dX10_measure_36 rfl ?_
    obtain ⟨v7, hc8, h⟩ := bind_of h
    refine ev_invV_v (k := (43 : Int)) (av := [(0, x1)]) (st := []) (v := (2, v7.1)) (τ := v7.2) dX10_measure_37 ml_X10_245 mv_X9_of (T := TX9) (ci := 8) rfl sp43 (by decide) (by decide) rfl ⟨Nat.le_of_ble_eq_true rfl, Nat.le_of_ble_eq_true rfl⟩ (Nat.le_of_ble_eq_true rfl) (c_X9_of hc8) ?_
    have hw9 := w_X9_of hc8
    refine ev_astore dX10_measure_40 rfl (by decide) (pW hw9).1 ?_
    show Ev _ _ _ _ 42 _ _ _ [(2, (0 : Int)), (0, x1), (0, x2), (0, x3), (2, v7.1)] _
    refine ev_aload dX10_measure_42 rfl (pW hw9).1 ?_
    refine ev_getf (j := 0) (t := 2) (x := (v7.1 + 1)) dX10_measure_44 cf_X8 wf_X10_267 (sW hw9) (pW hw9).1 (pW hw9).2 rfl (by decide) (rW0 _ hw9) ?_
    refine ev_iload_n dX10_measure_47 rfl ?_
    refine ev_zald dX10_measure_48 (sW0 hw9) (pW0 hw9).1 (pW0 hw9).2 h (fun h => ?_)
    refine ev_if_eq (tgt := 73) dX10_measure_49 rfl h (fun cb h => ?_) (fun cb h => ?_)
    · exact ev_sub (L2 := [(2, (0 : Int)), (9, 0), (9, 0), (9, 0), (9, 0)]) (e_X10_measure_73 v7.2 h) ⟨.inr rfl, .inl rfl, .inl rfl, .inl rfl, .inl rfl, trivial⟩
    refine ev_aload dX10_measure_52 rfl (pW hw9).1 ?_
    refine ev_getf (j := 1) (t := 2) (x := (v7.1 + 2)) dX10_measure_54 cf_X8 wf_X10_281 (sW hw9) (pW hw9).1 (pW hw9).2 rfl (by decide) (rW1 _ hw9) ?_
    refine ev_iload_n dX10_measure_57 rfl ?_
    refine ev_iald dX10_measure_58 (sW1 hw9) (pW1 hw9).1 (pW1 hw9).2 h (fun h => ?_)
    refine ev_iconst dX10_measure_59 (by decide) ?_
    refine ev_icmp_ne (tgt := 73) dX10_measure_60 rfl h (fun cb h => ?_) (fun cb h => ?_)
    · exact ev_sub (L2 := [(2, (0 : Int)), (9, 0), (9, 0), (9, 0), (9, 0)]) (e_X10_measure_73 v7.2 h) ⟨.inr rfl, .inl rfl, .inl rfl, .inl rfl, .inl rfl, trivial⟩
    refine ev_aload dX10_measure_63 rfl (pW hw9).1 ?_
    refine ev_getf (j := 4) (t := 2) (x := (v7.1 + 5)) dX10_measure_65 cf_X8 wf_X10_290 (sW hw9) (pW hw9).1 (pW hw9).2 rfl (by decide) (rW4 _ hw9) ?_
    refine ev_iload_n dX10_measure_68 rfl ?_
    refine ev_iald dX10_measure_69 (sW4 hw9) (pW4 hw9).1 (pW4 hw9).2 h (fun h => ?_)
    refine ev_if_ne (tgt := 80) dX10_measure_70 rfl h (fun cb h => ?_) (fun cb h => ?_)
    · refine ev_aload dX10_measure_80 rfl (pW hw9).1 ?_
      refine ev_aload_n dX10_measure_82 rfl (by decide) ?_
      refine ev_getf (j := 0) (t := 2) (x := (1 : Int)) dX10_measure_83 cf_X10 wf_X10_12 sp0 (by decide) (by decide) rfl (by decide) (rp0_0 _) ?_
      refine ev_iload_n dX10_measure_86 rfl ?_
      refine ev_iload_n dX10_measure_87 rfl ?_
      obtain ⟨v10, hc11, h⟩ := bind_of h
      refine ev_invV_v (k := v7.1) (av := [(2, (1 : Int)), (0, x2), (0, x3)]) (st := []) (v := (0, v10)) (τ := v7.2) dX10_measure_88 ml_X10_312 mv_X8_measured (T := TX8) (ci := 7) rfl (sW hw9) (pW hw9).1 (pW hw9).2 rfl ⟨Nat.le_of_ble_eq_true rfl, Nat.le_of_ble_eq_true rfl⟩ (Nat.le_of_ble_eq_true rfl) (c_X8_measured hw9 hB1 hc11) ?_
      obtain rfl := Option.some.inj h
      dsimp only
      exact ev_iret dX10_measure_91 rfl rfl
    exact ev_sub (L2 := [(2, (0 : Int)), (9, 0), (9, 0), (9, 0), (9, 0)]) (e_X10_measure_73 v7.2 h) ⟨.inr rfl, .inl rfl, .inl rfl, .inl rfl, .inl rfl, trivial⟩
  exact ev_sub (L2 := [(2, (0 : Int)), (9, 0), (9, 0), (9, 0), (9, 0)]) (e_X10_measure_25 σ h) ⟨.inr rfl, .inl rfl, .inl rfl, .inl rfl, .inl rfl, trivial⟩
set_option maxHeartbeats 4000000 in
set_option maxRecDepth 20000 in
theorem e_X10_best_25 (σ : Mem)  {q : (Int × Mem)} (h : f_X10_best_25 σ  = some q) : Ev M_X10_best 210 210 (some (0, q.1), rho, q.2) 25 210 rho σ [(2, (0 : Int)), (9, 0), (9, 0), (9, 0), (9, 0), (9, 0)] [] := by
  unfold f_X10_best_25 at h
  refine ev_aload_n dX10_best_25 rfl (by decide) ?_
  refine ev_bipush dX10_best_26 (by decide) (by decide) ?_
  obtain ⟨v22, hc23, h⟩ := bind_of h
  refine ev_invV_v (k := (0 : Int)) (av := [(0, (-52 : Int))]) (st := []) (v := (0, v22.1)) (τ := v22.2) dX10_best_28 ml_X10_90 mv_X10_refuse (T := TX10) (ci := 9) rfl sp0 (by decide) (by decide) rfl ⟨Nat.le_of_ble_eq_true rfl, Nat.le_of_ble_eq_true rfl⟩ (Nat.le_of_ble_eq_true rfl) (c_X10_refuse hc23) ?_
  obtain rfl := Option.some.inj h
  dsimp only
  exact ev_iret dX10_best_31 rfl rfl
set_option maxHeartbeats 4000000 in
set_option maxRecDepth 20000 in
theorem e_X10_best_102 (σ : Mem)  {q : (Int × Mem)} (h : f_X10_best_102 σ  = some q) : Ev M_X10_best 210 210 (some (0, q.1), rho, q.2) 102 210 rho σ [(2, (0 : Int)), (9, 0), (9, 0), (9, 0), (9, 0), (9, 0)] [] := by
  unfold f_X10_best_102 at h
  refine ev_aload_n dX10_best_102 rfl (by decide) ?_
  refine ev_bipush dX10_best_103 (by decide) (by decide) ?_
  obtain ⟨v24, hc25, h⟩ := bind_of h
  refine ev_invV_v (k := (0 : Int)) (av := [(0, (-52 : Int))]) (st := []) (v := (0, v24.1)) (τ := v24.2) dX10_best_105 ml_X10_90 mv_X10_refuse (T := TX10) (ci := 9) rfl sp0 (by decide) (by decide) rfl ⟨Nat.le_of_ble_eq_true rfl, Nat.le_of_ble_eq_true rfl⟩ (Nat.le_of_ble_eq_true rfl) (c_X10_refuse hc25) ?_
  obtain rfl := Option.some.inj h
  dsimp only
  exact ev_iret dX10_best_108 rfl rfl
set_option maxHeartbeats 4000000 in
set_option maxRecDepth 20000 in
theorem c_X10_best {σ : Mem} {x1 x2 x3 x4 : Int}  {q : (Int × Mem)} (h : f_X10_best σ x1 x2 x3 x4 = some q) : Ms yX10_best M_X10_best 210 210 [(2, (0 : Int)), (0, x1), (0, x2), (0, x3), (0, x4)] rho σ (some (0, q.1), rho, q.2) := by
  refine Ms.of 1 (by decide +kernel) rfl (fun z => absurd z (by decide)) (fun _ _ _ => trivial) rfl rfl ?_
  unfold f_X10_best at h
  show Ev M_X10_best 210 210 _ 0 210 rho σ [(2, (0 : Int)), (0, x1), (0, x2), (0, x3), (0, x4), (9, 0)] []
  refine ev_aload_n dX10_best_0 rfl (by decide) ?_
  refine ev_getf (j := 0) (t := 2) (x := (1 : Int)) dX10_best_1 cf_X10 wf_X10_12 sp0 (by decide) (by decide) rfl (by decide) (rp0_0 _) ?_
  refine ev_iload_n dX10_best_4 rfl ?_
  obtain ⟨v1, hc2, h⟩ := bind_of h
  refine ev_invV_v (k := (1 : Int)) (av := [(0, x1)]) (st := []) (v := (0, v1)) (τ := σ) dX10_best_5 ml_X10_124 mv_X0_hasCand (T := TX0) (ci := 0) rfl sp1 (by decide) (by decide) rfl ⟨Nat.le_of_ble_eq_true rfl, Nat.le_of_ble_eq_true rfl⟩ (Nat.le_of_ble_eq_true rfl) (c_X0_hasCand hB1 hc2) ?_
  refine ev_if_eq (tgt := 25) dX10_best_8 rfl h (fun cb h => ?_) (fun cb h => ?_)
  · exact ev_sub (L2 := [(2, (0 : Int)), (9, 0), (9, 0), (9, 0), (9, 0), (9, 0)]) (e_X10_best_25 σ h) ⟨.inr rfl, .inl rfl, .inl rfl, .inl rfl, .inl rfl, .inl rfl, trivial⟩
  refine ev_iload_n dX10_best_11 rfl ?_
  obtain ⟨v3, hc4, h⟩ := bind_of h
  refine ev_invS_v (av := [(0, x2)]) (st := []) (v := (0, v3)) (τ := σ) dX10_best_12 ml_X10_152 mt_X10_isDay rfl ⟨Nat.le_of_ble_eq_true rfl, Nat.le_of_ble_eq_true rfl⟩ (Nat.le_of_ble_eq_true rfl) (c_X10_isDay hc4) ?_
  refine ev_if_eq (tgt := 25) dX10_best_15 rfl h (fun cb h => ?_) (fun cb h => ?_)
  · exact ev_sub (L2 := [(2, (0 : Int)), (9, 0), (9, 0), (9, 0), (9, 0), (9, 0)]) (e_X10_best_25 σ h) ⟨.inr rfl, .inl rfl, .inl rfl, .inl rfl, .inl rfl, .inl rfl, trivial⟩
  refine ev_iload_n dX10_best_18 rfl ?_
  obtain ⟨v5, hc6, h⟩ := bind_of h
  refine ev_invS_v (av := [(0, x3)]) (st := []) (v := (0, v5)) (τ := σ) dX10_best_19 ml_X10_309 mt_X10_isMeasure rfl ⟨Nat.le_of_ble_eq_true rfl, Nat.le_of_ble_eq_true rfl⟩ (Nat.le_of_ble_eq_true rfl) (c_X10_isMeasure hc6) ?_
  refine ev_if_ne (tgt := 32) dX10_best_22 rfl h (fun cb h => ?_) (fun cb h => ?_)
  · refine ev_aload_n dX10_best_32 rfl (by decide) ?_
    refine ev_getf (j := 7) (t := 2) (x := (35 : Int)) dX10_best_33 cf_X10 wf_X10_43 sp0 (by decide) (by decide) rfl (by decide) (rp0_7 _) ?_
    refine ev_aload_n dX10_best_36 rfl (by decide) ?_
    refine ev_getf (j := 0) (t := 2) (x := (1 : Int)) dX10_best_37 cf_X10 wf_X10_12 sp0 (by decide) (by decide) rfl (by decide) (rp0_0 _) ?_
    refine ev_iload_n dX10_best_40 rfl ?_
    refine ev_iload_n dX10_best_41 rfl ?_
    refine ev_aload_n dX10_best_42 rfl (by decide) ?_
    refine ev_getf (j := 8) (t := 2) (x := (43 : Int)) dX10_best_43 cf_X10 wf_X10_52 sp0 (by decide) (by decide) rfl (by decide) (rp0_8 _) ?_
    refine ev_iload_n dX10_best_46 rfl ?_
    obtain ⟨v7, hc8, h⟩ := bind_of h
    refine ev_invV_v (k := (43 : Int)) (av := [(0, x1)]) (st := [(0, x2), (0, x1), (2, (1 : Int)), (2, (35 : Int))]) (v := (2, v7.1)) (τ := v7.2) dX10_best_47 ml_X10_245 mv_X9_of (T := TX9) (ci := 8) rfl sp43 (by decide) (by decide) rfl ⟨Nat.le_of_ble_eq_true rfl, Nat.le_of_ble_eq_true rfl⟩ (Nat.le_of_ble_eq_true rfl) (c_X9_of hc8) ?_
    have hw9 := w_X9_of hc8
    obtain ⟨σ10, hc11, h⟩ := bind_of h
    refine ev_invV_v (k := (35 : Int)) (av := [(2, (1 : Int)), (0, x1), (0, x2), (2, v7.1)]) (st := []) (v := (2, (36 : Int))) (τ := σ10) dX10_best_50 ml_X10_316 mv_X4_ordersOf (T := TX4) (ci := 3) rfl sp35 (by decide) (by decide) rfl ⟨Nat.le_of_ble_eq_true rfl, Nat.le_of_ble_eq_true rfl⟩ (Nat.le_of_ble_eq_true rfl) (c_X4_ordersOf hB1 hw9 hc11) ?_
    show Ev _ _ _ _ 53 _ _ _ _ _
    refine ev_astore dX10_best_53 rfl (by decide) (by decide) ?_
    show Ev _ _ _ _ 55 _ _ _ [(2, (0 : Int)), (0, x1), (0, x2), (0, x3), (0, x4), (2, (36 : Int))] _
    refine ev_aload dX10_best_55 rfl (by decide) ?_
    obtain ⟨v12, hc13, h⟩ := bind_of h
    refine ev_invV_v (k := (36 : Int)) (av := []) (st := []) (v := (0, v12)) (τ := σ10) dX10_best_57 ml_X10_320 mv_X3_count (T := TX3) (ci := 2) rfl sp36 (by decide) (by decide) rfl ⟨Nat.le_of_ble_eq_true rfl, Nat.le_of_ble_eq_true rfl⟩ (Nat.le_of_ble_eq_true rfl) (c_X3_count hc13) ?_
    refine ev_if_eq (tgt := 73) dX10_best_60 rfl h (fun cb h => ?_) (fun cb h => ?_)
    · refine ev_iconst dX10_best_73 (by decide) ?_
      obtain rfl := Option.some.inj h
      dsimp only
      exact ev_iret dX10_best_74 rfl rfl
    refine ev_aload dX10_best_63 rfl (by decide) ?_
    refine ev_iload_n dX10_best_65 rfl ?_
    refine ev_lconst (x := (0 : Int)) dX10_best_66 (by decide) (by decide) ?_
    obtain ⟨v14, hc15, h⟩ := bind_of h
    refine ev_invV_v (k := (36 : Int)) (av := [(0, x3), (1, (0 : Int))]) (st := []) (v := (0, v14.1)) (τ := v14.2) dX10_best_67 ml_X10_324 mv_X3_search (T := TX3) (ci := 2) rfl sp36 (by decide) (by decide) rfl ⟨Nat.le_of_ble_eq_true rfl, Nat.le_of_ble_eq_true rfl⟩ (Nat.le_of_ble_eq_true rfl) (c_X3_search hc15) ?_
    refine ev_if_ne (tgt := 75) dX10_best_70 rfl h (fun cb h => ?_) (fun cb h => ?_)
    · refine ev_iload dX10_best_75 rfl ?_
      refine ev_iconst dX10_best_77 (by decide) ?_
      refine ev_icmp_ne (tgt := 87) dX10_best_78 rfl h (fun cb h => ?_) (fun cb h => ?_)
      · refine ev_iload dX10_best_87 rfl ?_
        refine ev_if_lt (tgt := 102) dX10_best_89 rfl h (fun cb h => ?_) (fun cb h => ?_)
        · exact ev_sub (L2 := [(2, (0 : Int)), (9, 0), (9, 0), (9, 0), (9, 0), (9, 0)]) (e_X10_best_102 v14.2 h) ⟨.inr rfl, .inl rfl, .inl rfl, .inl rfl, .inl rfl, .inl rfl, trivial⟩
        refine ev_iload dX10_best_92 rfl ?_
        refine ev_aload dX10_best_94 rfl (by decide) ?_
        obtain ⟨v16, hc17, h⟩ := bind_of h
        refine ev_invV_v (k := (36 : Int)) (av := []) (st := [(0, x4)]) (v := (0, v16)) (τ := v14.2) dX10_best_96 ml_X10_320 mv_X3_count (T := TX3) (ci := 2) rfl sp36 (by decide) (by decide) rfl ⟨Nat.le_of_ble_eq_true rfl, Nat.le_of_ble_eq_true rfl⟩ (Nat.le_of_ble_eq_true rfl) (c_X3_count hc17) ?_
        refine ev_icmp_lt (tgt := 109) dX10_best_99 rfl h (fun cb h => ?_) (fun cb h => ?_)
        · refine ev_aload dX10_best_109 rfl (by decide) ?_
          refine ev_iload dX10_best_111 rfl ?_
          obtain ⟨v18, hc19, h⟩ := bind_of h
          refine ev_invV_v (k := (36 : Int)) (av := [(0, x4)]) (st := []) (v := (0, v18)) (τ := v14.2) dX10_best_113 ml_X10_331 mv_X3_paperAt (T := TX3) (ci := 2) rfl sp36 (by decide) (by decide) rfl ⟨Nat.le_of_ble_eq_true rfl, Nat.le_of_ble_eq_true rfl⟩ (Nat.le_of_ble_eq_true rfl) (c_X3_paperAt hc19) ?_
          obtain rfl := Option.some.inj h
          dsimp only
          exact ev_iret dX10_best_116 rfl rfl
        exact ev_sub (L2 := [(2, (0 : Int)), (9, 0), (9, 0), (9, 0), (9, 0), (9, 0)]) (e_X10_best_102 v14.2 h) ⟨.inr rfl, .inl rfl, .inl rfl, .inl rfl, .inl rfl, .inl rfl, trivial⟩
      refine ev_aload dX10_best_81 rfl (by decide) ?_
      obtain ⟨v20, hc21, h⟩ := bind_of h
      refine ev_invV_v (k := (36 : Int)) (av := []) (st := []) (v := (0, v20)) (τ := v14.2) dX10_best_83 ml_X10_328 mv_X3_least (T := TX3) (ci := 2) rfl sp36 (by decide) (by decide) rfl ⟨Nat.le_of_ble_eq_true rfl, Nat.le_of_ble_eq_true rfl⟩ (Nat.le_of_ble_eq_true rfl) (c_X3_least hc21) ?_
      obtain rfl := Option.some.inj h
      dsimp only
      exact ev_iret dX10_best_86 rfl rfl
    refine ev_iconst dX10_best_73 (by decide) ?_
    obtain rfl := Option.some.inj h
    dsimp only
    exact ev_iret dX10_best_74 rfl rfl
  exact ev_sub (L2 := [(2, (0 : Int)), (9, 0), (9, 0), (9, 0), (9, 0), (9, 0)]) (e_X10_best_25 σ h) ⟨.inr rfl, .inl rfl, .inl rfl, .inl rfl, .inl rfl, .inl rfl, trivial⟩
set_option maxHeartbeats 4000000 in
set_option maxRecDepth 20000 in
theorem e_X10_lawful_18 (σ : Mem)  {q : (Int × Mem)} (h : f_X10_lawful_18 σ  = some q) : Ev M_X10_lawful 210 210 (some (0, q.1), rho, q.2) 18 210 rho σ [(2, (0 : Int)), (9, 0), (9, 0), (9, 0)] [] := by
  unfold f_X10_lawful_18 at h
  refine ev_aload_n dX10_lawful_18 rfl (by decide) ?_
  refine ev_bipush dX10_lawful_19 (by decide) (by decide) ?_
  obtain ⟨v14, hc15, h⟩ := bind_of h
  refine ev_invV_v (k := (0 : Int)) (av := [(0, (-52 : Int))]) (st := []) (v := (0, v14.1)) (τ := v14.2) dX10_lawful_21 ml_X10_90 mv_X10_refuse (T := TX10) (ci := 9) rfl sp0 (by decide) (by decide) rfl ⟨Nat.le_of_ble_eq_true rfl, Nat.le_of_ble_eq_true rfl⟩ (Nat.le_of_ble_eq_true rfl) (c_X10_refuse hc15) ?_
  obtain rfl := Option.some.inj h
  dsimp only
  exact ev_iret dX10_lawful_24 rfl rfl
set_option maxHeartbeats 4000000 in
set_option maxRecDepth 20000 in
theorem c_X10_lawful {σ : Mem} {x1 x2 : Int}  {q : (Int × Mem)} (h : f_X10_lawful σ x1 x2 = some q) : Ms yX10_lawful M_X10_lawful 210 210 [(2, (0 : Int)), (0, x1), (0, x2)] rho σ (some (0, q.1), rho, q.2) := by
  refine Ms.of 1 (by decide +kernel) rfl (fun z => absurd z (by decide)) (fun _ _ _ => trivial) rfl rfl ?_
  unfold f_X10_lawful at h
  show Ev M_X10_lawful 210 210 _ 0 210 rho σ [(2, (0 : Int)), (0, x1), (0, x2), (9, 0)] []
  refine ev_aload_n dX10_lawful_0 rfl (by decide) ?_
  refine ev_getf (j := 0) (t := 2) (x := (1 : Int)) dX10_lawful_1 cf_X10 wf_X10_12 sp0 (by decide) (by decide) rfl (by decide) (rp0_0 _) ?_
  refine ev_iload_n dX10_lawful_4 rfl ?_
  obtain ⟨v1, hc2, h⟩ := bind_of h
  refine ev_invV_v (k := (1 : Int)) (av := [(0, x1)]) (st := []) (v := (0, v1)) (τ := σ) dX10_lawful_5 ml_X10_124 mv_X0_hasCand (T := TX0) (ci := 0) rfl sp1 (by decide) (by decide) rfl ⟨Nat.le_of_ble_eq_true rfl, Nat.le_of_ble_eq_true rfl⟩ (Nat.le_of_ble_eq_true rfl) (c_X0_hasCand hB1 hc2) ?_
  refine ev_if_eq (tgt := 18) dX10_lawful_8 rfl h (fun cb h => ?_) (fun cb h => ?_)
  · exact ev_sub (L2 := [(2, (0 : Int)), (9, 0), (9, 0), (9, 0)]) (e_X10_lawful_18 σ h) ⟨.inr rfl, .inl rfl, .inl rfl, .inl rfl, trivial⟩
  refine ev_iload_n dX10_lawful_11 rfl ?_
  obtain ⟨v3, hc4, h⟩ := bind_of h
  refine ev_invS_v (av := [(0, x2)]) (st := []) (v := (0, v3)) (τ := σ) dX10_lawful_12 ml_X10_152 mt_X10_isDay rfl ⟨Nat.le_of_ble_eq_true rfl, Nat.le_of_ble_eq_true rfl⟩ (Nat.le_of_ble_eq_true rfl) (c_X10_isDay hc4) ?_
  refine ev_if_ne (tgt := 25) dX10_lawful_15 rfl h (fun cb h => ?_) (fun cb h => ?_)
  · refine ev_aload_n dX10_lawful_25 rfl (by decide) ?_
    refine ev_getf (j := 7) (t := 2) (x := (35 : Int)) dX10_lawful_26 cf_X10 wf_X10_43 sp0 (by decide) (by decide) rfl (by decide) (rp0_7 _) ?_
    refine ev_aload_n dX10_lawful_29 rfl (by decide) ?_
    refine ev_getf (j := 0) (t := 2) (x := (1 : Int)) dX10_lawful_30 cf_X10 wf_X10_12 sp0 (by decide) (by decide) rfl (by decide) (rp0_0 _) ?_
    refine ev_iload_n dX10_lawful_33 rfl ?_
    refine ev_iload_n dX10_lawful_34 rfl ?_
    refine ev_aload_n dX10_lawful_35 rfl (by decide) ?_
    refine ev_getf (j := 8) (t := 2) (x := (43 : Int)) dX10_lawful_36 cf_X10 wf_X10_52 sp0 (by decide) (by decide) rfl (by decide) (rp0_8 _) ?_
    refine ev_iload_n dX10_lawful_39 rfl ?_
    obtain ⟨v5, hc6, h⟩ := bind_of h
    refine ev_invV_v (k := (43 : Int)) (av := [(0, x1)]) (st := [(0, x2), (0, x1), (2, (1 : Int)), (2, (35 : Int))]) (v := (2, v5.1)) (τ := v5.2) dX10_lawful_40 ml_X10_245 mv_X9_of (T := TX9) (ci := 8) rfl sp43 (by decide) (by decide) rfl ⟨Nat.le_of_ble_eq_true rfl, Nat.le_of_ble_eq_true rfl⟩ (Nat.le_of_ble_eq_true rfl) (c_X9_of hc6) ?_
    have hw7 := w_X9_of hc6
    obtain ⟨σ8, hc9, h⟩ := bind_of h
    refine ev_invV_v (k := (35 : Int)) (av := [(2, (1 : Int)), (0, x1), (0, x2), (2, v5.1)]) (st := []) (v := (2, (36 : Int))) (τ := σ8) dX10_lawful_43 ml_X10_316 mv_X4_ordersOf (T := TX4) (ci := 3) rfl sp35 (by decide) (by decide) rfl ⟨Nat.le_of_ble_eq_true rfl, Nat.le_of_ble_eq_true rfl⟩ (Nat.le_of_ble_eq_true rfl) (c_X4_ordersOf hB1 hw7 hc9) ?_
    show Ev _ _ _ _ 46 _ _ _ _ _
    refine ev_astore_n dX10_lawful_46 rfl (by decide) (by decide) ?_
    show Ev _ _ _ _ 47 _ _ _ [(2, (0 : Int)), (0, x1), (0, x2), (2, (36 : Int))] _
    refine ev_aload_n dX10_lawful_47 rfl (by decide) ?_
    refine ev_iconst dX10_lawful_48 (by decide) ?_
    refine ev_lconst (x := (0 : Int)) dX10_lawful_49 (by decide) (by decide) ?_
    obtain ⟨v10, hc11, h⟩ := bind_of h
    refine ev_invV_v (k := (36 : Int)) (av := [(0, (0 : Int)), (1, (0 : Int))]) (st := []) (v := (0, v10.1)) (τ := v10.2) dX10_lawful_50 ml_X10_324 mv_X3_search (T := TX3) (ci := 2) rfl sp36 (by decide) (by decide) rfl ⟨Nat.le_of_ble_eq_true rfl, Nat.le_of_ble_eq_true rfl⟩ (Nat.le_of_ble_eq_true rfl) (c_X3_search hc11) ?_
    refine ev_pop dX10_lawful_53 (show (0 : Nat) ≠ 1 by decide) ?_
    refine ev_aload_n dX10_lawful_54 rfl (by decide) ?_
    obtain ⟨v12, hc13, h⟩ := bind_of h
    refine ev_invV_v (k := (36 : Int)) (av := []) (st := []) (v := (0, v12)) (τ := v10.2) dX10_lawful_55 ml_X10_334 mv_X3_lawfulOnes (T := TX3) (ci := 2) rfl sp36 (by decide) (by decide) rfl ⟨Nat.le_of_ble_eq_true rfl, Nat.le_of_ble_eq_true rfl⟩ (Nat.le_of_ble_eq_true rfl) (c_X3_lawfulOnes hc13) ?_
    obtain rfl := Option.some.inj h
    dsimp only
    exact ev_iret dX10_lawful_58 rfl rfl
  exact ev_sub (L2 := [(2, (0 : Int)), (9, 0), (9, 0), (9, 0)]) (e_X10_lawful_18 σ h) ⟨.inr rfl, .inl rfl, .inl rfl, .inl rfl, trivial⟩
set_option maxHeartbeats 4000000 in
set_option maxRecDepth 20000 in
theorem e_X10_watch_9 (σ : Mem)  {q : (Int × Mem)} (h : f_X10_watch_9 σ  = some q) : Ev M_X10_watch 210 210 (some (0, q.1), rho, q.2) 9 210 rho σ [(2, (0 : Int)), (9, 0)] [] := by
  unfold f_X10_watch_9 at h
  refine ev_aload_n dX10_watch_9 rfl (by decide) ?_
  refine ev_bipush dX10_watch_10 (by decide) (by decide) ?_
  obtain ⟨v9, hc10, h⟩ := bind_of h
  refine ev_invV_v (k := (0 : Int)) (av := [(0, (-52 : Int))]) (st := []) (v := (0, v9.1)) (τ := v9.2) dX10_watch_12 ml_X10_90 mv_X10_refuse (T := TX10) (ci := 9) rfl sp0 (by decide) (by decide) rfl ⟨Nat.le_of_ble_eq_true rfl, Nat.le_of_ble_eq_true rfl⟩ (Nat.le_of_ble_eq_true rfl) (c_X10_refuse hc10) ?_
  obtain rfl := Option.some.inj h
  dsimp only
  exact ev_iret dX10_watch_15 rfl rfl
set_option maxHeartbeats 4000000 in
set_option maxRecDepth 20000 in
theorem c_X10_watch {σ : Mem} {x1 : Int}  {q : (Int × Mem)} (h : f_X10_watch σ x1 = some q) : Ms yX10_watch M_X10_watch 210 210 [(2, (0 : Int)), (0, x1)] rho σ (some (0, q.1), rho, q.2) := by
  refine Ms.of 0 (by decide +kernel) rfl (fun z => absurd z (by decide)) (fun _ _ _ => trivial) rfl rfl ?_
  unfold f_X10_watch at h
  show Ev M_X10_watch 210 210 _ 0 210 rho σ [(2, (0 : Int)), (0, x1)] []
  refine ev_iload_n dX10_watch_0 rfl ?_
  refine ev_if_lt (tgt := 9) dX10_watch_1 rfl h (fun cb h => ?_) (fun cb h => ?_)
  · exact ev_sub (L2 := [(2, (0 : Int)), (9, 0)]) (e_X10_watch_9 σ h) ⟨.inr rfl, .inl rfl, trivial⟩
  refine ev_iload_n dX10_watch_4 rfl ?_
  refine ev_iconst dX10_watch_5 (by decide) ?_
  refine ev_icmp_le (tgt := 16) dX10_watch_6 rfl h (fun cb h => ?_) (fun cb h => ?_)
  · refine ev_aload_n dX10_watch_16 rfl (by decide) ?_
    refine ev_getf (j := 10) (t := 2) (x := (156 : Int)) dX10_watch_17 cf_X10 wf_X10_66 sp0 (by decide) (by decide) rfl (by decide) (rp0_10 _) ?_
    refine ev_aload_n dX10_watch_20 rfl (by decide) ?_
    refine ev_getf (j := 0) (t := 2) (x := (1 : Int)) dX10_watch_21 cf_X10 wf_X10_12 sp0 (by decide) (by decide) rfl (by decide) (rp0_0 _) ?_
    refine ev_aload_n dX10_watch_24 rfl (by decide) ?_
    refine ev_getf (j := 8) (t := 2) (x := (43 : Int)) dX10_watch_25 cf_X10 wf_X10_52 sp0 (by decide) (by decide) rfl (by decide) (rp0_8 _) ?_
    obtain ⟨σ1, hc2, h⟩ := bind_of h
    refine ev_invV_n (k := (156 : Int)) (av := [(2, (1 : Int)), (2, (43 : Int))]) (st := []) (τ := σ1) dX10_watch_28 ml_X10_337 mv_X1_gather (T := TX1) (ci := 1) rfl sp156 (by decide) (by decide) rfl ⟨Nat.le_of_ble_eq_true rfl, Nat.le_of_ble_eq_true rfl⟩ (Nat.le_of_ble_eq_true rfl) (c_X1_gather hc2) ?_
    refine ev_iload_n dX10_watch_31 rfl ?_
    refine ev_by h (fun cs h => ?_) (fun cs0 h => ?_)
    · refine ev_lsw (off := 28) (tgt := 60) dX10_watch_32 (by decide) (by rw [cs]; rfl) rfl ?_
      refine ev_aload_n dX10_watch_60 rfl (by decide) ?_
      refine ev_getf (j := 10) (t := 2) (x := (156 : Int)) dX10_watch_61 cf_X10 wf_X10_66 sp0 (by decide) (by decide) rfl (by decide) (rp0_10 _) ?_
      obtain ⟨v3, hc4, h⟩ := bind_of h
      refine ev_invV_v (k := (156 : Int)) (av := []) (st := []) (v := (0, v3)) (τ := σ1) dX10_watch_64 ml_X10_341 mv_X1_count (T := TX1) (ci := 1) rfl sp156 (by decide) (by decide) rfl ⟨Nat.le_of_ble_eq_true rfl, Nat.le_of_ble_eq_true rfl⟩ (Nat.le_of_ble_eq_true rfl) (c_X1_count hc4) ?_
      obtain rfl := Option.some.inj h
      dsimp only
      exact ev_iret dX10_watch_67 rfl rfl
    refine ev_by h (fun cs h => ?_) (fun cs1 h => ?_)
    · refine ev_lsw (off := 36) (tgt := 68) dX10_watch_32 (by decide) (by rw [cs]; rfl) rfl ?_
      refine ev_aload_n dX10_watch_68 rfl (by decide) ?_
      refine ev_getf (j := 10) (t := 2) (x := (156 : Int)) dX10_watch_69 cf_X10 wf_X10_66 sp0 (by decide) (by decide) rfl (by decide) (rp0_10 _) ?_
      obtain ⟨v5, hc6, h⟩ := bind_of h
      refine ev_invV_v (k := (156 : Int)) (av := []) (st := []) (v := (0, v5)) (τ := σ1) dX10_watch_72 ml_X10_342 mv_X1_watchers (T := TX1) (ci := 1) rfl sp156 (by decide) (by decide) rfl ⟨Nat.le_of_ble_eq_true rfl, Nat.le_of_ble_eq_true rfl⟩ (Nat.le_of_ble_eq_true rfl) (c_X1_watchers hc6) ?_
      obtain rfl := Option.some.inj h
      dsimp only
      exact ev_iret dX10_watch_75 rfl rfl
    refine ev_lsw (off := 44) (tgt := 76) dX10_watch_32 (by decide) (by simp [Op.lookupswitch.offset, Ne.symm cs0, Ne.symm cs1, cs0, cs1]) rfl ?_
    refine ev_aload_n dX10_watch_76 rfl (by decide) ?_
    refine ev_getf (j := 10) (t := 2) (x := (156 : Int)) dX10_watch_77 cf_X10 wf_X10_66 sp0 (by decide) (by decide) rfl (by decide) (rp0_10 _) ?_
    obtain ⟨v7, hc8, h⟩ := bind_of h
    refine ev_invV_v (k := (156 : Int)) (av := []) (st := []) (v := (0, v7)) (τ := σ1) dX10_watch_80 ml_X10_345 mv_X1_atOnce (T := TX1) (ci := 1) rfl sp156 (by decide) (by decide) rfl ⟨Nat.le_of_ble_eq_true rfl, Nat.le_of_ble_eq_true rfl⟩ (Nat.le_of_ble_eq_true rfl) (c_X1_atOnce hc8) ?_
    obtain rfl := Option.some.inj h
    dsimp only
    exact ev_iret dX10_watch_83 rfl rfl
  exact ev_sub (L2 := [(2, (0 : Int)), (9, 0)]) (e_X10_watch_9 σ h) ⟨.inr rfl, .inl rfl, trivial⟩
set_option maxHeartbeats 4000000 in
set_option maxRecDepth 20000 in
theorem e_X10_duty_39 (σ : Mem)  {q : (Int × Mem)} (h : f_X10_duty_39 σ  = some q) : Ev M_X10_duty 210 210 (some (0, q.1), rho, q.2) 39 210 rho σ [(2, (0 : Int)), (9, 0), (9, 0)] [] := by
  unfold f_X10_duty_39 at h
  refine ev_aload_n dX10_duty_39 rfl (by decide) ?_
  refine ev_bipush dX10_duty_40 (by decide) (by decide) ?_
  obtain ⟨v7, hc8, h⟩ := bind_of h
  refine ev_invV_v (k := (0 : Int)) (av := [(0, (-52 : Int))]) (st := []) (v := (0, v7.1)) (τ := v7.2) dX10_duty_42 ml_X10_90 mv_X10_refuse (T := TX10) (ci := 9) rfl sp0 (by decide) (by decide) rfl ⟨Nat.le_of_ble_eq_true rfl, Nat.le_of_ble_eq_true rfl⟩ (Nat.le_of_ble_eq_true rfl) (c_X10_refuse hc8) ?_
  obtain rfl := Option.some.inj h
  dsimp only
  exact ev_iret dX10_duty_45 rfl rfl
set_option maxHeartbeats 4000000 in
set_option maxRecDepth 20000 in
theorem c_X10_duty {σ : Mem} {x1 x2 : Int}  {q : (Int × Mem)} (h : f_X10_duty σ x1 x2 = some q) : Ms yX10_duty M_X10_duty 210 210 [(2, (0 : Int)), (0, x1), (0, x2)] rho σ (some (0, q.1), rho, q.2) := by
  refine Ms.of 0 (by decide +kernel) rfl (fun z => absurd z (by decide)) (fun _ _ _ => trivial) rfl rfl ?_
  unfold f_X10_duty at h
  show Ev M_X10_duty 210 210 _ 0 210 rho σ [(2, (0 : Int)), (0, x1), (0, x2)] []
  refine ev_aload_n dX10_duty_0 rfl (by decide) ?_
  refine ev_getf (j := 10) (t := 2) (x := (156 : Int)) dX10_duty_1 cf_X10 wf_X10_66 sp0 (by decide) (by decide) rfl (by decide) (rp0_10 _) ?_
  refine ev_aload_n dX10_duty_4 rfl (by decide) ?_
  refine ev_getf (j := 0) (t := 2) (x := (1 : Int)) dX10_duty_5 cf_X10 wf_X10_12 sp0 (by decide) (by decide) rfl (by decide) (rp0_0 _) ?_
  refine ev_aload_n dX10_duty_8 rfl (by decide) ?_
  refine ev_getf (j := 8) (t := 2) (x := (43 : Int)) dX10_duty_9 cf_X10 wf_X10_52 sp0 (by decide) (by decide) rfl (by decide) (rp0_8 _) ?_
  obtain ⟨σ1, hc2, h⟩ := bind_of h
  refine ev_invV_n (k := (156 : Int)) (av := [(2, (1 : Int)), (2, (43 : Int))]) (st := []) (τ := σ1) dX10_duty_12 ml_X10_337 mv_X1_gather (T := TX1) (ci := 1) rfl sp156 (by decide) (by decide) rfl ⟨Nat.le_of_ble_eq_true rfl, Nat.le_of_ble_eq_true rfl⟩ (Nat.le_of_ble_eq_true rfl) (c_X1_gather hc2) ?_
  refine ev_iload_n dX10_duty_15 rfl ?_
  refine ev_if_lt (tgt := 39) dX10_duty_16 rfl h (fun cb h => ?_) (fun cb h => ?_)
  · exact ev_sub (L2 := [(2, (0 : Int)), (9, 0), (9, 0)]) (e_X10_duty_39 σ1 h) ⟨.inr rfl, .inl rfl, .inl rfl, trivial⟩
  refine ev_iload_n dX10_duty_19 rfl ?_
  refine ev_aload_n dX10_duty_20 rfl (by decide) ?_
  refine ev_getf (j := 10) (t := 2) (x := (156 : Int)) dX10_duty_21 cf_X10 wf_X10_66 sp0 (by decide) (by decide) rfl (by decide) (rp0_10 _) ?_
  obtain ⟨v3, hc4, h⟩ := bind_of h
  refine ev_invV_v (k := (156 : Int)) (av := []) (st := [(0, x1)]) (v := (0, v3)) (τ := σ1) dX10_duty_24 ml_X10_341 mv_X1_count (T := TX1) (ci := 1) rfl sp156 (by decide) (by decide) rfl ⟨Nat.le_of_ble_eq_true rfl, Nat.le_of_ble_eq_true rfl⟩ (Nat.le_of_ble_eq_true rfl) (c_X1_count hc4) ?_
  refine ev_icmp_ge (tgt := 39) dX10_duty_27 rfl h (fun cb h => ?_) (fun cb h => ?_)
  · exact ev_sub (L2 := [(2, (0 : Int)), (9, 0), (9, 0)]) (e_X10_duty_39 σ1 h) ⟨.inr rfl, .inl rfl, .inl rfl, trivial⟩
  refine ev_iload_n dX10_duty_30 rfl ?_
  refine ev_if_lt (tgt := 39) dX10_duty_31 rfl h (fun cb h => ?_) (fun cb h => ?_)
  · exact ev_sub (L2 := [(2, (0 : Int)), (9, 0), (9, 0)]) (e_X10_duty_39 σ1 h) ⟨.inr rfl, .inl rfl, .inl rfl, trivial⟩
  refine ev_iload_n dX10_duty_34 rfl ?_
  refine ev_iconst dX10_duty_35 (by decide) ?_
  refine ev_icmp_le (tgt := 46) dX10_duty_36 rfl h (fun cb h => ?_) (fun cb h => ?_)
  · refine ev_aload_n dX10_duty_46 rfl (by decide) ?_
    refine ev_getf (j := 10) (t := 2) (x := (156 : Int)) dX10_duty_47 cf_X10 wf_X10_66 sp0 (by decide) (by decide) rfl (by decide) (rp0_10 _) ?_
    refine ev_iload_n dX10_duty_50 rfl ?_
    refine ev_iload_n dX10_duty_51 rfl ?_
    obtain ⟨v5, hc6, h⟩ := bind_of h
    refine ev_invV_v (k := (156 : Int)) (av := [(0, x1), (0, x2)]) (st := []) (v := (0, v5)) (τ := σ1) dX10_duty_52 ml_X10_348 mv_X1_tell (T := TX1) (ci := 1) rfl sp156 (by decide) (by decide) rfl ⟨Nat.le_of_ble_eq_true rfl, Nat.le_of_ble_eq_true rfl⟩ (Nat.le_of_ble_eq_true rfl) (c_X1_tell hc6) ?_
    obtain rfl := Option.some.inj h
    dsimp only
    exact ev_iret dX10_duty_55 rfl rfl
  exact ev_sub (L2 := [(2, (0 : Int)), (9, 0), (9, 0)]) (e_X10_duty_39 σ1 h) ⟨.inr rfl, .inl rfl, .inl rfl, trivial⟩
set_option maxHeartbeats 4000000 in
set_option maxRecDepth 20000 in
theorem e_X10_pieces_27 (σ : Mem)  {q : (Int × Mem)} (h : f_X10_pieces_27 σ  = some q) : Ev M_X10_pieces 210 210 (some (0, q.1), rho, q.2) 27 210 rho σ [(2, (0 : Int)), (9, 0), (9, 0), (9, 0)] [] := by
  unfold f_X10_pieces_27 at h
  refine ev_aload_n dX10_pieces_27 rfl (by decide) ?_
  refine ev_bipush dX10_pieces_28 (by decide) (by decide) ?_
  obtain ⟨v11, hc12, h⟩ := bind_of h
  refine ev_invV_v (k := (0 : Int)) (av := [(0, (-52 : Int))]) (st := []) (v := (0, v11.1)) (τ := v11.2) dX10_pieces_30 ml_X10_90 mv_X10_refuse (T := TX10) (ci := 9) rfl sp0 (by decide) (by decide) rfl ⟨Nat.le_of_ble_eq_true rfl, Nat.le_of_ble_eq_true rfl⟩ (Nat.le_of_ble_eq_true rfl) (c_X10_refuse hc12) ?_
  obtain rfl := Option.some.inj h
  dsimp only
  exact ev_iret dX10_pieces_33 rfl rfl
set_option maxHeartbeats 4000000 in
set_option maxRecDepth 20000 in
theorem c_X10_pieces {σ : Mem} {x1 x2 x3 : Int}  {q : (Int × Mem)} (h : f_X10_pieces σ x1 x2 x3 = some q) : Ms yX10_pieces M_X10_pieces 210 210 [(2, (0 : Int)), (0, x1), (0, x2), (0, x3)] rho σ (some (0, q.1), rho, q.2) := by
  refine Ms.of 0 (by decide +kernel) rfl (fun z => absurd z (by decide)) (fun _ _ _ => trivial) rfl rfl ?_
  unfold f_X10_pieces at h
  show Ev M_X10_pieces 210 210 _ 0 210 rho σ [(2, (0 : Int)), (0, x1), (0, x2), (0, x3)] []
  refine ev_aload_n dX10_pieces_0 rfl (by decide) ?_
  refine ev_getf (j := 0) (t := 2) (x := (1 : Int)) dX10_pieces_1 cf_X10 wf_X10_12 sp0 (by decide) (by decide) rfl (by decide) (rp0_0 _) ?_
  refine ev_iload_n dX10_pieces_4 rfl ?_
  obtain ⟨v1, hc2, h⟩ := bind_of h
  refine ev_invV_v (k := (1 : Int)) (av := [(0, x1)]) (st := []) (v := (0, v1)) (τ := σ) dX10_pieces_5 ml_X10_124 mv_X0_hasCand (T := TX0) (ci := 0) rfl sp1 (by decide) (by decide) rfl ⟨Nat.le_of_ble_eq_true rfl, Nat.le_of_ble_eq_true rfl⟩ (Nat.le_of_ble_eq_true rfl) (c_X0_hasCand hB1 hc2) ?_
  refine ev_if_eq (tgt := 27) dX10_pieces_8 rfl h (fun cb h => ?_) (fun cb h => ?_)
  · exact ev_sub (L2 := [(2, (0 : Int)), (9, 0), (9, 0), (9, 0)]) (e_X10_pieces_27 σ h) ⟨.inr rfl, .inl rfl, .inl rfl, .inl rfl, trivial⟩
  refine ev_iload_n dX10_pieces_11 rfl ?_
  obtain ⟨v3, hc4, h⟩ := bind_of h
  refine ev_invS_v (av := [(0, x2)]) (st := []) (v := (0, v3)) (τ := σ) dX10_pieces_12 ml_X10_152 mt_X10_isDay rfl ⟨Nat.le_of_ble_eq_true rfl, Nat.le_of_ble_eq_true rfl⟩ (Nat.le_of_ble_eq_true rfl) (c_X10_isDay hc4) ?_
  refine ev_if_eq (tgt := 27) dX10_pieces_15 rfl h (fun cb h => ?_) (fun cb h => ?_)
  · exact ev_sub (L2 := [(2, (0 : Int)), (9, 0), (9, 0), (9, 0)]) (e_X10_pieces_27 σ h) ⟨.inr rfl, .inl rfl, .inl rfl, .inl rfl, trivial⟩
  refine ev_iload_n dX10_pieces_18 rfl ?_
  refine ev_if_lt (tgt := 27) dX10_pieces_19 rfl h (fun cb h => ?_) (fun cb h => ?_)
  · exact ev_sub (L2 := [(2, (0 : Int)), (9, 0), (9, 0), (9, 0)]) (e_X10_pieces_27 σ h) ⟨.inr rfl, .inl rfl, .inl rfl, .inl rfl, trivial⟩
  refine ev_iload_n dX10_pieces_22 rfl ?_
  refine ev_iconst dX10_pieces_23 (by decide) ?_
  refine ev_icmp_le (tgt := 34) dX10_pieces_24 rfl h (fun cb h => ?_) (fun cb h => ?_)
  · refine ev_aload_n dX10_pieces_34 rfl (by decide) ?_
    refine ev_getf (j := 11) (t := 2) (x := (163 : Int)) dX10_pieces_35 cf_X10 wf_X10_73 sp0 (by decide) (by decide) rfl (by decide) (rp0_11 _) ?_
    refine ev_aload_n dX10_pieces_38 rfl (by decide) ?_
    refine ev_getf (j := 0) (t := 2) (x := (1 : Int)) dX10_pieces_39 cf_X10 wf_X10_12 sp0 (by decide) (by decide) rfl (by decide) (rp0_0 _) ?_
    refine ev_aload_n dX10_pieces_42 rfl (by decide) ?_
    refine ev_getf (j := 8) (t := 2) (x := (43 : Int)) dX10_pieces_43 cf_X10 wf_X10_52 sp0 (by decide) (by decide) rfl (by decide) (rp0_8 _) ?_
    refine ev_iload_n dX10_pieces_46 rfl ?_
    obtain ⟨σ5, hc6, h⟩ := bind_of h
    refine ev_invV_n (k := (163 : Int)) (av := [(2, (1 : Int)), (2, (43 : Int)), (0, x2)]) (st := []) (τ := σ5) dX10_pieces_47 ml_X10_351 mv_X5_lay (T := TX5) (ci := 4) rfl sp163 (by decide) (by decide) rfl ⟨Nat.le_of_ble_eq_true rfl, Nat.le_of_ble_eq_true rfl⟩ (Nat.le_of_ble_eq_true rfl) (c_X5_lay hc6) ?_
    refine ev_iload_n dX10_pieces_50 rfl ?_
    refine ev_if_ne (tgt := 65) dX10_pieces_51 rfl h (fun cb h => ?_) (fun cb h => ?_)
    · refine ev_aload_n dX10_pieces_65 rfl (by decide) ?_
      refine ev_getf (j := 11) (t := 2) (x := (163 : Int)) dX10_pieces_66 cf_X10 wf_X10_73 sp0 (by decide) (by decide) rfl (by decide) (rp0_11 _) ?_
      refine ev_iload_n dX10_pieces_69 rfl ?_
      obtain ⟨v7, hc8, h⟩ := bind_of h
      refine ev_invV_v (k := (163 : Int)) (av := [(0, x1)]) (st := []) (v := (0, v7)) (τ := σ5) dX10_pieces_70 ml_X10_358 mv_X5_movesOf (T := TX5) (ci := 4) rfl sp163 (by decide) (by decide) rfl ⟨Nat.le_of_ble_eq_true rfl, Nat.le_of_ble_eq_true rfl⟩ (Nat.le_of_ble_eq_true rfl) (c_X5_movesOf hc8) ?_
      obtain rfl := Option.some.inj h
      dsimp only
      exact ev_iret dX10_pieces_73 rfl rfl
    refine ev_aload_n dX10_pieces_54 rfl (by decide) ?_
    refine ev_getf (j := 11) (t := 2) (x := (163 : Int)) dX10_pieces_55 cf_X10 wf_X10_73 sp0 (by decide) (by decide) rfl (by decide) (rp0_11 _) ?_
    refine ev_iload_n dX10_pieces_58 rfl ?_
    obtain ⟨v9, hc10, h⟩ := bind_of h
    refine ev_invV_v (k := (163 : Int)) (av := [(0, x1)]) (st := []) (v := (0, v9)) (τ := σ5) dX10_pieces_59 ml_X10_355 mv_X5_piecesOf (T := TX5) (ci := 4) rfl sp163 (by decide) (by decide) rfl ⟨Nat.le_of_ble_eq_true rfl, Nat.le_of_ble_eq_true rfl⟩ (Nat.le_of_ble_eq_true rfl) (c_X5_piecesOf hc10) ?_
    refine ev_goto (tgt := 73) dX10_pieces_62 rfl ?_
    obtain rfl := Option.some.inj h
    dsimp only
    exact ev_iret dX10_pieces_73 rfl rfl
  exact ev_sub (L2 := [(2, (0 : Int)), (9, 0), (9, 0), (9, 0)]) (e_X10_pieces_27 σ h) ⟨.inr rfl, .inl rfl, .inl rfl, .inl rfl, trivial⟩
set_option maxHeartbeats 4000000 in
set_option maxRecDepth 20000 in
theorem e_X10_roomOf_18 (σ : Mem)  {q : (Int × Mem)} (h : f_X10_roomOf_18 σ  = some q) : Ev M_X10_roomOf 210 210 (some (0, q.1), rho, q.2) 18 210 rho σ [(2, (0 : Int)), (9, 0), (9, 0), (9, 0)] [] := by
  unfold f_X10_roomOf_18 at h
  refine ev_aload_n dX10_roomOf_18 rfl (by decide) ?_
  refine ev_bipush dX10_roomOf_19 (by decide) (by decide) ?_
  obtain ⟨v11, hc12, h⟩ := bind_of h
  refine ev_invV_v (k := (0 : Int)) (av := [(0, (-52 : Int))]) (st := []) (v := (0, v11.1)) (τ := v11.2) dX10_roomOf_21 ml_X10_90 mv_X10_refuse (T := TX10) (ci := 9) rfl sp0 (by decide) (by decide) rfl ⟨Nat.le_of_ble_eq_true rfl, Nat.le_of_ble_eq_true rfl⟩ (Nat.le_of_ble_eq_true rfl) (c_X10_refuse hc12) ?_
  obtain rfl := Option.some.inj h
  dsimp only
  exact ev_iret dX10_roomOf_24 rfl rfl
set_option maxHeartbeats 4000000 in
set_option maxRecDepth 20000 in
theorem e_X10_roomOf_57 (σ : Mem)  {q : (Int × Mem)} (h : f_X10_roomOf_57 σ  = some q) : Ev M_X10_roomOf 210 210 (some (0, q.1), rho, q.2) 57 210 rho σ [(2, (0 : Int)), (9, 0), (9, 0), (9, 0)] [] := by
  unfold f_X10_roomOf_57 at h
  refine ev_aload_n dX10_roomOf_57 rfl (by decide) ?_
  refine ev_bipush dX10_roomOf_58 (by decide) (by decide) ?_
  obtain ⟨v13, hc14, h⟩ := bind_of h
  refine ev_invV_v (k := (0 : Int)) (av := [(0, (-52 : Int))]) (st := []) (v := (0, v13.1)) (τ := v13.2) dX10_roomOf_60 ml_X10_90 mv_X10_refuse (T := TX10) (ci := 9) rfl sp0 (by decide) (by decide) rfl ⟨Nat.le_of_ble_eq_true rfl, Nat.le_of_ble_eq_true rfl⟩ (Nat.le_of_ble_eq_true rfl) (c_X10_refuse hc14) ?_
  obtain rfl := Option.some.inj h
  dsimp only
  exact ev_iret dX10_roomOf_63 rfl rfl
set_option maxHeartbeats 4000000 in
set_option maxRecDepth 20000 in
theorem c_X10_roomOf {σ : Mem} {x1 x2 x3 : Int}  {q : (Int × Mem)} (h : f_X10_roomOf σ x1 x2 x3 = some q) : Ms yX10_roomOf M_X10_roomOf 210 210 [(2, (0 : Int)), (0, x1), (0, x2), (0, x3)] rho σ (some (0, q.1), rho, q.2) := by
  refine Ms.of 0 (by decide +kernel) rfl (fun z => absurd z (by decide)) (fun _ _ _ => trivial) rfl rfl ?_
  unfold f_X10_roomOf at h
  show Ev M_X10_roomOf 210 210 _ 0 210 rho σ [(2, (0 : Int)), (0, x1), (0, x2), (0, x3)] []
  refine ev_aload_n dX10_roomOf_0 rfl (by decide) ?_
  refine ev_getf (j := 0) (t := 2) (x := (1 : Int)) dX10_roomOf_1 cf_X10 wf_X10_12 sp0 (by decide) (by decide) rfl (by decide) (rp0_0 _) ?_
  refine ev_iload_n dX10_roomOf_4 rfl ?_
  obtain ⟨v1, hc2, h⟩ := bind_of h
  refine ev_invV_v (k := (1 : Int)) (av := [(0, x1)]) (st := []) (v := (0, v1)) (τ := σ) dX10_roomOf_5 ml_X10_124 mv_X0_hasCand (T := TX0) (ci := 0) rfl sp1 (by decide) (by decide) rfl ⟨Nat.le_of_ble_eq_true rfl, Nat.le_of_ble_eq_true rfl⟩ (Nat.le_of_ble_eq_true rfl) (c_X0_hasCand hB1 hc2) ?_
  refine ev_if_eq (tgt := 18) dX10_roomOf_8 rfl h (fun cb h => ?_) (fun cb h => ?_)
  · exact ev_sub (L2 := [(2, (0 : Int)), (9, 0), (9, 0), (9, 0)]) (e_X10_roomOf_18 σ h) ⟨.inr rfl, .inl rfl, .inl rfl, .inl rfl, trivial⟩
  refine ev_iload_n dX10_roomOf_11 rfl ?_
  obtain ⟨v3, hc4, h⟩ := bind_of h
  refine ev_invS_v (av := [(0, x2)]) (st := []) (v := (0, v3)) (τ := σ) dX10_roomOf_12 ml_X10_152 mt_X10_isDay rfl ⟨Nat.le_of_ble_eq_true rfl, Nat.le_of_ble_eq_true rfl⟩ (Nat.le_of_ble_eq_true rfl) (c_X10_isDay hc4) ?_
  refine ev_if_ne (tgt := 25) dX10_roomOf_15 rfl h (fun cb h => ?_) (fun cb h => ?_)
  · refine ev_aload_n dX10_roomOf_25 rfl (by decide) ?_
    refine ev_getf (j := 11) (t := 2) (x := (163 : Int)) dX10_roomOf_26 cf_X10 wf_X10_73 sp0 (by decide) (by decide) rfl (by decide) (rp0_11 _) ?_
    refine ev_aload_n dX10_roomOf_29 rfl (by decide) ?_
    refine ev_getf (j := 0) (t := 2) (x := (1 : Int)) dX10_roomOf_30 cf_X10 wf_X10_12 sp0 (by decide) (by decide) rfl (by decide) (rp0_0 _) ?_
    refine ev_aload_n dX10_roomOf_33 rfl (by decide) ?_
    refine ev_getf (j := 8) (t := 2) (x := (43 : Int)) dX10_roomOf_34 cf_X10 wf_X10_52 sp0 (by decide) (by decide) rfl (by decide) (rp0_8 _) ?_
    refine ev_iload_n dX10_roomOf_37 rfl ?_
    obtain ⟨σ5, hc6, h⟩ := bind_of h
    refine ev_invV_n (k := (163 : Int)) (av := [(2, (1 : Int)), (2, (43 : Int)), (0, x2)]) (st := []) (τ := σ5) dX10_roomOf_38 ml_X10_351 mv_X5_lay (T := TX5) (ci := 4) rfl sp163 (by decide) (by decide) rfl ⟨Nat.le_of_ble_eq_true rfl, Nat.le_of_ble_eq_true rfl⟩ (Nat.le_of_ble_eq_true rfl) (c_X5_lay hc6) ?_
    refine ev_iload_n dX10_roomOf_41 rfl ?_
    refine ev_if_lt (tgt := 57) dX10_roomOf_42 rfl h (fun cb h => ?_) (fun cb h => ?_)
    · exact ev_sub (L2 := [(2, (0 : Int)), (9, 0), (9, 0), (9, 0)]) (e_X10_roomOf_57 σ5 h) ⟨.inr rfl, .inl rfl, .inl rfl, .inl rfl, trivial⟩
    refine ev_iload_n dX10_roomOf_45 rfl ?_
    refine ev_aload_n dX10_roomOf_46 rfl (by decide) ?_
    refine ev_getf (j := 11) (t := 2) (x := (163 : Int)) dX10_roomOf_47 cf_X10 wf_X10_73 sp0 (by decide) (by decide) rfl (by decide) (rp0_11 _) ?_
    refine ev_iload_n dX10_roomOf_50 rfl ?_
    obtain ⟨v7, hc8, h⟩ := bind_of h
    refine ev_invV_v (k := (163 : Int)) (av := [(0, x1)]) (st := [(0, x3)]) (v := (0, v7)) (τ := σ5) dX10_roomOf_51 ml_X10_355 mv_X5_piecesOf (T := TX5) (ci := 4) rfl sp163 (by decide) (by decide) rfl ⟨Nat.le_of_ble_eq_true rfl, Nat.le_of_ble_eq_true rfl⟩ (Nat.le_of_ble_eq_true rfl) (c_X5_piecesOf hc8) ?_
    refine ev_icmp_lt (tgt := 64) dX10_roomOf_54 rfl h (fun cb h => ?_) (fun cb h => ?_)
    · refine ev_aload_n dX10_roomOf_64 rfl (by decide) ?_
      refine ev_getf (j := 11) (t := 2) (x := (163 : Int)) dX10_roomOf_65 cf_X10 wf_X10_73 sp0 (by decide) (by decide) rfl (by decide) (rp0_11 _) ?_
      refine ev_iload_n dX10_roomOf_68 rfl ?_
      refine ev_iload_n dX10_roomOf_69 rfl ?_
      obtain ⟨v9, hc10, h⟩ := bind_of h
      refine ev_invV_v (k := (163 : Int)) (av := [(0, x1), (0, x3)]) (st := []) (v := (0, v9)) (τ := σ5) dX10_roomOf_70 ml_X10_361 mv_X5_roomAt (T := TX5) (ci := 4) rfl sp163 (by decide) (by decide) rfl ⟨Nat.le_of_ble_eq_true rfl, Nat.le_of_ble_eq_true rfl⟩ (Nat.le_of_ble_eq_true rfl) (c_X5_roomAt hc10) ?_
      obtain rfl := Option.some.inj h
      dsimp only
      exact ev_iret dX10_roomOf_73 rfl rfl
    exact ev_sub (L2 := [(2, (0 : Int)), (9, 0), (9, 0), (9, 0)]) (e_X10_roomOf_57 σ5 h) ⟨.inr rfl, .inl rfl, .inl rfl, .inl rfl, trivial⟩
  exact ev_sub (L2 := [(2, (0 : Int)), (9, 0), (9, 0), (9, 0)]) (e_X10_roomOf_18 σ h) ⟨.inr rfl, .inl rfl, .inl rfl, .inl rfl, trivial⟩
