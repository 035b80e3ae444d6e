set_option maxHeartbeats 4000000 in
set_option maxRecDepth 20000 in
theorem e_X11_show_20 (σ : Mem)  {q : (Int × Mem)} (h : f_X11_show_20 σ  = some q) : Ev M_X11_show 210 210 (some (0, q.1), rho, q.2) 20 210 rho σ [(2, (173 : Int)), (9, 0), (9, 0)] [] := by
  unfold f_X11_show_20 at h
  refine ev_aload_n dX11_show_20 rfl (by decide) ?_
  refine ev_bipush dX11_show_21 (by decide) (by decide) ?_
  obtain ⟨v5, hc6, h⟩ := bind_of h
  refine ev_invV_v (k := (173 : Int)) (av := [(0, (-52 : Int))]) (st := []) (v := (0, v5.1)) (τ := v5.2) dX11_show_23 ml_X11_151 mv_X11_no (T := TX11) (ci := 10) rfl sp173 (by decide) (by decide) rfl ⟨Nat.le_of_ble_eq_true rfl, Nat.le_of_ble_eq_true rfl⟩ (Nat.le_of_ble_eq_true rfl) (c_X11_no hc6) ?_
  obtain rfl := Option.some.inj h
  dsimp only
  exact ev_iret dX11_show_26 rfl rfl
set_option maxHeartbeats 4000000 in
set_option maxRecDepth 20000 in
theorem e_X11_show_45 (σ : Mem) (s2 s1 : Int)  {q : (Int × Mem)} (h : f_X11_show_45 σ s2 s1 = some q) : Ev M_X11_show 210 210 (some (0, q.1), rho, q.2) 45 210 rho σ [(9, 0), (9, 0), (9, 0)] [(0, s2), (0, s1), (2, (177 : Int))] := by
  unfold f_X11_show_45 at h
  refine ev_iastG dX11_show_45 sp177 (by decide) (by decide) h (fun σ7 h => ?_)
  refine ev_iconst dX11_show_46 (by decide) ?_
  obtain rfl := Option.some.inj h
  dsimp only
  exact ev_iret dX11_show_47 rfl rfl
set_option maxHeartbeats 4000000 in
set_option maxRecDepth 20000 in
theorem e_X11_show_27 (σ : Mem) (x1 x2 : Int)  {q : (Int × Mem)} (h : f_X11_show_27 σ x1 x2 = some q) : Ev M_X11_show 210 210 (some (0, q.1), rho, q.2) 27 210 rho σ [(2, (173 : Int)), (0, x1), (0, x2)] [] := by
  unfold f_X11_show_27 at h
  refine ev_aload_n dX11_show_27 rfl (by decide) ?_
  refine ev_getf (j := 4) (t := 2) (x := (177 : Int)) dX11_show_28 cf_X11 wf_X11_19 sp173 (by decide) (by decide) rfl (by decide) (rp173_4 _) ?_
  refine ev_iload_n dX11_show_31 rfl ?_
  refine ev_iload_n dX11_show_32 rfl ?_
  refine ev_iconst dX11_show_33 (by decide) ?_
  refine ev_icmp_ne (tgt := 41) dX11_show_34 rfl h (fun cb h => ?_) (fun cb h => ?_)
  · refine ev_bipush dX11_show_41 (by decide) (by decide) ?_
    refine ev_iload_n dX11_show_43 rfl ?_
    refine ev_iadd dX11_show_44 ?_
    exact ev_sub (L2 := [(9, 0), (9, 0), (9, 0)]) (e_X11_show_45 σ (jadd (10 : Int) x2) x1 h) ⟨.inl rfl, .inl rfl, .inl rfl, trivial⟩
  refine ev_iconst dX11_show_37 (by decide) ?_
  refine ev_goto (tgt := 45) dX11_show_38 rfl ?_
  exact ev_sub (L2 := [(9, 0), (9, 0), (9, 0)]) (e_X11_show_45 σ (-1 : Int) x1 h) ⟨.inl rfl, .inl rfl, .inl rfl, trivial⟩
set_option maxHeartbeats 4000000 in
set_option maxRecDepth 20000 in
theorem c_X11_show {σ : Mem} {x1 x2 : Int}  {q : (Int × Mem)} (h : f_X11_show σ x1 x2 = some q) : Ms yX11_show M_X11_show 210 210 [(2, (173 : Int)), (0, x1), (0, x2)] rho σ (some (0, q.1), rho, q.2) := by
  refine Ms.of 0 (by decide +kernel) rfl (fun z => absurd z (by decide)) (fun _ _ _ => trivial) rfl rfl ?_
  unfold f_X11_show at h
  show Ev M_X11_show 210 210 _ 0 210 rho σ [(2, (173 : Int)), (0, x1), (0, x2)] []
  refine ev_iload_n dX11_show_0 rfl ?_
  obtain ⟨v1, hc2, h⟩ := bind_of h
  refine ev_invS_v (av := [(0, x1)]) (st := []) (v := (0, v1)) (τ := σ) dX11_show_1 ml_X11_145 mt_X11_isShelf rfl ⟨Nat.le_of_ble_eq_true rfl, Nat.le_of_ble_eq_true rfl⟩ (Nat.le_of_ble_eq_true rfl) (c_X11_isShelf hc2) ?_
  refine ev_if_eq (tgt := 20) dX11_show_4 rfl h (fun cb h => ?_) (fun cb h => ?_)
  · exact ev_sub (L2 := [(2, (173 : Int)), (9, 0), (9, 0)]) (e_X11_show_20 σ h) ⟨.inr rfl, .inl rfl, .inl rfl, trivial⟩
  refine ev_iload_n dX11_show_7 rfl ?_
  refine ev_iconst dX11_show_8 (by decide) ?_
  refine ev_icmp_eq (tgt := 27) dX11_show_9 rfl h (fun cb h => ?_) (fun cb h => ?_)
  · exact ev_sub (L2 := [(2, (173 : Int)), (0, x1), (0, x2)]) (e_X11_show_27 σ x1 x2 h) ⟨.inr rfl, .inr rfl, .inr rfl, trivial⟩
  refine ev_aload_n dX11_show_12 rfl (by decide) ?_
  refine ev_iload_n dX11_show_13 rfl ?_
  obtain ⟨v3, hc4, h⟩ := bind_of h
  refine ev_invV_v (k := (173 : Int)) (av := [(0, x2)]) (st := []) (v := (0, v3)) (τ := σ) dX11_show_14 ml_X11_157 mv_X11_isCand (T := TX11) (ci := 10) rfl sp173 (by decide) (by decide) rfl ⟨Nat.le_of_ble_eq_true rfl, Nat.le_of_ble_eq_true rfl⟩ (Nat.le_of_ble_eq_true rfl) (c_X11_isCand hc4) ?_
  refine ev_if_ne (tgt := 27) dX11_show_17 rfl h (fun cb h => ?_) (fun cb h => ?_)
  · exact ev_sub (L2 := [(2, (173 : Int)), (0, x1), (0, x2)]) (e_X11_show_27 σ x1 x2 h) ⟨.inr rfl, .inr rfl, .inr rfl, trivial⟩
  exact ev_sub (L2 := [(2, (173 : Int)), (9, 0), (9, 0)]) (e_X11_show_20 σ h) ⟨.inr rfl, .inl rfl, .inl rfl, trivial⟩
set_option maxHeartbeats 4000000 in
set_option maxRecDepth 20000 in
theorem e_X11_isUnder_29 (σ : Mem)  {q : Int} (h : f_X11_isUnder_29 σ  = some q) : Ev M_X11_isUnder 210 210 (some (0, q), rho, σ) 29 210 rho σ [(9, 0), (9, 0)] [] := by
  unfold f_X11_isUnder_29 at h
  refine ev_iconst dX11_isUnder_29 (by decide) ?_
  refine ev_goto (tgt := 34) dX11_isUnder_30 rfl ?_
  obtain rfl := Option.some.inj h
  exact ev_zret dX11_isUnder_34 rfl (chk_pos (.inr rfl))
set_option maxHeartbeats 4000000 in
set_option maxRecDepth 20000 in
theorem e_X11_isUnder_19 (σ : Mem) (x0 x1 : Int)  {q : Int} (h : f_X11_isUnder_19 σ x0 x1 = some q) : Ev M_X11_isUnder 210 210 (some (0, q), rho, σ) 19 210 rho σ [(0, x0), (0, x1)] [] := by
  unfold f_X11_isUnder_19 at h
  refine ev_iload_n dX11_isUnder_19 rfl ?_
  refine ev_iconst dX11_isUnder_20 (by decide) ?_
  refine ev_icmp_ne (tgt := 33) dX11_isUnder_21 rfl h (fun cb h => ?_) (fun cb h => ?_)
  · refine ev_iconst dX11_isUnder_33 (by decide) ?_
    obtain rfl := Option.some.inj h
    exact ev_zret dX11_isUnder_34 rfl (chk_pos (.inl rfl))
  refine ev_iload_n dX11_isUnder_24 rfl ?_
  refine ev_iconst dX11_isUnder_25 (by decide) ?_
  refine ev_icmp_ne (tgt := 33) dX11_isUnder_26 rfl h (fun cb h => ?_) (fun cb h => ?_)
  · refine ev_iconst dX11_isUnder_33 (by decide) ?_
    obtain rfl := Option.some.inj h
    exact ev_zret dX11_isUnder_34 rfl (chk_pos (.inl rfl))
  exact ev_sub (L2 := [(9, 0), (9, 0)]) (e_X11_isUnder_29 σ h) ⟨.inl rfl, .inl rfl, trivial⟩
set_option maxHeartbeats 4000000 in
set_option maxRecDepth 20000 in
theorem c_X11_isUnder {σ : Mem} {x0 x1 : Int}  {q : Int} (h : f_X11_isUnder σ x0 x1 = some q) : Ms yX11_isUnder M_X11_isUnder 210 210 [(0, x0), (0, x1)] rho σ (some (0, q), rho, σ) := by
  refine Ms.of 0 (by decide +kernel) rfl (fun z => absurd z (by decide)) (fun _ _ _ => trivial) rfl rfl ?_
  unfold f_X11_isUnder at h
  show Ev M_X11_isUnder 210 210 _ 0 210 rho σ [(0, x0), (0, x1)] []
  refine ev_iload_n dX11_isUnder_0 rfl ?_
  refine ev_if_eq (tgt := 29) dX11_isUnder_1 rfl h (fun cb h => ?_) (fun cb h => ?_)
  · exact ev_sub (L2 := [(9, 0), (9, 0)]) (e_X11_isUnder_29 σ h) ⟨.inl rfl, .inl rfl, trivial⟩
  refine ev_iload_n dX11_isUnder_4 rfl ?_
  refine ev_iload_n dX11_isUnder_5 rfl ?_
  refine ev_icmp_eq (tgt := 29) dX11_isUnder_6 rfl h (fun cb h => ?_) (fun cb h => ?_)
  · exact ev_sub (L2 := [(9, 0), (9, 0)]) (e_X11_isUnder_29 σ h) ⟨.inl rfl, .inl rfl, trivial⟩
  refine ev_iload_n dX11_isUnder_9 rfl ?_
  refine ev_iconst dX11_isUnder_10 (by decide) ?_
  refine ev_icmp_ne (tgt := 19) dX11_isUnder_11 rfl h (fun cb h => ?_) (fun cb h => ?_)
  · exact ev_sub (L2 := [(0, x0), (0, x1)]) (e_X11_isUnder_19 σ x0 x1 h) ⟨.inr rfl, .inr rfl, trivial⟩
  refine ev_iload_n dX11_isUnder_14 rfl ?_
  refine ev_iconst dX11_isUnder_15 (by decide) ?_
  refine ev_icmp_eq (tgt := 29) dX11_isUnder_16 rfl h (fun cb h => ?_) (fun cb h => ?_)
  · exact ev_sub (L2 := [(9, 0), (9, 0)]) (e_X11_isUnder_29 σ h) ⟨.inl rfl, .inl rfl, trivial⟩
  exact ev_sub (L2 := [(0, x0), (0, x1)]) (e_X11_isUnder_19 σ x0 x1 h) ⟨.inr rfl, .inr rfl, trivial⟩
set_option maxHeartbeats 4000000 in
set_option maxRecDepth 20000 in
theorem e_X11_says_31 (σ : Mem)  {q : (Int × Mem)} (h : f_X11_says_31 σ  = some q) : Ev M_X11_says 210 210 (some (0, q.1), rho, q.2) 31 210 rho σ [(2, (173 : Int)), (9, 0), (9, 0), (9, 0), (9, 0), (9, 0), (9, 0)] [] := by
  unfold f_X11_says_31 at h
  refine ev_aload_n dX11_says_31 rfl (by decide) ?_
  refine ev_bipush dX11_says_32 (by decide) (by decide) ?_
  obtain ⟨v34, hc35, h⟩ := bind_of h
  refine ev_invV_v (k := (173 : Int)) (av := [(0, (-52 : Int))]) (st := []) (v := (0, v34.1)) (τ := v34.2) dX11_says_34 ml_X11_151 mv_X11_no (T := TX11) (ci := 10) rfl sp173 (by decide) (by decide) rfl ⟨Nat.le_of_ble_eq_true rfl, Nat.le_of_ble_eq_true rfl⟩ (Nat.le_of_ble_eq_true rfl) (c_X11_no hc35) ?_
  obtain rfl := Option.some.inj h
  dsimp only
  exact ev_iret dX11_says_37 rfl rfl
set_option maxHeartbeats 4000000 in
set_option maxRecDepth 20000 in
theorem c_X11_says {σ : Mem} {x1 x2 x3 : Int}  {q : (Int × Mem)} (h : f_X11_says σ x1 x2 x3 = some q) : Ms yX11_says M_X11_says 210 210 [(2, (173 : Int)), (0, x1), (0, x2), (0, x3)] rho σ (some (0, q.1), rho, q.2) := by
  refine Ms.of 3 (by decide +kernel) rfl (fun z => absurd z (by decide)) (fun _ _ _ => trivial) rfl rfl ?_
  unfold f_X11_says at h
  show Ev M_X11_says 210 210 _ 0 210 rho σ [(2, (173 : Int)), (0, x1), (0, x2), (0, x3), (9, 0), (9, 0), (9, 0)] []
  refine ev_iload_n dX11_says_0 rfl ?_
  obtain ⟨v1, hc2, h⟩ := bind_of h
  refine ev_invS_v (av := [(0, x1)]) (st := []) (v := (0, v1)) (τ := σ) dX11_says_1 ml_X11_145 mt_X11_isShelf rfl ⟨Nat.le_of_ble_eq_true rfl, Nat.le_of_ble_eq_true rfl⟩ (Nat.le_of_ble_eq_true rfl) (c_X11_isShelf hc2) ?_
  refine ev_if_eq (tgt := 31) dX11_says_4 rfl h (fun cb h => ?_) (fun cb h => ?_)
  · exact ev_sub (L2 := [(2, (173 : Int)), (9, 0), (9, 0), (9, 0), (9, 0), (9, 0), (9, 0)]) (e_X11_says_31 σ h) ⟨.inr rfl, .inl rfl, .inl rfl, .inl rfl, .inl rfl, .inl rfl, .inl rfl, trivial⟩
  refine ev_iload_n dX11_says_7 rfl ?_
  refine ev_i2lk dX11_says_8 ?_
  refine ev_lconst (x := (0 : Int)) dX11_says_9 (by decide) (by decide) ?_
  refine ev_ldc2 (x := (5 : Int)) dX11_says_10 wc_X11_160 (by decide) (by decide) ?_
  obtain ⟨v3, hc4, h⟩ := bind_of h
  refine ev_invS_v (av := [(1, x2), (1, (0 : Int)), (1, (5 : Int))]) (st := []) (v := (0, v3)) (τ := σ) dX11_says_13 ml_X11_120 mt_X11_isIn rfl ⟨Nat.le_of_ble_eq_true rfl, Nat.le_of_ble_eq_true rfl⟩ (Nat.le_of_ble_eq_true rfl) (c_X11_isIn hc4) ?_
  refine ev_if_eq (tgt := 31) dX11_says_16 rfl h (fun cb h => ?_) (fun cb h => ?_)
  · exact ev_sub (L2 := [(2, (173 : Int)), (9, 0), (9, 0), (9, 0), (9, 0), (9, 0), (9, 0)]) (e_X11_says_31 σ h) ⟨.inr rfl, .inl rfl, .inl rfl, .inl rfl, .inl rfl, .inl rfl, .inl rfl, trivial⟩
  refine ev_iload_n dX11_says_19 rfl ?_
  refine ev_i2lk dX11_says_20 ?_
  refine ev_lconst (x := (1 : Int)) dX11_says_21 (by decide) (by decide) ?_
  refine ev_ldc2 (x := (12 : Int)) dX11_says_22 wc_X11_162 (by decide) (by decide) ?_
  obtain ⟨v5, hc6, h⟩ := bind_of h
  refine ev_invS_v (av := [(1, x3), (1, (1 : Int)), (1, (12 : Int))]) (st := []) (v := (0, v5)) (τ := σ) dX11_says_25 ml_X11_120 mt_X11_isIn rfl ⟨Nat.le_of_ble_eq_true rfl, Nat.le_of_ble_eq_true rfl⟩ (Nat.le_of_ble_eq_true rfl) (c_X11_isIn hc6) ?_
  refine ev_if_ne (tgt := 38) dX11_says_28 rfl h (fun cb h => ?_) (fun cb h => ?_)
  · refine ev_aload_n dX11_says_38 rfl (by decide) ?_
    refine ev_iload_n dX11_says_39 rfl ?_
    obtain ⟨v7, hc8, h⟩ := bind_of h
    refine ev_invV_v (k := (173 : Int)) (av := [(0, x1)]) (st := []) (v := (0, v7)) (τ := σ) dX11_says_40 ml_X11_154 mv_X11_isRow (T := TX11) (ci := 10) rfl sp173 (by decide) (by decide) rfl ⟨Nat.le_of_ble_eq_true rfl, Nat.le_of_ble_eq_true rfl⟩ (Nat.le_of_ble_eq_true rfl) (c_X11_isRow hc8) ?_
    refine ev_if_eq (tgt := 53) dX11_says_43 rfl h (fun cb h => ?_) (fun cb h => ?_)
    · refine ev_aload_n dX11_says_53 rfl (by decide) ?_
      refine ev_getf (j := 4) (t := 2) (x := (177 : Int)) dX11_says_54 cf_X11 wf_X11_19 sp173 (by decide) (by decide) rfl (by decide) (rp173_4 _) ?_
      refine ev_iload_n dX11_says_57 rfl ?_
      refine ev_iald dX11_says_58 sp177 (by decide) (by decide) h (fun h => ?_)
      refine ev_if_ge (tgt := 69) dX11_says_59 rfl h (fun cb h => ?_) (fun cb h => ?_)
      · refine ev_aload_n dX11_says_69 rfl (by decide) ?_
        refine ev_getf (j := 4) (t := 2) (x := (177 : Int)) dX11_says_70 cf_X11 wf_X11_19 sp173 (by decide) (by decide) rfl (by decide) (rp173_4 _) ?_
        refine ev_iload_n dX11_says_73 rfl ?_
        refine ev_iald dX11_says_74 sp177 (by decide) (by decide) h (fun h => ?_)
        refine ev_bipush dX11_says_75 (by decide) (by decide) ?_
        refine ev_isub dX11_says_77 ?_
        refine ev_istoreG dX11_says_78 h rfl (by decide) (fun v9 h => ?_)
        show Ev _ _ _ _ 80 _ _ _ [(2, (173 : Int)), (0, x1), (0, x2), (0, x3), (0, v9), (9, 0), (9, 0)] _
        refine ev_aload_n dX11_says_80 rfl (by decide) ?_
        refine ev_iload dX11_says_81 rfl ?_
        refine ev_iconst dX11_says_83 (by decide) ?_
        obtain ⟨v10, hc11, h⟩ := bind_of h
        refine ev_invV_v (k := (173 : Int)) (av := [(0, v9), (0, (0 : Int))]) (st := []) (v := (0, v10)) (τ := σ) dX11_says_84 ml_X11_128 mv_X11_who (T := TX11) (ci := 10) rfl sp173 (by decide) (by decide) rfl ⟨Nat.le_of_ble_eq_true rfl, Nat.le_of_ble_eq_true rfl⟩ (Nat.le_of_ble_eq_true rfl) (c_X11_who hc11) ?_
        show Ev _ _ _ _ 87 _ _ _ _ _
        refine ev_istore dX11_says_87 rfl (by decide) ?_
        show Ev _ _ _ _ 89 _ _ _ [(2, (173 : Int)), (0, x1), (0, x2), (0, x3), (0, v9), (0, v10), (9, 0)] _
        refine ev_aload_n dX11_says_89 rfl (by decide) ?_
        refine ev_iload dX11_says_90 rfl ?_
        refine ev_iconst dX11_says_92 (by decide) ?_
        obtain ⟨v12, hc13, h⟩ := bind_of h
        refine ev_invV_v (k := (173 : Int)) (av := [(0, v9), (0, (1 : Int))]) (st := []) (v := (0, v12)) (τ := σ) dX11_says_93 ml_X11_128 mv_X11_who (T := TX11) (ci := 10) rfl sp173 (by decide) (by decide) rfl ⟨Nat.le_of_ble_eq_true rfl, Nat.le_of_ble_eq_true rfl⟩ (Nat.le_of_ble_eq_true rfl) (c_X11_who hc13) ?_
        refine ev_istore dX11_says_96 rfl (by decide) ?_
        show Ev _ _ _ _ 98 _ _ _ [(2, (173 : Int)), (0, x1), (0, x2), (0, x3), (0, v9), (0, v10), (0, v12)] _
        refine ev_iload dX11_says_98 rfl ?_
        refine ev_iload_n dX11_says_100 rfl ?_
        obtain ⟨v14, hc15, h⟩ := bind_of h
        refine ev_invS_v (av := [(0, v10), (0, x2)]) (st := []) (v := (0, v14)) (τ := σ) dX11_says_101 ml_X11_164 mt_X11_isUnder rfl ⟨Nat.le_of_ble_eq_true rfl, Nat.le_of_ble_eq_true rfl⟩ (Nat.le_of_ble_eq_true rfl) (c_X11_isUnder hc15) ?_
        refine ev_if_ne (tgt := 114) dX11_says_104 rfl h (fun cb h => ?_) (fun cb h => ?_)
        · refine ev_iload_n dX11_says_114 rfl ?_
          refine ev_by h (fun cs h => ?_) (fun cs0 h => ?_)
          · refine ev_tswIn (off := 33) (tgt := 148) dX11_says_115 (by rw [cs]; decide) (by rw [cs]; decide) (by rw [cs]; rfl) rfl ?_
            refine ev_iload dX11_says_148 rfl ?_
            obtain rfl := Option.some.inj h
            dsimp only
            exact ev_iret dX11_says_150 rfl rfl
          refine ev_by h (fun cs h => ?_) (fun cs1 h => ?_)
          · refine ev_tswIn (off := 36) (tgt := 151) dX11_says_115 (by rw [cs]; decide) (by rw [cs]; decide) (by rw [cs]; rfl) rfl ?_
            refine ev_iload dX11_says_151 rfl ?_
            refine ev_iload dX11_says_153 rfl ?_
            refine ev_iload_n dX11_says_155 rfl ?_
            obtain ⟨v16, hc17, h⟩ := bind_of h
            refine ev_invS_v (av := [(0, v10), (0, v12), (0, x3)]) (st := []) (v := (0, v16)) (τ := σ) dX11_says_156 ml_X11_136 mt_X11_timeOf rfl ⟨Nat.le_of_ble_eq_true rfl, Nat.le_of_ble_eq_true rfl⟩ (Nat.le_of_ble_eq_true rfl) (c_X11_timeOf hc17) ?_
            obtain rfl := Option.some.inj h
            dsimp only
            exact ev_iret dX11_says_159 rfl rfl
          refine ev_by h (fun cs h => ?_) (fun cs2 h => ?_)
          · refine ev_tswIn (off := 45) (tgt := 160) dX11_says_115 (by rw [cs]; decide) (by rw [cs]; decide) (by rw [cs]; rfl) rfl ?_
            refine ev_iload dX11_says_160 rfl ?_
            refine ev_iload dX11_says_162 rfl ?_
            obtain ⟨v18, hc19, h⟩ := bind_of h
            refine ev_invS_v (av := [(0, v10), (0, v12)]) (st := []) (v := (0, v18)) (τ := σ) dX11_says_164 ml_X11_140 mt_X11_restOf rfl ⟨Nat.le_of_ble_eq_true rfl, Nat.le_of_ble_eq_true rfl⟩ (Nat.le_of_ble_eq_true rfl) (c_X11_restOf hc19) ?_
            obtain rfl := Option.some.inj h
            dsimp only
            exact ev_iret dX11_says_167 rfl rfl
          refine ev_by h (fun cs h => ?_) (fun cs3 h => ?_)
          · refine ev_tswIn (off := 36) (tgt := 151) dX11_says_115 (by rw [cs]; decide) (by rw [cs]; decide) (by rw [cs]; rfl) rfl ?_
            refine ev_iload dX11_says_151 rfl ?_
            refine ev_iload dX11_says_153 rfl ?_
            refine ev_iload_n dX11_says_155 rfl ?_
            obtain ⟨v20, hc21, h⟩ := bind_of h
            refine ev_invS_v (av := [(0, v10), (0, v12), (0, x3)]) (st := []) (v := (0, v20)) (τ := σ) dX11_says_156 ml_X11_136 mt_X11_timeOf rfl ⟨Nat.le_of_ble_eq_true rfl, Nat.le_of_ble_eq_true rfl⟩ (Nat.le_of_ble_eq_true rfl) (c_X11_timeOf hc21) ?_
            obtain rfl := Option.some.inj h
            dsimp only
            exact ev_iret dX11_says_159 rfl rfl
          refine ev_by h (fun cs h => ?_) (fun cs4 h => ?_)
          · refine ev_tswIn (off := 45) (tgt := 160) dX11_says_115 (by rw [cs]; decide) (by rw [cs]; decide) (by rw [cs]; rfl) rfl ?_
            refine ev_iload dX11_says_160 rfl ?_
            refine ev_iload dX11_says_162 rfl ?_
            obtain ⟨v22, hc23, h⟩ := bind_of h
            refine ev_invS_v (av := [(0, v10), (0, v12)]) (st := []) (v := (0, v22)) (τ := σ) dX11_says_164 ml_X11_140 mt_X11_restOf rfl ⟨Nat.le_of_ble_eq_true rfl, Nat.le_of_ble_eq_true rfl⟩ (Nat.le_of_ble_eq_true rfl) (c_X11_restOf hc23) ?_
            obtain rfl := Option.some.inj h
            dsimp only
            exact ev_iret dX11_says_167 rfl rfl
          refine ev_tswOut (tgt := 168) dX11_says_115 (by omega) rfl ?_
          refine ev_iload dX11_says_168 rfl ?_
          refine ev_iload dX11_says_170 rfl ?_
          refine ev_iload_n dX11_says_172 rfl ?_
          obtain ⟨v24, hc25, h⟩ := bind_of h
          refine ev_invS_v (av := [(0, v10), (0, v12), (0, x3)]) (st := []) (v := (0, v24)) (τ := σ) dX11_says_173 ml_X11_136 mt_X11_timeOf rfl ⟨Nat.le_of_ble_eq_true rfl, Nat.le_of_ble_eq_true rfl⟩ (Nat.le_of_ble_eq_true rfl) (c_X11_timeOf hc25) ?_
          refine ev_iload dX11_says_176 rfl ?_
          refine ev_iload dX11_says_178 rfl ?_
          obtain ⟨v26, hc27, h⟩ := bind_of h
          refine ev_invS_v (av := [(0, v10), (0, v12)]) (st := [(0, v24)]) (v := (0, v26)) (τ := σ) dX11_says_180 ml_X11_140 mt_X11_restOf rfl ⟨Nat.le_of_ble_eq_true rfl, Nat.le_of_ble_eq_true rfl⟩ (Nat.le_of_ble_eq_true rfl) (c_X11_restOf hc27) ?_
          refine ev_iadd dX11_says_183 ?_
          obtain rfl := Option.some.inj h
          dsimp only
          exact ev_iret dX11_says_184 rfl rfl
        refine ev_aload_n dX11_says_107 rfl (by decide) ?_
        refine ev_bipush dX11_says_108 (by decide) (by decide) ?_
        obtain ⟨v28, hc29, h⟩ := bind_of h
        refine ev_invV_v (k := (173 : Int)) (av := [(0, (-53 : Int))]) (st := []) (v := (0, v28.1)) (τ := v28.2) dX11_says_110 ml_X11_151 mv_X11_no (T := TX11) (ci := 10) rfl sp173 (by decide) (by decide) rfl ⟨Nat.le_of_ble_eq_true rfl, Nat.le_of_ble_eq_true rfl⟩ (Nat.le_of_ble_eq_true rfl) (c_X11_no hc29) ?_
        obtain rfl := Option.some.inj h
        dsimp only
        exact ev_iret dX11_says_113 rfl rfl
      refine ev_aload_n dX11_says_62 rfl (by decide) ?_
      refine ev_bipush dX11_says_63 (by decide) (by decide) ?_
      obtain ⟨v30, hc31, h⟩ := bind_of h
      refine ev_invV_v (k := (173 : Int)) (av := [(0, (-54 : Int))]) (st := []) (v := (0, v30.1)) (τ := v30.2) dX11_says_65 ml_X11_151 mv_X11_no (T := TX11) (ci := 10) rfl sp173 (by decide) (by decide) rfl ⟨Nat.le_of_ble_eq_true rfl, Nat.le_of_ble_eq_true rfl⟩ (Nat.le_of_ble_eq_true rfl) (c_X11_no hc31) ?_
      obtain rfl := Option.some.inj h
      dsimp only
      exact ev_iret dX11_says_68 rfl rfl
    refine ev_aload_n dX11_says_46 rfl (by decide) ?_
    refine ev_bipush dX11_says_47 (by decide) (by decide) ?_
    obtain ⟨v32, hc33, h⟩ := bind_of h
    refine ev_invV_v (k := (173 : Int)) (av := [(0, (-53 : Int))]) (st := []) (v := (0, v32.1)) (τ := v32.2) dX11_says_49 ml_X11_151 mv_X11_no (T := TX11) (ci := 10) rfl sp173 (by decide) (by decide) rfl ⟨Nat.le_of_ble_eq_true rfl, Nat.le_of_ble_eq_true rfl⟩ (Nat.le_of_ble_eq_true rfl) (c_X11_no hc33) ?_
    obtain rfl := Option.some.inj h
    dsimp only
    exact ev_iret dX11_says_52 rfl rfl
  exact ev_sub (L2 := [(2, (173 : Int)), (9, 0), (9, 0), (9, 0), (9, 0), (9, 0), (9, 0)]) (e_X11_says_31 σ h) ⟨.inr rfl, .inl rfl, .inl rfl, .inl rfl, .inl rfl, .inl rfl, .inl rfl, trivial⟩
set_option maxHeartbeats 4000000 in
set_option maxRecDepth 20000 in
theorem e_X11_paper_26 (σ : Mem)  {q : (Int × Mem)} (h : f_X11_paper_26 σ  = some q) : Ev M_X11_paper 210 210 (some (0, q.1), rho, q.2) 26 210 rho σ [(2, (173 : Int)), (9, 0), (9, 0), (9, 0), (9, 0)] [] := by
  unfold f_X11_paper_26 at h
  refine ev_aload_n dX11_paper_26 rfl (by decide) ?_
  refine ev_bipush dX11_paper_27 (by decide) (by decide) ?_
  obtain ⟨v14, hc15, h⟩ := bind_of h
  refine ev_invV_v (k := (173 : Int)) (av := [(0, (-52 : Int))]) (st := []) (v := (0, v14.1)) (τ := v14.2) dX11_paper_29 ml_X11_151 mv_X11_no (T := TX11) (ci := 10) rfl sp173 (by decide) (by decide) rfl ⟨Nat.le_of_ble_eq_true rfl, Nat.le_of_ble_eq_true rfl⟩ (Nat.le_of_ble_eq_true rfl) (c_X11_no hc15) ?_
  obtain rfl := Option.some.inj h
  dsimp only
  exact ev_iret dX11_paper_32 rfl rfl
set_option maxHeartbeats 4000000 in
set_option maxRecDepth 20000 in
theorem c_X11_paper {σ : Mem} {x1 x2 x3 : Int}  {q : (Int × Mem)} (h : f_X11_paper σ x1 x2 x3 = some q) : Ms yX11_paper M_X11_paper 210 210 [(2, (173 : Int)), (0, x1), (0, x2), (0, x3)] rho σ (some (0, q.1), rho, q.2) := by
  refine Ms.of 1 (by decide +kernel) rfl (fun z => absurd z (by decide)) (fun _ _ _ => trivial) rfl rfl ?_
  unfold f_X11_paper at h
  show Ev M_X11_paper 210 210 _ 0 210 rho σ [(2, (173 : Int)), (0, x1), (0, x2), (0, x3), (9, 0)] []
  refine ev_iload_n dX11_paper_0 rfl ?_
  obtain ⟨v1, hc2, h⟩ := bind_of h
  refine ev_invS_v (av := [(0, x1)]) (st := []) (v := (0, v1)) (τ := σ) dX11_paper_1 ml_X11_168 mt_X11_isDay rfl ⟨Nat.le_of_ble_eq_true rfl, Nat.le_of_ble_eq_true rfl⟩ (Nat.le_of_ble_eq_true rfl) (c_X11_isDay hc2) ?_
  refine ev_if_eq (tgt := 26) dX11_paper_4 rfl h (fun cb h => ?_) (fun cb h => ?_)
  · exact ev_sub (L2 := [(2, (173 : Int)), (9, 0), (9, 0), (9, 0), (9, 0)]) (e_X11_paper_26 σ h) ⟨.inr rfl, .inl rfl, .inl rfl, .inl rfl, .inl rfl, trivial⟩
  refine ev_iload_n dX11_paper_7 rfl ?_
  obtain ⟨v3, hc4, h⟩ := bind_of h
  refine ev_invS_v (av := [(0, x2)]) (st := []) (v := (0, v3)) (τ := σ) dX11_paper_8 ml_X11_171 mt_X11_isSlot rfl ⟨Nat.le_of_ble_eq_true rfl, Nat.le_of_ble_eq_true rfl⟩ (Nat.le_of_ble_eq_true rfl) (c_X11_isSlot hc4) ?_
  refine ev_if_eq (tgt := 26) dX11_paper_11 rfl h (fun cb h => ?_) (fun cb h => ?_)
  · exact ev_sub (L2 := [(2, (173 : Int)), (9, 0), (9, 0), (9, 0), (9, 0)]) (e_X11_paper_26 σ h) ⟨.inr rfl, .inl rfl, .inl rfl, .inl rfl, .inl rfl, trivial⟩
  refine ev_iload_n dX11_paper_14 rfl ?_
  refine ev_i2lk dX11_paper_15 ?_
  refine ev_lconst (x := (1 : Int)) dX11_paper_16 (by decide) (by decide) ?_
  refine ev_ldc2 (x := (12 : Int)) dX11_paper_17 wc_X11_162 (by decide) (by decide) ?_
  obtain ⟨v5, hc6, h⟩ := bind_of h
  refine ev_invS_v (av := [(1, x3), (1, (1 : Int)), (1, (12 : Int))]) (st := []) (v := (0, v5)) (τ := σ) dX11_paper_20 ml_X11_120 mt_X11_isIn rfl ⟨Nat.le_of_ble_eq_true rfl, Nat.le_of_ble_eq_true rfl⟩ (Nat.le_of_ble_eq_true rfl) (c_X11_isIn hc6) ?_
  refine ev_if_ne (tgt := 33) dX11_paper_23 rfl h (fun cb h => ?_) (fun cb h => ?_)
  · refine ev_aload_n dX11_paper_33 rfl (by decide) ?_
    refine ev_getf (j := 0) (t := 2) (x := (174 : Int)) dX11_paper_34 cf_X11 wf_X11_7 sp173 (by decide) (by decide) rfl (by decide) (rp173_0 _) ?_
    refine ev_bipush dX11_paper_37 (by decide) (by decide) ?_
    refine ev_iald dX11_paper_39 sp174 (by decide) (by decide) h (fun h => ?_)
    refine ev_bipush dX11_paper_40 (by decide) (by decide) ?_
    refine ev_icmp_ne (tgt := 52) dX11_paper_42 rfl h (fun cb h => ?_) (fun cb h => ?_)
    · refine ev_aload_n dX11_paper_52 rfl (by decide) ?_
      refine ev_getf (j := 0) (t := 2) (x := (174 : Int)) dX11_paper_53 cf_X11 wf_X11_7 sp173 (by decide) (by decide) rfl (by decide) (rp173_0 _) ?_
      refine ev_bipush dX11_paper_56 (by decide) (by decide) ?_
      refine ev_iald dX11_paper_58 sp174 (by decide) (by decide) h (fun h => ?_)
      refine ev_istoreG dX11_paper_59 h rfl (by decide) (fun v7 h => ?_)
      show Ev _ _ _ _ 61 _ _ _ [(2, (173 : Int)), (0, x1), (0, x2), (0, x3), (0, v7)] _
      refine ev_aload_n dX11_paper_61 rfl (by decide) ?_
      refine ev_getf (j := 0) (t := 2) (x := (174 : Int)) dX11_paper_62 cf_X11 wf_X11_7 sp173 (by decide) (by decide) rfl (by decide) (rp173_0 _) ?_
      refine ev_iconst dX11_paper_65 (by decide) ?_
      refine ev_iconst dX11_paper_66 (by decide) ?_
      refine ev_iload dX11_paper_67 rfl ?_
      refine ev_imul dX11_paper_69 ?_
      show Ev _ _ _ _ 70 _ _ _ _ _
      refine ev_iadd dX11_paper_70 ?_
      refine ev_iload_n dX11_paper_71 rfl ?_
      refine ev_iastG dX11_paper_72 sp174 (by decide) (by decide) h (fun σ8 h => ?_)
      refine ev_aload_n dX11_paper_73 rfl (by decide) ?_
      refine ev_getf (j := 0) (t := 2) (x := (174 : Int)) dX11_paper_74 cf_X11 wf_X11_7 sp173 (by decide) (by decide) rfl (by decide) (rp173_0 _) ?_
      refine ev_iconst dX11_paper_77 (by decide) ?_
      refine ev_iconst dX11_paper_78 (by decide) ?_
      refine ev_iload dX11_paper_79 rfl ?_
      refine ev_imul dX11_paper_81 ?_
      refine ev_iadd dX11_paper_82 ?_
      refine ev_iconst dX11_paper_83 (by decide) ?_
      refine ev_iadd dX11_paper_84 ?_
      show Ev _ _ _ _ 85 _ _ _ _ _
      refine ev_iload_n dX11_paper_85 rfl ?_
      refine ev_iastG dX11_paper_86 sp174 (by decide) (by decide) h (fun σ9 h => ?_)
      refine ev_aload_n dX11_paper_87 rfl (by decide) ?_
      refine ev_getf (j := 0) (t := 2) (x := (174 : Int)) dX11_paper_88 cf_X11 wf_X11_7 sp173 (by decide) (by decide) rfl (by decide) (rp173_0 _) ?_
      refine ev_iconst dX11_paper_91 (by decide) ?_
      refine ev_iconst dX11_paper_92 (by decide) ?_
      refine ev_iload dX11_paper_93 rfl ?_
      refine ev_imul dX11_paper_95 ?_
      refine ev_iadd dX11_paper_96 ?_
      refine ev_iconst dX11_paper_97 (by decide) ?_
      refine ev_iadd dX11_paper_98 ?_
      refine ev_iload_n dX11_paper_99 rfl ?_
      show Ev _ _ _ _ 100 _ _ _ _ _
      refine ev_iastG dX11_paper_100 sp174 (by decide) (by decide) h (fun σ10 h => ?_)
      refine ev_aload_n dX11_paper_101 rfl (by decide) ?_
      refine ev_getf (j := 0) (t := 2) (x := (174 : Int)) dX11_paper_102 cf_X11 wf_X11_7 sp173 (by decide) (by decide) rfl (by decide) (rp173_0 _) ?_
      refine ev_bipush dX11_paper_105 (by decide) (by decide) ?_
      refine ev_dup2 dX11_paper_107 (show (0 : Nat) ≠ 1 by decide) (show (2 : Nat) ≠ 1 by decide) ?_
      refine ev_iald dX11_paper_108 sp174 (by decide) (by decide) h (fun h => ?_)
      refine ev_iconst dX11_paper_109 (by decide) ?_
      refine ev_iadd dX11_paper_110 ?_
      refine ev_iastG dX11_paper_111 sp174 (by decide) (by decide) h (fun σ11 h => ?_)
      refine ev_iload dX11_paper_112 rfl ?_
      obtain rfl := Option.some.inj h
      dsimp only
      exact ev_iret dX11_paper_114 rfl rfl
    refine ev_aload_n dX11_paper_45 rfl (by decide) ?_
    refine ev_bipush dX11_paper_46 (by decide) (by decide) ?_
    obtain ⟨v12, hc13, h⟩ := bind_of h
    refine ev_invV_v (k := (173 : Int)) (av := [(0, (-56 : Int))]) (st := []) (v := (0, v12.1)) (τ := v12.2) dX11_paper_48 ml_X11_151 mv_X11_no (T := TX11) (ci := 10) rfl sp173 (by decide) (by decide) rfl ⟨Nat.le_of_ble_eq_true rfl, Nat.le_of_ble_eq_true rfl⟩ (Nat.le_of_ble_eq_true rfl) (c_X11_no hc13) ?_
    obtain rfl := Option.some.inj h
    dsimp only
    exact ev_iret dX11_paper_51 rfl rfl
  exact ev_sub (L2 := [(2, (173 : Int)), (9, 0), (9, 0), (9, 0), (9, 0)]) (e_X11_paper_26 σ h) ⟨.inr rfl, .inl rfl, .inl rfl, .inl rfl, .inl rfl, trivial⟩
set_option maxHeartbeats 4000000 in
set_option maxRecDepth 20000 in
theorem c_X11_becomes {σ : Mem} {x1 x2 : Int}  {q : (Int × Mem)} (h : f_X11_becomes σ x1 x2 = some q) : Ms yX11_becomes M_X11_becomes 210 210 [(2, (173 : Int)), (0, x1), (0, x2)] rho σ (some (0, q.1), rho, q.2) := by
  refine Ms.of 1 (by decide +kernel) rfl (fun z => absurd z (by decide)) (fun _ _ _ => trivial) rfl rfl ?_
  unfold f_X11_becomes at h
  show Ev M_X11_becomes 210 210 _ 0 210 rho σ [(2, (173 : Int)), (0, x1), (0, x2), (9, 0)] []
  refine ev_aload_n dX11_becomes_0 rfl (by decide) ?_
  refine ev_getf (j := 0) (t := 2) (x := (174 : Int)) dX11_becomes_1 cf_X11 wf_X11_7 sp173 (by decide) (by decide) rfl (by decide) (rp173_0 _) ?_
  refine ev_iload_n dX11_becomes_4 rfl ?_
  refine ev_iald dX11_becomes_5 sp174 (by decide) (by decide) h (fun h => ?_)
  refine ev_istore_nG dX11_becomes_6 h rfl (by decide) (fun v1 h => ?_)
  show Ev _ _ _ _ 7 _ _ _ [(2, (173 : Int)), (0, x1), (0, x2), (0, v1)] _
  refine ev_aload_n dX11_becomes_7 rfl (by decide) ?_
  refine ev_getf (j := 0) (t := 2) (x := (174 : Int)) dX11_becomes_8 cf_X11 wf_X11_7 sp173 (by decide) (by decide) rfl (by decide) (rp173_0 _) ?_
  refine ev_iload_n dX11_becomes_11 rfl ?_
  refine ev_iload_n dX11_becomes_12 rfl ?_
  refine ev_iastG dX11_becomes_13 sp174 (by decide) (by decide) h (fun σ2 h => ?_)
  refine ev_iload_n dX11_becomes_14 rfl ?_
  show Ev _ _ _ _ 15 _ _ _ _ _
  obtain rfl := Option.some.inj h
  dsimp only
  exact ev_iret dX11_becomes_15 rfl rfl
set_option maxHeartbeats 4000000 in
set_option maxRecDepth 20000 in
theorem e_X11_starts_30 (σ : Mem)  {q : (Int × Mem)} (h : f_X11_starts_30 σ  = some q) : Ev M_X11_starts 210 210 (some (0, q.1), rho, q.2) 30 210 rho σ [(2, (173 : Int)), (9, 0), (9, 0)] [] := by
  unfold f_X11_starts_30 at h
  refine ev_aload_n dX11_starts_30 rfl (by decide) ?_
  refine ev_bipush dX11_starts_31 (by decide) (by decide) ?_
  obtain ⟨v7, hc8, h⟩ := bind_of h
  refine ev_invV_v (k := (173 : Int)) (av := [(0, (-52 : Int))]) (st := []) (v := (0, v7.1)) (τ := v7.2) dX11_starts_33 ml_X11_151 mv_X11_no (T := TX11) (ci := 10) rfl sp173 (by decide) (by decide) rfl ⟨Nat.le_of_ble_eq_true rfl, Nat.le_of_ble_eq_true rfl⟩ (Nat.le_of_ble_eq_true rfl) (c_X11_no hc8) ?_
  obtain rfl := Option.some.inj h
  dsimp only
  exact ev_iret dX11_starts_36 rfl rfl
set_option maxHeartbeats 4000000 in
set_option maxRecDepth 20000 in
theorem c_X11_starts {σ : Mem} {x1 x2 : Int}  {q : (Int × Mem)} (h : f_X11_starts σ x1 x2 = some q) : Ms yX11_starts M_X11_starts 210 210 [(2, (173 : Int)), (0, x1), (0, x2)] rho σ (some (0, q.1), rho, q.2) := by
  refine Ms.of 0 (by decide +kernel) rfl (fun z => absurd z (by decide)) (fun _ _ _ => trivial) rfl rfl ?_
  unfold f_X11_starts at h
  show Ev M_X11_starts 210 210 _ 0 210 rho σ [(2, (173 : Int)), (0, x1), (0, x2)] []
  refine ev_aload_n dX11_starts_0 rfl (by decide) ?_
  refine ev_iload_n dX11_starts_1 rfl ?_
  obtain ⟨v1, hc2, h⟩ := bind_of h
  refine ev_invV_v (k := (173 : Int)) (av := [(0, x1)]) (st := []) (v := (0, v1)) (τ := σ) dX11_starts_2 ml_X11_174 mv_X11_isPaper (T := TX11) (ci := 10) rfl sp173 (by decide) (by decide) rfl ⟨Nat.le_of_ble_eq_true rfl, Nat.le_of_ble_eq_true rfl⟩ (Nat.le_of_ble_eq_true rfl) (c_X11_isPaper hc2) ?_
  refine ev_if_eq (tgt := 30) dX11_starts_5 rfl h (fun cb h => ?_) (fun cb h => ?_)
  · exact ev_sub (L2 := [(2, (173 : Int)), (9, 0), (9, 0)]) (e_X11_starts_30 σ h) ⟨.inr rfl, .inl rfl, .inl rfl, trivial⟩
  refine ev_iload_n dX11_starts_8 rfl ?_
  obtain ⟨v3, hc4, h⟩ := bind_of h
  refine ev_invS_v (av := [(0, x2)]) (st := []) (v := (0, v3)) (τ := σ) dX11_starts_9 ml_X11_171 mt_X11_isSlot rfl ⟨Nat.le_of_ble_eq_true rfl, Nat.le_of_ble_eq_true rfl⟩ (Nat.le_of_ble_eq_true rfl) (c_X11_isSlot hc4) ?_
  refine ev_if_eq (tgt := 30) dX11_starts_12 rfl h (fun cb h => ?_) (fun cb h => ?_)
  · exact ev_sub (L2 := [(2, (173 : Int)), (9, 0), (9, 0)]) (e_X11_starts_30 σ h) ⟨.inr rfl, .inl rfl, .inl rfl, trivial⟩
  refine ev_aload_n dX11_starts_15 rfl (by decide) ?_
  refine ev_iconst dX11_starts_16 (by decide) ?_
  refine ev_iconst dX11_starts_17 (by decide) ?_
  refine ev_iload_n dX11_starts_18 rfl ?_
  refine ev_imul dX11_starts_19 ?_
  refine ev_iadd dX11_starts_20 ?_
  refine ev_iconst dX11_starts_21 (by decide) ?_
  refine ev_iadd dX11_starts_22 ?_
  refine ev_iload_n dX11_starts_23 rfl ?_
  obtain ⟨v5, hc6, h⟩ := bind_of h
  refine ev_invV_v (k := (173 : Int)) (av := [(0, (jadd (jadd (0 : Int) (jmul (3 : Int) x1)) (1 : Int))), (0, x2)]) (st := []) (v := (0, v5.1)) (τ := v5.2) dX11_starts_24 ml_X11_177 mv_X11_becomes (T := TX11) (ci := 10) rfl sp173 (by decide) (by decide) rfl ⟨Nat.le_of_ble_eq_true rfl, Nat.le_of_ble_eq_true rfl⟩ (Nat.le_of_ble_eq_true rfl) (c_X11_becomes hc6) ?_
  refine ev_goto (tgt := 36) dX11_starts_27 rfl ?_
  show Ev _ _ _ _ 36 _ _ _ _ _
  obtain rfl := Option.some.inj h
  dsimp only
  exact ev_iret dX11_starts_36 rfl rfl
set_option maxHeartbeats 4000000 in
set_option maxRecDepth 20000 in
theorem e_X11_cand_24 (σ : Mem)  {q : (Int × Mem)} (h : f_X11_cand_24 σ  = some q) : Ev M_X11_cand 210 210 (some (0, q.1), rho, q.2) 24 210 rho σ [(2, (173 : Int)), (9, 0), (9, 0), (9, 0)] [] := by
  unfold f_X11_cand_24 at h
  refine ev_aload_n dX11_cand_24 rfl (by decide) ?_
  refine ev_bipush dX11_cand_25 (by decide) (by decide) ?_
  obtain ⟨v13, hc14, h⟩ := bind_of h
  refine ev_invV_v (k := (173 : Int)) (av := [(0, (-52 : Int))]) (st := []) (v := (0, v13.1)) (τ := v13.2) dX11_cand_27 ml_X11_151 mv_X11_no (T := TX11) (ci := 10) rfl sp173 (by decide) (by decide) rfl ⟨Nat.le_of_ble_eq_true rfl, Nat.le_of_ble_eq_true rfl⟩ (Nat.le_of_ble_eq_true rfl) (c_X11_no hc14) ?_
  obtain rfl := Option.some.inj h
  dsimp only
  exact ev_iret dX11_cand_30 rfl rfl
set_option maxHeartbeats 4000000 in
set_option maxRecDepth 20000 in
theorem c_X11_cand {σ : Mem} {x1 x2 : Int}  {q : (Int × Mem)} (h : f_X11_cand σ x1 x2 = some q) : Ms yX11_cand M_X11_cand 210 210 [(2, (173 : Int)), (0, x1), (0, x2)] rho σ (some (0, q.1), rho, q.2) := by
  refine Ms.of 1 (by decide +kernel) rfl (fun z => absurd z (by decide)) (fun _ _ _ => trivial) rfl rfl ?_
  unfold f_X11_cand at h
  show Ev M_X11_cand 210 210 _ 0 210 rho σ [(2, (173 : Int)), (0, x1), (0, x2), (9, 0)] []
  refine ev_iload_n dX11_cand_0 rfl ?_
  refine ev_i2lk dX11_cand_1 ?_
  refine ev_lconst (x := (0 : Int)) dX11_cand_2 (by decide) (by decide) ?_
  refine ev_ldc2 (x := (5 : Int)) dX11_cand_3 wc_X11_160 (by decide) (by decide) ?_
  obtain ⟨v1, hc2, h⟩ := bind_of h
  refine ev_invS_v (av := [(1, x1), (1, (0 : Int)), (1, (5 : Int))]) (st := []) (v := (0, v1)) (τ := σ) dX11_cand_6 ml_X11_120 mt_X11_isIn rfl ⟨Nat.le_of_ble_eq_true rfl, Nat.le_of_ble_eq_true rfl⟩ (Nat.le_of_ble_eq_true rfl) (c_X11_isIn hc2) ?_
  refine ev_if_eq (tgt := 24) dX11_cand_9 rfl h (fun cb h => ?_) (fun cb h => ?_)
  · exact ev_sub (L2 := [(2, (173 : Int)), (9, 0), (9, 0), (9, 0)]) (e_X11_cand_24 σ h) ⟨.inr rfl, .inl rfl, .inl rfl, .inl rfl, trivial⟩
  refine ev_iload_n dX11_cand_12 rfl ?_
  refine ev_i2lk dX11_cand_13 ?_
  refine ev_lconst (x := (0 : Int)) dX11_cand_14 (by decide) (by decide) ?_
  refine ev_ldc2 (x := (9 : Int)) dX11_cand_15 wc_X11_180 (by decide) (by decide) ?_
  obtain ⟨v3, hc4, h⟩ := bind_of h
  refine ev_invS_v (av := [(1, x2), (1, (0 : Int)), (1, (9 : Int))]) (st := []) (v := (0, v3)) (τ := σ) dX11_cand_18 ml_X11_120 mt_X11_isIn rfl ⟨Nat.le_of_ble_eq_true rfl, Nat.le_of_ble_eq_true rfl⟩ (Nat.le_of_ble_eq_true rfl) (c_X11_isIn hc4) ?_
  refine ev_if_ne (tgt := 31) dX11_cand_21 rfl h (fun cb h => ?_) (fun cb h => ?_)
  · refine ev_aload_n dX11_cand_31 rfl (by decide) ?_
    refine ev_getf (j := 0) (t := 2) (x := (174 : Int)) dX11_cand_32 cf_X11 wf_X11_7 sp173 (by decide) (by decide) rfl (by decide) (rp173_0 _) ?_
    refine ev_bipush dX11_cand_35 (by decide) (by decide) ?_
    refine ev_iald dX11_cand_37 sp174 (by decide) (by decide) h (fun h => ?_)
    refine ev_bipush dX11_cand_38 (by decide) (by decide) ?_
    refine ev_icmp_ne (tgt := 50) dX11_cand_40 rfl h (fun cb h => ?_) (fun cb h => ?_)
    · refine ev_aload_n dX11_cand_50 rfl (by decide) ?_
      refine ev_getf (j := 0) (t := 2) (x := (174 : Int)) dX11_cand_51 cf_X11 wf_X11_7 sp173 (by decide) (by decide) rfl (by decide) (rp173_0 _) ?_
      refine ev_bipush dX11_cand_54 (by decide) (by decide) ?_
      refine ev_iald dX11_cand_56 sp174 (by decide) (by decide) h (fun h => ?_)
      refine ev_istore_nG dX11_cand_57 h rfl (by decide) (fun v5 h => ?_)
      show Ev _ _ _ _ 58 _ _ _ [(2, (173 : Int)), (0, x1), (0, x2), (0, v5)] _
      refine ev_aload_n dX11_cand_58 rfl (by decide) ?_
      refine ev_getf (j := 0) (t := 2) (x := (174 : Int)) dX11_cand_59 cf_X11 wf_X11_7 sp173 (by decide) (by decide) rfl (by decide) (rp173_0 _) ?_
      refine ev_bipush dX11_cand_62 (by decide) (by decide) ?_
      refine ev_iconst dX11_cand_64 (by decide) ?_
      refine ev_iload_n dX11_cand_65 rfl ?_
      refine ev_imul dX11_cand_66 ?_
      show Ev _ _ _ _ 67 _ _ _ _ _
      refine ev_iadd dX11_cand_67 ?_
      refine ev_iload_n dX11_cand_68 rfl ?_
      refine ev_iastG dX11_cand_69 sp174 (by decide) (by decide) h (fun σ6 h => ?_)
      refine ev_aload_n dX11_cand_70 rfl (by decide) ?_
      refine ev_getf (j := 0) (t := 2) (x := (174 : Int)) dX11_cand_71 cf_X11 wf_X11_7 sp173 (by decide) (by decide) rfl (by decide) (rp173_0 _) ?_
      refine ev_bipush dX11_cand_74 (by decide) (by decide) ?_
      refine ev_iconst dX11_cand_76 (by decide) ?_
      refine ev_iload_n dX11_cand_77 rfl ?_
      refine ev_imul dX11_cand_78 ?_
      refine ev_iadd dX11_cand_79 ?_
      refine ev_iconst dX11_cand_80 (by decide) ?_
      refine ev_iadd dX11_cand_81 ?_
      show Ev _ _ _ _ 82 _ _ _ _ _
      refine ev_iload_n dX11_cand_82 rfl ?_
      refine ev_iastG dX11_cand_83 sp174 (by decide) (by decide) h (fun σ7 h => ?_)
      refine ev_aload_n dX11_cand_84 rfl (by decide) ?_
      refine ev_getf (j := 0) (t := 2) (x := (174 : Int)) dX11_cand_85 cf_X11 wf_X11_7 sp173 (by decide) (by decide) rfl (by decide) (rp173_0 _) ?_
      refine ev_bipush dX11_cand_88 (by decide) (by decide) ?_
      refine ev_iconst dX11_cand_90 (by decide) ?_
      refine ev_iload_n dX11_cand_91 rfl ?_
      refine ev_imul dX11_cand_92 ?_
      refine ev_iadd dX11_cand_93 ?_
      refine ev_iconst dX11_cand_94 (by decide) ?_
      refine ev_iadd dX11_cand_95 ?_
      refine ev_iconst dX11_cand_96 (by decide) ?_
      show Ev _ _ _ _ 97 _ _ _ _ _
      refine ev_iastG dX11_cand_97 sp174 (by decide) (by decide) h (fun σ8 h => ?_)
      refine ev_aload_n dX11_cand_98 rfl (by decide) ?_
      refine ev_getf (j := 0) (t := 2) (x := (174 : Int)) dX11_cand_99 cf_X11 wf_X11_7 sp173 (by decide) (by decide) rfl (by decide) (rp173_0 _) ?_
      refine ev_bipush dX11_cand_102 (by decide) (by decide) ?_
      refine ev_iconst dX11_cand_104 (by decide) ?_
      refine ev_iload_n dX11_cand_105 rfl ?_
      refine ev_imul dX11_cand_106 ?_
      refine ev_iadd dX11_cand_107 ?_
      refine ev_iconst dX11_cand_108 (by decide) ?_
      refine ev_iadd dX11_cand_109 ?_
      refine ev_iconst dX11_cand_110 (by decide) ?_
      refine ev_iastG dX11_cand_111 sp174 (by decide) (by decide) h (fun σ9 h => ?_)
      show Ev _ _ _ _ 112 _ _ _ _ _
      refine ev_aload_n dX11_cand_112 rfl (by decide) ?_
      refine ev_getf (j := 0) (t := 2) (x := (174 : Int)) dX11_cand_113 cf_X11 wf_X11_7 sp173 (by decide) (by decide) rfl (by decide) (rp173_0 _) ?_
      refine ev_bipush dX11_cand_116 (by decide) (by decide) ?_
      refine ev_dup2 dX11_cand_118 (show (0 : Nat) ≠ 1 by decide) (show (2 : Nat) ≠ 1 by decide) ?_
      refine ev_iald dX11_cand_119 sp174 (by decide) (by decide) h (fun h => ?_)
      refine ev_iconst dX11_cand_120 (by decide) ?_
      refine ev_iadd dX11_cand_121 ?_
      refine ev_iastG dX11_cand_122 sp174 (by decide) (by decide) h (fun σ10 h => ?_)
      refine ev_iload_n dX11_cand_123 rfl ?_
      obtain rfl := Option.some.inj h
      dsimp only
      exact ev_iret dX11_cand_124 rfl rfl
    refine ev_aload_n dX11_cand_43 rfl (by decide) ?_
    refine ev_bipush dX11_cand_44 (by decide) (by decide) ?_
    obtain ⟨v11, hc12, h⟩ := bind_of h
    refine ev_invV_v (k := (173 : Int)) (av := [(0, (-56 : Int))]) (st := []) (v := (0, v11.1)) (τ := v11.2) dX11_cand_46 ml_X11_151 mv_X11_no (T := TX11) (ci := 10) rfl sp173 (by decide) (by decide) rfl ⟨Nat.le_of_ble_eq_true rfl, Nat.le_of_ble_eq_true rfl⟩ (Nat.le_of_ble_eq_true rfl) (c_X11_no hc12) ?_
    obtain rfl := Option.some.inj h
    dsimp only
    exact ev_iret dX11_cand_49 rfl rfl
  exact ev_sub (L2 := [(2, (173 : Int)), (9, 0), (9, 0), (9, 0)]) (e_X11_cand_24 σ h) ⟨.inr rfl, .inl rfl, .inl rfl, .inl rfl, trivial⟩
def K_X11_ofDay_5 (σ : Mem) (x1 x2 : Int) (r : Option V × Mem × Mem) : (Int × Int) ⊕ ((Int)) → Prop := Sum.elim (fun a => Ev M_X11_ofDay 210 210 r 5 210 rho σ [(2, (173 : Int)), (0, x1), (0, x2), (0, a.1), (0, a.2)] []) (fun e => Ev M_X11_ofDay 210 210 r 54 210 rho σ [(9, 0), (9, 0), (9, 0), (0, e), (9, 0)] [])
set_option maxHeartbeats 4000000 in
set_option maxRecDepth 20000 in
theorem e_X11_ofDay_46 (σ : Mem) (x1 x2 x4 s1 s0 : Int)  {q : ((Int × Int) ⊕ ((Int)))} (h : f_X11_ofDay_46 σ x1 x2 x4 s1 s0 = some q) {r : Option V × Mem × Mem} (K : K_X11_ofDay_5 σ x1 x2 r q) : Ev M_X11_ofDay 210 210 r 46 210 rho σ [(2, (173 : Int)), (0, x1), (0, x2), (9, 0), (0, x4)] [(0, s1), (0, s0)] := by
  unfold f_X11_ofDay_46 at h
  refine ev_ior dX11_ofDay_46 ?_
  refine ev_istore_nG dX11_ofDay_47 h rfl (by decide) (fun v5 h => ?_)
  show Ev _ _ _ _ 48 _ _ _ [(2, (173 : Int)), (0, x1), (0, x2), (0, v5), (0, x4)] _
  refine ev_iincG dX11_ofDay_48 rfl h rfl (fun v6 h => ?_)
  show Ev _ _ _ _ 51 _ _ _ [(2, (173 : Int)), (0, x1), (0, x2), (0, v5), (0, v6)] _
  refine ev_goto (tgt := 5) dX11_ofDay_51 rfl ?_
  obtain rfl := Option.some.inj h
  exact ev_sub (L2 := [(2, (173 : Int)), (0, x1), (0, x2), (0, v5), (0, v6)]) K ⟨.inr rfl, .inr rfl, .inr rfl, .inr rfl, .inr rfl, trivial⟩
set_option maxHeartbeats 4000000 in
set_option maxRecDepth 20000 in
theorem e_X11_ofDay_45 (σ : Mem) (x1 x2 x4 s0 : Int)  {q : ((Int × Int) ⊕ ((Int)))} (h : f_X11_ofDay_45 σ x1 x2 x4 s0 = some q) {r : Option V × Mem × Mem} (K : K_X11_ofDay_5 σ x1 x2 r q) : Ev M_X11_ofDay 210 210 r 45 210 rho σ [(2, (173 : Int)), (0, x1), (0, x2), (9, 0), (0, x4)] [(0, s0)] := by
  unfold f_X11_ofDay_45 at h
  refine ev_iconst dX11_ofDay_45 (by decide) ?_
  exact ev_sub (L2 := [(2, (173 : Int)), (0, x1), (0, x2), (9, 0), (0, x4)]) (e_X11_ofDay_46 σ x1 x2 x4 (0 : Int) s0 h K) ⟨.inr rfl, .inr rfl, .inr rfl, .inl rfl, .inr rfl, trivial⟩
set_option maxHeartbeats 4000000 in
set_option maxRecDepth 20000 in
theorem b_X11_ofDay_5 (σ : Mem) (x1 x2 : Int)  {r : Option V × Mem × Mem} : ∀ a x, f_X11_ofDay_5B σ x1 x2 a = some x → K_X11_ofDay_5 σ x1 x2 r x → K_X11_ofDay_5 σ x1 x2 r (.inl a) := by
  intro a x h K
  obtain ⟨x3, x4⟩ := a
  have h : f_X11_ofDay_5C σ x1 x2 x3 x4 = some x := h
  unfold f_X11_ofDay_5C at h
  show Ev M_X11_ofDay 210 210 r 5 210 rho σ [(2, (173 : Int)), (0, x1), (0, x2), (0, x3), (0, x4)] []
  refine ev_iload dX11_ofDay_5 rfl ?_
  refine ev_aload_n dX11_ofDay_7 rfl (by decide) ?_
  refine ev_getf (j := 0) (t := 2) (x := (174 : Int)) dX11_ofDay_8 cf_X11 wf_X11_7 sp173 (by decide) (by decide) rfl (by decide) (rp173_0 _) ?_
  refine ev_bipush dX11_ofDay_11 (by decide) (by decide) ?_
  refine ev_iald dX11_ofDay_13 sp174 (by decide) (by decide) h (fun h => ?_)
  refine ev_icmp_ge (tgt := 54) dX11_ofDay_14 rfl h (fun cb h => ?_) (fun cb h => ?_)
  · obtain rfl := Option.some.inj h
    exact ev_sub (L2 := [(9, 0), (9, 0), (9, 0), (0, x3), (9, 0)]) K ⟨.inl rfl, .inl rfl, .inl rfl, .inr rfl, .inl rfl, trivial⟩
  refine ev_iload_n dX11_ofDay_17 rfl ?_
  refine ev_aload_n dX11_ofDay_18 rfl (by decide) ?_
  refine ev_iload_n dX11_ofDay_19 rfl ?_
  refine ev_iload dX11_ofDay_20 rfl ?_
  obtain ⟨v1, hc2, h⟩ := bind_of h
  refine ev_invV_v (k := (173 : Int)) (av := [(0, x1), (0, x4)]) (st := [(0, x3)]) (v := (0, v1)) (τ := σ) dX11_ofDay_22 ml_X11_182 mv_X11_has (T := TX11) (ci := 10) rfl sp173 (by decide) (by decide) rfl ⟨Nat.le_of_ble_eq_true rfl, Nat.le_of_ble_eq_true rfl⟩ (Nat.le_of_ble_eq_true rfl) (c_X11_has hc2) ?_
  refine ev_if_eq (tgt := 45) dX11_ofDay_25 rfl h (fun cb h => ?_) (fun cb h => ?_)
  · exact ev_sub (L2 := [(2, (173 : Int)), (0, x1), (0, x2), (9, 0), (0, x4)]) (e_X11_ofDay_45 σ x1 x2 x4 x3 h K) ⟨.inr rfl, .inr rfl, .inr rfl, .inl rfl, .inr rfl, trivial⟩
  refine ev_aload_n dX11_ofDay_28 rfl (by decide) ?_
  refine ev_iload dX11_ofDay_29 rfl ?_
  obtain ⟨v3, hc4, h⟩ := bind_of h
  refine ev_invV_v (k := (173 : Int)) (av := [(0, x4)]) (st := [(0, x3)]) (v := (0, v3)) (τ := σ) dX11_ofDay_31 ml_X11_185 mv_X11_day (T := TX11) (ci := 10) rfl sp173 (by decide) (by decide) rfl ⟨Nat.le_of_ble_eq_true rfl, Nat.le_of_ble_eq_true rfl⟩ (Nat.le_of_ble_eq_true rfl) (c_X11_day hc4) ?_
  refine ev_iload_n dX11_ofDay_34 rfl ?_
  refine ev_icmp_ne (tgt := 45) dX11_ofDay_35 rfl h (fun cb h => ?_) (fun cb h => ?_)
  · exact ev_sub (L2 := [(2, (173 : Int)), (0, x1), (0, x2), (9, 0), (0, x4)]) (e_X11_ofDay_45 σ x1 x2 x4 x3 h K) ⟨.inr rfl, .inr rfl, .inr rfl, .inl rfl, .inr rfl, trivial⟩
  refine ev_iconst dX11_ofDay_38 (by decide) ?_
  refine ev_iload dX11_ofDay_39 rfl ?_
  refine ev_ishl dX11_ofDay_41 ?_
  refine ev_goto (tgt := 46) dX11_ofDay_42 rfl ?_
  exact ev_sub (L2 := [(2, (173 : Int)), (0, x1), (0, x2), (9, 0), (0, x4)]) (e_X11_ofDay_46 σ x1 x2 x4 (jshl (1 : Int) x4) x3 h K) ⟨.inr rfl, .inr rfl, .inr rfl, .inl rfl, .inr rfl, trivial⟩
set_option maxHeartbeats 4000000 in
set_option maxRecDepth 20000 in
theorem e_X11_ofDay_5 (σ : Mem) (x1 x2 x3 x4 : Int)  {q : Int} (h : f_X11_ofDay_5 σ x1 x2 x3 x4 = some q) : Ev M_X11_ofDay 210 210 (some (0, q), rho, σ) 5 210 rho σ [(2, (173 : Int)), (0, x1), (0, x2), (0, x3), (0, x4)] [] := by
  unfold f_X11_ofDay_5 at h
  obtain ⟨e, hl, h⟩ := bind_of h
  refine loop_ev (K := K_X11_ofDay_5 σ x1 x2 (some (0, q), rho, σ)) (b_X11_ofDay_5 σ x1 x2) FU (x3, x4) e hl ?_
  show Ev M_X11_ofDay 210 210 _ 54 210 rho σ [(9, 0), (9, 0), (9, 0), (0, e), (9, 0)] []
  replace h : some e = some q := h
  refine ev_iload_n dX11_ofDay_54 rfl ?_
  obtain rfl := Option.some.inj h
  exact ev_iret dX11_ofDay_55 rfl rfl
set_option maxHeartbeats 4000000 in
set_option maxRecDepth 20000 in
theorem c_X11_ofDay {σ : Mem} {x1 x2 : Int}  {q : Int} (h : f_X11_ofDay σ x1 x2 = some q) : Ms yX11_ofDay M_X11_ofDay 210 210 [(2, (173 : Int)), (0, x1), (0, x2)] rho σ (some (0, q), rho, σ) := by
  refine Ms.of 2 (by decide +kernel) rfl (fun z => absurd z (by decide)) (fun _ _ _ => trivial) rfl rfl ?_
  unfold f_X11_ofDay at h
  show Ev M_X11_ofDay 210 210 _ 0 210 rho σ [(2, (173 : Int)), (0, x1), (0, x2), (9, 0), (9, 0)] []
  refine ev_iconst dX11_ofDay_0 (by decide) ?_
  refine ev_istore_n dX11_ofDay_1 rfl (by decide) ?_
  show Ev _ _ _ _ 2 _ _ _ [(2, (173 : Int)), (0, x1), (0, x2), (0, (0 : Int)), (9, 0)] _
  refine ev_iconst dX11_ofDay_2 (by decide) ?_
  refine ev_istore dX11_ofDay_3 rfl (by decide) ?_
  show Ev _ _ _ _ 5 _ _ _ [(2, (173 : Int)), (0, x1), (0, x2), (0, (0 : Int)), (0, (0 : Int))] _
  exact ev_sub (L2 := [(2, (173 : Int)), (0, x1), (0, x2), (0, (0 : Int)), (0, (0 : Int))]) (e_X11_ofDay_5 σ x1 x2 (0 : Int) (0 : Int) h) ⟨.inr rfl, .inr rfl, .inr rfl, .inr rfl, .inr rfl, trivial⟩
set_option maxHeartbeats 4000000 in
set_option maxRecDepth 20000 in
theorem c_X11_isFifth {σ : Mem} {x1 x2 : Int}  {q : Int} (h : f_X11_isFifth σ x1 x2 = some q) : Ms yX11_isFifth M_X11_isFifth 210 210 [(2, (173 : Int)), (0, x1), (0, x2)] rho σ (some (0, q), rho, σ) := by
  refine Ms.of 0 (by decide +kernel) rfl (fun z => absurd z (by decide)) (fun _ _ _ => trivial) rfl rfl ?_
  unfold f_X11_isFifth at h
  show Ev M_X11_isFifth 210 210 _ 0 210 rho σ [(2, (173 : Int)), (0, x1), (0, x2)] []
  refine ev_aload_n dX11_isFifth_0 rfl (by decide) ?_
  refine ev_iload_n dX11_isFifth_1 rfl ?_
  refine ev_iload_n dX11_isFifth_2 rfl ?_
  obtain ⟨v1, hc2, h⟩ := bind_of h
  refine ev_invV_v (k := (173 : Int)) (av := [(0, x1), (0, x2)]) (st := []) (v := (0, v1)) (τ := σ) dX11_isFifth_3 ml_X11_182 mv_X11_has (T := TX11) (ci := 10) rfl sp173 (by decide) (by decide) rfl ⟨Nat.le_of_ble_eq_true rfl, Nat.le_of_ble_eq_true rfl⟩ (Nat.le_of_ble_eq_true rfl) (c_X11_has hc2) ?_
  refine ev_if_ne (tgt := 30) dX11_isFifth_6 rfl h (fun cb h => ?_) (fun cb h => ?_)
  · refine ev_iconst dX11_isFifth_30 (by decide) ?_
    obtain rfl := Option.some.inj h
    exact ev_zret dX11_isFifth_31 rfl (chk_pos (.inl rfl))
  refine ev_aload_n dX11_isFifth_9 rfl (by decide) ?_
  refine ev_iload_n dX11_isFifth_10 rfl ?_
  refine ev_aload_n dX11_isFifth_11 rfl (by decide) ?_
  refine ev_iload_n dX11_isFifth_12 rfl ?_
  obtain ⟨v3, hc4, h⟩ := bind_of h
  refine ev_invV_v (k := (173 : Int)) (av := [(0, x2)]) (st := [(0, x1), (2, (173 : Int))]) (v := (0, v3)) (τ := σ) dX11_isFifth_13 ml_X11_185 mv_X11_day (T := TX11) (ci := 10) rfl sp173 (by decide) (by decide) rfl ⟨Nat.le_of_ble_eq_true rfl, Nat.le_of_ble_eq_true rfl⟩ (Nat.le_of_ble_eq_true rfl) (c_X11_day hc4) ?_
  obtain ⟨v5, hc6, h⟩ := bind_of h
  refine ev_invV_v (k := (173 : Int)) (av := [(0, x1), (0, v3)]) (st := []) (v := (0, v5)) (τ := σ) dX11_isFifth_16 ml_X11_188 mv_X11_ofDay (T := TX11) (ci := 10) rfl sp173 (by decide) (by decide) rfl ⟨Nat.le_of_ble_eq_true rfl, Nat.le_of_ble_eq_true rfl⟩ (Nat.le_of_ble_eq_true rfl) (c_X11_ofDay hc6) ?_
  obtain ⟨v7, hc8, h⟩ := bind_of h
  refine ev_invS_v (av := [(0, v5)]) (st := []) (v := (0, v7)) (τ := σ) dX11_isFifth_19 ml_X11_191 mt_X11_many rfl ⟨Nat.le_of_ble_eq_true rfl, Nat.le_of_ble_eq_true rfl⟩ (Nat.le_of_ble_eq_true rfl) (c_X11_many hc8) ?_
  refine ev_iconst dX11_isFifth_22 (by decide) ?_
  refine ev_icmp_ne (tgt := 30) dX11_isFifth_23 rfl h (fun cb h => ?_) (fun cb h => ?_)
  · refine ev_iconst dX11_isFifth_30 (by decide) ?_
    obtain rfl := Option.some.inj h
    exact ev_zret dX11_isFifth_31 rfl (chk_pos (.inl rfl))
  refine ev_iconst dX11_isFifth_26 (by decide) ?_
  refine ev_goto (tgt := 31) dX11_isFifth_27 rfl ?_
  obtain rfl := Option.some.inj h
  exact ev_zret dX11_isFifth_31 rfl (chk_pos (.inr rfl))
set_option maxHeartbeats 4000000 in
set_option maxRecDepth 20000 in
theorem c_X11_toggles {σ : Mem} {x1 x2 : Int}  {q : Mem} (h : f_X11_toggles σ x1 x2 = some q) : Ms yX11_toggles M_X11_toggles 210 210 [(2, (173 : Int)), (0, x1), (0, x2)] rho σ (none, rho, q) := by
  refine Ms.of 0 (by decide +kernel) rfl (fun z => absurd z (by decide)) (fun _ _ _ => trivial) rfl rfl ?_
  unfold f_X11_toggles at h
  show Ev M_X11_toggles 210 210 _ 0 210 rho σ [(2, (173 : Int)), (0, x1), (0, x2)] []
  refine ev_aload_n dX11_toggles_0 rfl (by decide) ?_
  refine ev_getf (j := 0) (t := 2) (x := (174 : Int)) dX11_toggles_1 cf_X11 wf_X11_7 sp173 (by decide) (by decide) rfl (by decide) (rp173_0 _) ?_
  refine ev_bipush dX11_toggles_4 (by decide) (by decide) ?_
  refine ev_iconst dX11_toggles_6 (by decide) ?_
  refine ev_iload_n dX11_toggles_7 rfl ?_
  refine ev_imul dX11_toggles_8 ?_
  refine ev_iadd dX11_toggles_9 ?_
  refine ev_iconst dX11_toggles_10 (by decide) ?_
  refine ev_iadd dX11_toggles_11 ?_
  refine ev_dup2 dX11_toggles_12 (show (0 : Nat) ≠ 1 by decide) (show (2 : Nat) ≠ 1 by decide) ?_
  refine ev_iald dX11_toggles_13 sp174 (by decide) (by decide) h (fun h => ?_)
  show Ev _ _ _ _ 14 _ _ _ _ _
  refine ev_iconst dX11_toggles_14 (by decide) ?_
  refine ev_iload_n dX11_toggles_15 rfl ?_
  refine ev_ishl dX11_toggles_16 ?_
  refine ev_ixor dX11_toggles_17 ?_
  refine ev_iastG dX11_toggles_18 sp174 (by decide) (by decide) h (fun σ1 h => ?_)
  obtain rfl := Option.some.inj h
  exact ev_vret dX11_toggles_19 rfl rfl
set_option maxHeartbeats 4000000 in
set_option maxRecDepth 20000 in
theorem e_X11_takes_26 (σ : Mem)  {q : (Int × Mem)} (h : f_X11_takes_26 σ  = some q) : Ev M_X11_takes 210 210 (some (0, q.1), rho, q.2) 26 210 rho σ [(2, (173 : Int)), (9, 0), (9, 0), (9, 0), (9, 0)] [] := by
  unfold f_X11_takes_26 at h
  refine ev_aload_n dX11_takes_26 rfl (by decide) ?_
  refine ev_bipush dX11_takes_27 (by decide) (by decide) ?_
  obtain ⟨v9, hc10, h⟩ := bind_of h
  refine ev_invV_v (k := (173 : Int)) (av := [(0, (-52 : Int))]) (st := []) (v := (0, v9.1)) (τ := v9.2) dX11_takes_29 ml_X11_151 mv_X11_no (T := TX11) (ci := 10) rfl sp173 (by decide) (by decide) rfl ⟨Nat.le_of_ble_eq_true rfl, Nat.le_of_ble_eq_true rfl⟩ (Nat.le_of_ble_eq_true rfl) (c_X11_no hc10) ?_
  obtain rfl := Option.some.inj h
  dsimp only
  exact ev_iret dX11_takes_32 rfl rfl
set_option maxHeartbeats 4000000 in
set_option maxRecDepth 20000 in
theorem e_X11_takes_70 (σ : Mem) (x1 x2 x3 x4 : Int)  {q : (Int × Mem)} (h : f_X11_takes_70 σ x1 x2 x3 x4 = some q) : Ev M_X11_takes 210 210 (some (0, q.1), rho, q.2) 70 210 rho σ [(2, (173 : Int)), (0, x1), (0, x2), (0, x3), (0, x4)] [] := by
  unfold f_X11_takes_70 at h
  refine ev_iload dX11_takes_70 rfl ?_
  refine ev_iload_n dX11_takes_72 rfl ?_
  refine ev_icmp_eq (tgt := 82) dX11_takes_73 rfl h (fun cb h => ?_) (fun cb h => ?_)
  · refine ev_iload dX11_takes_82 rfl ?_
    obtain rfl := Option.some.inj h
    dsimp only
    exact ev_iret dX11_takes_84 rfl rfl
  refine ev_aload_n dX11_takes_76 rfl (by decide) ?_
  refine ev_iload_n dX11_takes_77 rfl ?_
  refine ev_iload_n dX11_takes_78 rfl ?_
  obtain ⟨σ15, hc16, h⟩ := bind_of h
  refine ev_invV_n (k := (173 : Int)) (av := [(0, x1), (0, x2)]) (st := []) (τ := σ15) dX11_takes_79 ml_X11_197 mv_X11_toggles (T := TX11) (ci := 10) rfl sp173 (by decide) (by decide) rfl ⟨Nat.le_of_ble_eq_true rfl, Nat.le_of_ble_eq_true rfl⟩ (Nat.le_of_ble_eq_true rfl) (c_X11_toggles hc16) ?_
  refine ev_iload dX11_takes_82 rfl ?_
  obtain rfl := Option.some.inj h
  dsimp only
  exact ev_iret dX11_takes_84 rfl rfl
set_option maxHeartbeats 4000000 in
set_option maxRecDepth 20000 in
theorem e_X11_takes_47 (σ : Mem) (x1 x2 x3 s0 : Int)  {q : (Int × Mem)} (h : f_X11_takes_47 σ x1 x2 x3 s0 = some q) : Ev M_X11_takes 210 210 (some (0, q.1), rho, q.2) 47 210 rho σ [(2, (173 : Int)), (0, x1), (0, x2), (0, x3), (9, 0)] [(0, s0)] := by
  unfold f_X11_takes_47 at h
  refine ev_istore dX11_takes_47 rfl (by decide) ?_
  show Ev _ _ _ _ 49 _ _ _ [(2, (173 : Int)), (0, x1), (0, x2), (0, x3), (0, s0)] _
  refine ev_iload_n dX11_takes_49 rfl ?_
  refine ev_iconst dX11_takes_50 (by decide) ?_
  refine ev_icmp_ne (tgt := 70) dX11_takes_51 rfl h (fun cb h => ?_) (fun cb h => ?_)
  · exact ev_sub (L2 := [(2, (173 : Int)), (0, x1), (0, x2), (0, x3), (0, s0)]) (e_X11_takes_70 σ x1 x2 x3 s0 h) ⟨.inr rfl, .inr rfl, .inr rfl, .inr rfl, .inr rfl, trivial⟩
  refine ev_aload_n dX11_takes_54 rfl (by decide) ?_
  refine ev_iload_n dX11_takes_55 rfl ?_
  refine ev_iload_n dX11_takes_56 rfl ?_
  obtain ⟨v11, hc12, h⟩ := bind_of h
  refine ev_invV_v (k := (173 : Int)) (av := [(0, x1), (0, x2)]) (st := []) (v := (0, v11)) (τ := σ) dX11_takes_57 ml_X11_194 mv_X11_isFifth (T := TX11) (ci := 10) rfl sp173 (by decide) (by decide) rfl ⟨Nat.le_of_ble_eq_true rfl, Nat.le_of_ble_eq_true rfl⟩ (Nat.le_of_ble_eq_true rfl) (c_X11_isFifth hc12) ?_
  refine ev_if_eq (tgt := 70) dX11_takes_60 rfl h (fun cb h => ?_) (fun cb h => ?_)
  · exact ev_sub (L2 := [(2, (173 : Int)), (0, x1), (0, x2), (0, x3), (0, s0)]) (e_X11_takes_70 σ x1 x2 x3 s0 h) ⟨.inr rfl, .inr rfl, .inr rfl, .inr rfl, .inr rfl, trivial⟩
  refine ev_aload_n dX11_takes_63 rfl (by decide) ?_
  refine ev_bipush dX11_takes_64 (by decide) (by decide) ?_
  obtain ⟨v13, hc14, h⟩ := bind_of h
  refine ev_invV_v (k := (173 : Int)) (av := [(0, (-55 : Int))]) (st := []) (v := (0, v13.1)) (τ := v13.2) dX11_takes_66 ml_X11_151 mv_X11_no (T := TX11) (ci := 10) rfl sp173 (by decide) (by decide) rfl ⟨Nat.le_of_ble_eq_true rfl, Nat.le_of_ble_eq_true rfl⟩ (Nat.le_of_ble_eq_true rfl) (c_X11_no hc14) ?_
  obtain rfl := Option.some.inj h
  dsimp only
  exact ev_iret dX11_takes_69 rfl rfl
set_option maxHeartbeats 4000000 in
set_option maxRecDepth 20000 in
theorem c_X11_takes {σ : Mem} {x1 x2 x3 : Int}  {q : (Int × Mem)} (h : f_X11_takes σ x1 x2 x3 = some q) : Ms yX11_takes M_X11_takes 210 210 [(2, (173 : Int)), (0, x1), (0, x2), (0, x3)] rho σ (some (0, q.1), rho, q.2) := by
  refine Ms.of 1 (by decide +kernel) rfl (fun z => absurd z (by decide)) (fun _ _ _ => trivial) rfl rfl ?_
  unfold f_X11_takes at h
  show Ev M_X11_takes 210 210 _ 0 210 rho σ [(2, (173 : Int)), (0, x1), (0, x2), (0, x3), (9, 0)] []
  refine ev_aload_n dX11_takes_0 rfl (by decide) ?_
  refine ev_iload_n dX11_takes_1 rfl ?_
  obtain ⟨v1, hc2, h⟩ := bind_of h
  refine ev_invV_v (k := (173 : Int)) (av := [(0, x1)]) (st := []) (v := (0, v1)) (τ := σ) dX11_takes_2 ml_X11_157 mv_X11_isCand (T := TX11) (ci := 10) rfl sp173 (by decide) (by decide) rfl ⟨Nat.le_of_ble_eq_true rfl, Nat.le_of_ble_eq_true rfl⟩ (Nat.le_of_ble_eq_true rfl) (c_X11_isCand hc2) ?_
  refine ev_if_eq (tgt := 26) dX11_takes_5 rfl h (fun cb h => ?_) (fun cb h => ?_)
  · exact ev_sub (L2 := [(2, (173 : Int)), (9, 0), (9, 0), (9, 0), (9, 0)]) (e_X11_takes_26 σ h) ⟨.inr rfl, .inl rfl, .inl rfl, .inl rfl, .inl rfl, trivial⟩
  refine ev_aload_n dX11_takes_8 rfl (by decide) ?_
  refine ev_iload_n dX11_takes_9 rfl ?_
  obtain ⟨v3, hc4, h⟩ := bind_of h
  refine ev_invV_v (k := (173 : Int)) (av := [(0, x2)]) (st := []) (v := (0, v3)) (τ := σ) dX11_takes_10 ml_X11_174 mv_X11_isPaper (T := TX11) (ci := 10) rfl sp173 (by decide) (by decide) rfl ⟨Nat.le_of_ble_eq_true rfl, Nat.le_of_ble_eq_true rfl⟩ (Nat.le_of_ble_eq_true rfl) (c_X11_isPaper hc4) ?_
  refine ev_if_eq (tgt := 26) dX11_takes_13 rfl h (fun cb h => ?_) (fun cb h => ?_)
  · exact ev_sub (L2 := [(2, (173 : Int)), (9, 0), (9, 0), (9, 0), (9, 0)]) (e_X11_takes_26 σ h) ⟨.inr rfl, .inl rfl, .inl rfl, .inl rfl, .inl rfl, trivial⟩
  refine ev_iload_n dX11_takes_16 rfl ?_
  refine ev_i2lk dX11_takes_17 ?_
  refine ev_lconst (x := (0 : Int)) dX11_takes_18 (by decide) (by decide) ?_
  refine ev_lconst (x := (1 : Int)) dX11_takes_19 (by decide) (by decide) ?_
  obtain ⟨v5, hc6, h⟩ := bind_of h
  refine ev_invS_v (av := [(1, x3), (1, (0 : Int)), (1, (1 : Int))]) (st := []) (v := (0, v5)) (τ := σ) dX11_takes_20 ml_X11_120 mt_X11_isIn rfl ⟨Nat.le_of_ble_eq_true rfl, Nat.le_of_ble_eq_true rfl⟩ (Nat.le_of_ble_eq_true rfl) (c_X11_isIn hc6) ?_
  refine ev_if_ne (tgt := 33) dX11_takes_23 rfl h (fun cb h => ?_) (fun cb h => ?_)
  · refine ev_aload_n dX11_takes_33 rfl (by decide) ?_
    refine ev_iload_n dX11_takes_34 rfl ?_
    refine ev_iload_n dX11_takes_35 rfl ?_
    obtain ⟨v7, hc8, h⟩ := bind_of h
    refine ev_invV_v (k := (173 : Int)) (av := [(0, x1), (0, x2)]) (st := []) (v := (0, v7)) (τ := σ) dX11_takes_36 ml_X11_182 mv_X11_has (T := TX11) (ci := 10) rfl sp173 (by decide) (by decide) rfl ⟨Nat.le_of_ble_eq_true rfl, Nat.le_of_ble_eq_true rfl⟩ (Nat.le_of_ble_eq_true rfl) (c_X11_has hc8) ?_
    refine ev_if_eq (tgt := 46) dX11_takes_39 rfl h (fun cb h => ?_) (fun cb h => ?_)
    · refine ev_iconst dX11_takes_46 (by decide) ?_
      exact ev_sub (L2 := [(2, (173 : Int)), (0, x1), (0, x2), (0, x3), (9, 0)]) (e_X11_takes_47 σ x1 x2 x3 (0 : Int) h) ⟨.inr rfl, .inr rfl, .inr rfl, .inr rfl, .inl rfl, trivial⟩
    refine ev_iconst dX11_takes_42 (by decide) ?_
    refine ev_goto (tgt := 47) dX11_takes_43 rfl ?_
    exact ev_sub (L2 := [(2, (173 : Int)), (0, x1), (0, x2), (0, x3), (9, 0)]) (e_X11_takes_47 σ x1 x2 x3 (1 : Int) h) ⟨.inr rfl, .inr rfl, .inr rfl, .inr rfl, .inl rfl, trivial⟩
  exact ev_sub (L2 := [(2, (173 : Int)), (9, 0), (9, 0), (9, 0), (9, 0)]) (e_X11_takes_26 σ h) ⟨.inr rfl, .inl rfl, .inl rfl, .inl rfl, .inl rfl, trivial⟩
set_option maxHeartbeats 4000000 in
set_option maxRecDepth 20000 in
theorem e_X11_night_34 (σ : Mem)  {q : (Int × Mem)} (h : f_X11_night_34 σ  = some q) : Ev M_X11_night 210 210 (some (0, q.1), rho, q.2) 34 210 rho σ [(2, (173 : Int)), (9, 0), (9, 0)] [] := by
  unfold f_X11_night_34 at h
  refine ev_aload_n dX11_night_34 rfl (by decide) ?_
  refine ev_bipush dX11_night_35 (by decide) (by decide) ?_
  obtain ⟨v7, hc8, h⟩ := bind_of h
  refine ev_invV_v (k := (173 : Int)) (av := [(0, (-52 : Int))]) (st := []) (v := (0, v7.1)) (τ := v7.2) dX11_night_37 ml_X11_151 mv_X11_no (T := TX11) (ci := 10) rfl sp173 (by decide) (by decide) rfl ⟨Nat.le_of_ble_eq_true rfl, Nat.le_of_ble_eq_true rfl⟩ (Nat.le_of_ble_eq_true rfl) (c_X11_no hc8) ?_
  obtain rfl := Option.some.inj h
  dsimp only
  exact ev_iret dX11_night_40 rfl rfl
set_option maxHeartbeats 4000000 in
set_option maxRecDepth 20000 in
theorem c_X11_night {σ : Mem} {x1 x2 : Int}  {q : (Int × Mem)} (h : f_X11_night σ x1 x2 = some q) : Ms yX11_night M_X11_night 210 210 [(2, (173 : Int)), (0, x1), (0, x2)] rho σ (some (0, q.1), rho, q.2) := by
  refine Ms.of 0 (by decide +kernel) rfl (fun z => absurd z (by decide)) (fun _ _ _ => trivial) rfl rfl ?_
  unfold f_X11_night at h
  show Ev M_X11_night 210 210 _ 0 210 rho σ [(2, (173 : Int)), (0, x1), (0, x2)] []
  refine ev_aload_n dX11_night_0 rfl (by decide) ?_
  refine ev_iload_n dX11_night_1 rfl ?_
  obtain ⟨v1, hc2, h⟩ := bind_of h
  refine ev_invV_v (k := (173 : Int)) (av := [(0, x1)]) (st := []) (v := (0, v1)) (τ := σ) dX11_night_2 ml_X11_157 mv_X11_isCand (T := TX11) (ci := 10) rfl sp173 (by decide) (by decide) rfl ⟨Nat.le_of_ble_eq_true rfl, Nat.le_of_ble_eq_true rfl⟩ (Nat.le_of_ble_eq_true rfl) (c_X11_isCand hc2) ?_
  refine ev_if_eq (tgt := 34) dX11_night_5 rfl h (fun cb h => ?_) (fun cb h => ?_)
  · exact ev_sub (L2 := [(2, (173 : Int)), (9, 0), (9, 0)]) (e_X11_night_34 σ h) ⟨.inr rfl, .inl rfl, .inl rfl, trivial⟩
  refine ev_iload_n dX11_night_8 rfl ?_
  refine ev_i2lk dX11_night_9 ?_
  refine ev_lconst (x := (0 : Int)) dX11_night_10 (by decide) (by decide) ?_
  refine ev_lconst (x := (1 : Int)) dX11_night_11 (by decide) (by decide) ?_
  obtain ⟨v3, hc4, h⟩ := bind_of h
  refine ev_invS_v (av := [(1, x2), (1, (0 : Int)), (1, (1 : Int))]) (st := []) (v := (0, v3)) (τ := σ) dX11_night_12 ml_X11_120 mt_X11_isIn rfl ⟨Nat.le_of_ble_eq_true rfl, Nat.le_of_ble_eq_true rfl⟩ (Nat.le_of_ble_eq_true rfl) (c_X11_isIn hc4) ?_
  refine ev_if_eq (tgt := 34) dX11_night_15 rfl h (fun cb h => ?_) (fun cb h => ?_)
  · exact ev_sub (L2 := [(2, (173 : Int)), (9, 0), (9, 0)]) (e_X11_night_34 σ h) ⟨.inr rfl, .inl rfl, .inl rfl, trivial⟩
  refine ev_aload_n dX11_night_18 rfl (by decide) ?_
  refine ev_bipush dX11_night_19 (by decide) (by decide) ?_
  refine ev_iconst dX11_night_21 (by decide) ?_
  refine ev_iload_n dX11_night_22 rfl ?_
  refine ev_imul dX11_night_23 ?_
  refine ev_iadd dX11_night_24 ?_
  refine ev_iconst dX11_night_25 (by decide) ?_
  refine ev_iadd dX11_night_26 ?_
  refine ev_iload_n dX11_night_27 rfl ?_
  obtain ⟨v5, hc6, h⟩ := bind_of h
  refine ev_invV_v (k := (173 : Int)) (av := [(0, (jadd (jadd (36 : Int) (jmul (4 : Int) x1)) (2 : Int))), (0, x2)]) (st := []) (v := (0, v5.1)) (τ := v5.2) dX11_night_28 ml_X11_177 mv_X11_becomes (T := TX11) (ci := 10) rfl sp173 (by decide) (by decide) rfl ⟨Nat.le_of_ble_eq_true rfl, Nat.le_of_ble_eq_true rfl⟩ (Nat.le_of_ble_eq_true rfl) (c_X11_becomes hc6) ?_
  refine ev_goto (tgt := 40) dX11_night_31 rfl ?_
  show Ev _ _ _ _ 40 _ _ _ _ _
  obtain rfl := Option.some.inj h
  dsimp only
  exact ev_iret dX11_night_40 rfl rfl
set_option maxHeartbeats 4000000 in
set_option maxRecDepth 20000 in
theorem c_X11_room {σ : Mem} {x1 : Int}  {q : (Int × Mem)} (h : f_X11_room σ x1 = some q) : Ms yX11_room M_X11_room 210 210 [(2, (173 : Int)), (0, x1)] rho σ (some (0, q.1), rho, q.2) := by
  refine Ms.of 0 (by decide +kernel) rfl (fun z => absurd z (by decide)) (fun _ _ _ => trivial) rfl rfl ?_
  unfold f_X11_room at h
  show Ev M_X11_room 210 210 _ 0 210 rho σ [(2, (173 : Int)), (0, x1)] []
  refine ev_iload_n dX11_room_0 rfl ?_
  refine ev_i2lk dX11_room_1 ?_
  refine ev_lconst (x := (1 : Int)) dX11_room_2 (by decide) (by decide) ?_
  refine ev_ldc2 (x := (9 : Int)) dX11_room_3 wc_X11_180 (by decide) (by decide) ?_
  obtain ⟨v1, hc2, h⟩ := bind_of h
  refine ev_invS_v (av := [(1, x1), (1, (1 : Int)), (1, (9 : Int))]) (st := []) (v := (0, v1)) (τ := σ) dX11_room_6 ml_X11_120 mt_X11_isIn rfl ⟨Nat.le_of_ble_eq_true rfl, Nat.le_of_ble_eq_true rfl⟩ (Nat.le_of_ble_eq_true rfl) (c_X11_isIn hc2) ?_
  refine ev_if_ne (tgt := 19) dX11_room_9 rfl h (fun cb h => ?_) (fun cb h => ?_)
  · refine ev_aload_n dX11_room_19 rfl (by decide) ?_
    refine ev_getf (j := 0) (t := 2) (x := (174 : Int)) dX11_room_20 cf_X11 wf_X11_7 sp173 (by decide) (by decide) rfl (by decide) (rp173_0 _) ?_
    refine ev_bipush dX11_room_23 (by decide) (by decide) ?_
    refine ev_iald dX11_room_25 sp174 (by decide) (by decide) h (fun h => ?_)
    refine ev_bipush dX11_room_26 (by decide) (by decide) ?_
    refine ev_icmp_ne (tgt := 38) dX11_room_28 rfl h (fun cb h => ?_) (fun cb h => ?_)
    · refine ev_aload_n dX11_room_38 rfl (by decide) ?_
      refine ev_getf (j := 0) (t := 2) (x := (174 : Int)) dX11_room_39 cf_X11 wf_X11_7 sp173 (by decide) (by decide) rfl (by decide) (rp173_0 _) ?_
      refine ev_bipush dX11_room_42 (by decide) (by decide) ?_
      refine ev_aload_n dX11_room_44 rfl (by decide) ?_
      refine ev_getf (j := 0) (t := 2) (x := (174 : Int)) dX11_room_45 cf_X11 wf_X11_7 sp173 (by decide) (by decide) rfl (by decide) (rp173_0 _) ?_
      refine ev_bipush dX11_room_48 (by decide) (by decide) ?_
      refine ev_iald dX11_room_50 sp174 (by decide) (by decide) h (fun h => ?_)
      refine ev_iadd dX11_room_51 ?_
      refine ev_iload_n dX11_room_52 rfl ?_
      refine ev_iastG dX11_room_53 sp174 (by decide) (by decide) h (fun σ3 h => ?_)
      refine ev_aload_n dX11_room_54 rfl (by decide) ?_
      show Ev _ _ _ _ 55 _ _ _ _ _
      refine ev_getf (j := 0) (t := 2) (x := (174 : Int)) dX11_room_55 cf_X11 wf_X11_7 sp173 (by decide) (by decide) rfl (by decide) (rp173_0 _) ?_
      refine ev_bipush dX11_room_58 (by decide) (by decide) ?_
      refine ev_dup2 dX11_room_60 (show (0 : Nat) ≠ 1 by decide) (show (2 : Nat) ≠ 1 by decide) ?_
      refine ev_iald dX11_room_61 sp174 (by decide) (by decide) h (fun h => ?_)
      refine ev_iconst dX11_room_62 (by decide) ?_
      refine ev_iadd dX11_room_63 ?_
      refine ev_iastG dX11_room_64 sp174 (by decide) (by decide) h (fun σ4 h => ?_)
      refine ev_aload_n dX11_room_65 rfl (by decide) ?_
      refine ev_getf (j := 0) (t := 2) (x := (174 : Int)) dX11_room_66 cf_X11 wf_X11_7 sp173 (by decide) (by decide) rfl (by decide) (rp173_0 _) ?_
      refine ev_bipush dX11_room_69 (by decide) (by decide) ?_
      refine ev_iald dX11_room_71 sp174 (by decide) (by decide) h (fun h => ?_)
      refine ev_iconst dX11_room_72 (by decide) ?_
      show Ev _ _ _ _ 73 _ _ _ _ _
      refine ev_isub dX11_room_73 ?_
      obtain rfl := Option.some.inj h
      dsimp only
      exact ev_iret dX11_room_74 rfl rfl
    refine ev_aload_n dX11_room_31 rfl (by decide) ?_
    refine ev_bipush dX11_room_32 (by decide) (by decide) ?_
    obtain ⟨v5, hc6, h⟩ := bind_of h
    refine ev_invV_v (k := (173 : Int)) (av := [(0, (-56 : Int))]) (st := []) (v := (0, v5.1)) (τ := v5.2) dX11_room_34 ml_X11_151 mv_X11_no (T := TX11) (ci := 10) rfl sp173 (by decide) (by decide) rfl ⟨Nat.le_of_ble_eq_true rfl, Nat.le_of_ble_eq_true rfl⟩ (Nat.le_of_ble_eq_true rfl) (c_X11_no hc6) ?_
    obtain rfl := Option.some.inj h
    dsimp only
    exact ev_iret dX11_room_37 rfl rfl
  refine ev_aload_n dX11_room_12 rfl (by decide) ?_
  refine ev_bipush dX11_room_13 (by decide) (by decide) ?_
  obtain ⟨v7, hc8, h⟩ := bind_of h
  refine ev_invV_v (k := (173 : Int)) (av := [(0, (-52 : Int))]) (st := []) (v := (0, v7.1)) (τ := v7.2) dX11_room_15 ml_X11_151 mv_X11_no (T := TX11) (ci := 10) rfl sp173 (by decide) (by decide) rfl ⟨Nat.le_of_ble_eq_true rfl, Nat.le_of_ble_eq_true rfl⟩ (Nat.le_of_ble_eq_true rfl) (c_X11_no hc8) ?_
  obtain rfl := Option.some.inj h
  dsimp only
  exact ev_iret dX11_room_18 rfl rfl
set_option maxHeartbeats 4000000 in
set_option maxRecDepth 20000 in
theorem c_X11_hours {σ : Mem} {x1 : Int}  {q : (Int × Mem)} (h : f_X11_hours σ x1 = some q) : Ms yX11_hours M_X11_hours 210 210 [(2, (173 : Int)), (0, x1)] rho σ (some (0, q.1), rho, q.2) := by
  refine Ms.of 0 (by decide +kernel) rfl (fun z => absurd z (by decide)) (fun _ _ _ => trivial) rfl rfl ?_
  unfold f_X11_hours at h
  show Ev M_X11_hours 210 210 _ 0 210 rho σ [(2, (173 : Int)), (0, x1)] []
  refine ev_iload_n dX11_hours_0 rfl ?_
  refine ev_i2lk dX11_hours_1 ?_
  refine ev_ldc2 (x := (8 : Int)) dX11_hours_2 wc_X11_201 (by decide) (by decide) ?_
  refine ev_ldc2 (x := (40 : Int)) dX11_hours_5 wc_X11_149 (by decide) (by decide) ?_
  obtain ⟨v1, hc2, h⟩ := bind_of h
  refine ev_invS_v (av := [(1, x1), (1, (8 : Int)), (1, (40 : Int))]) (st := []) (v := (0, v1)) (τ := σ) dX11_hours_8 ml_X11_120 mt_X11_isIn rfl ⟨Nat.le_of_ble_eq_true rfl, Nat.le_of_ble_eq_true rfl⟩ (Nat.le_of_ble_eq_true rfl) (c_X11_isIn hc2) ?_
  refine ev_if_eq (tgt := 24) dX11_hours_11 rfl h (fun cb h => ?_) (fun cb h => ?_)
  · refine ev_aload_n dX11_hours_24 rfl (by decide) ?_
    refine ev_bipush dX11_hours_25 (by decide) (by decide) ?_
    obtain ⟨v3, hc4, h⟩ := bind_of h
    refine ev_invV_v (k := (173 : Int)) (av := [(0, (-52 : Int))]) (st := []) (v := (0, v3.1)) (τ := v3.2) dX11_hours_27 ml_X11_151 mv_X11_no (T := TX11) (ci := 10) rfl sp173 (by decide) (by decide) rfl ⟨Nat.le_of_ble_eq_true rfl, Nat.le_of_ble_eq_true rfl⟩ (Nat.le_of_ble_eq_true rfl) (c_X11_no hc4) ?_
    obtain rfl := Option.some.inj h
    dsimp only
    exact ev_iret dX11_hours_30 rfl rfl
  refine ev_aload_n dX11_hours_14 rfl (by decide) ?_
  refine ev_bipush dX11_hours_15 (by decide) (by decide) ?_
  refine ev_iload_n dX11_hours_17 rfl ?_
  obtain ⟨v5, hc6, h⟩ := bind_of h
  refine ev_invV_v (k := (173 : Int)) (av := [(0, (85 : Int)), (0, x1)]) (st := []) (v := (0, v5.1)) (τ := v5.2) dX11_hours_18 ml_X11_177 mv_X11_becomes (T := TX11) (ci := 10) rfl sp173 (by decide) (by decide) rfl ⟨Nat.le_of_ble_eq_true rfl, Nat.le_of_ble_eq_true rfl⟩ (Nat.le_of_ble_eq_true rfl) (c_X11_becomes hc6) ?_
  refine ev_goto (tgt := 30) dX11_hours_21 rfl ?_
  obtain rfl := Option.some.inj h
  dsimp only
  exact ev_iret dX11_hours_30 rfl rfl
set_option maxHeartbeats 4000000 in
set_option maxRecDepth 20000 in
theorem c_X11_turn {σ : Mem} {x1 : Int}  {q : (Int × Mem)} (h : f_X11_turn σ x1 = some q) : Ms yX11_turn M_X11_turn 210 210 [(2, (173 : Int)), (0, x1)] rho σ (some (0, q.1), rho, q.2) := by
  refine Ms.of 0 (by decide +kernel) rfl (fun z => absurd z (by decide)) (fun _ _ _ => trivial) rfl rfl ?_
  unfold f_X11_turn at h
  show Ev M_X11_turn 210 210 _ 0 210 rho σ [(2, (173 : Int)), (0, x1)] []
  refine ev_iload_n dX11_turn_0 rfl ?_
  refine ev_i2lk dX11_turn_1 ?_
  refine ev_lconst (x := (0 : Int)) dX11_turn_2 (by decide) (by decide) ?_
  refine ev_ldc2 (x := (8 : Int)) dX11_turn_3 wc_X11_201 (by decide) (by decide) ?_
  obtain ⟨v1, hc2, h⟩ := bind_of h
  refine ev_invS_v (av := [(1, x1), (1, (0 : Int)), (1, (8 : Int))]) (st := []) (v := (0, v1)) (τ := σ) dX11_turn_6 ml_X11_120 mt_X11_isIn rfl ⟨Nat.le_of_ble_eq_true rfl, Nat.le_of_ble_eq_true rfl⟩ (Nat.le_of_ble_eq_true rfl) (c_X11_isIn hc2) ?_
  refine ev_if_eq (tgt := 22) dX11_turn_9 rfl h (fun cb h => ?_) (fun cb h => ?_)
  · refine ev_aload_n dX11_turn_22 rfl (by decide) ?_
    refine ev_bipush dX11_turn_23 (by decide) (by decide) ?_
    obtain ⟨v3, hc4, h⟩ := bind_of h
    refine ev_invV_v (k := (173 : Int)) (av := [(0, (-52 : Int))]) (st := []) (v := (0, v3.1)) (τ := v3.2) dX11_turn_25 ml_X11_151 mv_X11_no (T := TX11) (ci := 10) rfl sp173 (by decide) (by decide) rfl ⟨Nat.le_of_ble_eq_true rfl, Nat.le_of_ble_eq_true rfl⟩ (Nat.le_of_ble_eq_true rfl) (c_X11_no hc4) ?_
    obtain rfl := Option.some.inj h
    dsimp only
    exact ev_iret dX11_turn_28 rfl rfl
  refine ev_aload_n dX11_turn_12 rfl (by decide) ?_
  refine ev_bipush dX11_turn_13 (by decide) (by decide) ?_
  refine ev_iload_n dX11_turn_15 rfl ?_
  obtain ⟨v5, hc6, h⟩ := bind_of h
  refine ev_invV_v (k := (173 : Int)) (av := [(0, (86 : Int)), (0, x1)]) (st := []) (v := (0, v5.1)) (τ := v5.2) dX11_turn_16 ml_X11_177 mv_X11_becomes (T := TX11) (ci := 10) rfl sp173 (by decide) (by decide) rfl ⟨Nat.le_of_ble_eq_true rfl, Nat.le_of_ble_eq_true rfl⟩ (Nat.le_of_ble_eq_true rfl) (c_X11_becomes hc6) ?_
  refine ev_goto (tgt := 28) dX11_turn_19 rfl ?_
  obtain rfl := Option.some.inj h
  dsimp only
  exact ev_iret dX11_turn_28 rfl rfl
set_option maxHeartbeats 4000000 in
set_option maxRecDepth 20000 in
theorem c_X11_feed {σ : Mem} {x1 : Int}  {q : (Int × Mem)} (h : f_X11_feed σ x1 = some q) : Ms yX11_feed M_X11_feed 210 210 [(2, (173 : Int)), (0, x1)] rho σ (some (0, q.1), rho, q.2) := by
  refine Ms.of 0 (by decide +kernel) rfl (fun z => absurd z (by decide)) (fun _ _ _ => trivial) rfl rfl ?_
  unfold f_X11_feed at h
  show Ev M_X11_feed 210 210 _ 0 210 rho σ [(2, (173 : Int)), (0, x1)] []
  refine ev_iload_n dX11_feed_0 rfl ?_
  refine ev_i2lk dX11_feed_1 ?_
  refine ev_lconst (x := (0 : Int)) dX11_feed_2 (by decide) (by decide) ?_
  refine ev_ldc2 (x := (255 : Int)) dX11_feed_3 wc_X11_203 (by decide) (by decide) ?_
  obtain ⟨v1, hc2, h⟩ := bind_of h
  refine ev_invS_v (av := [(1, x1), (1, (0 : Int)), (1, (255 : Int))]) (st := []) (v := (0, v1)) (τ := σ) dX11_feed_6 ml_X11_120 mt_X11_isIn rfl ⟨Nat.le_of_ble_eq_true rfl, Nat.le_of_ble_eq_true rfl⟩ (Nat.le_of_ble_eq_true rfl) (c_X11_isIn hc2) ?_
  refine ev_if_ne (tgt := 19) dX11_feed_9 rfl h (fun cb h => ?_) (fun cb h => ?_)
  · refine ev_aload_n dX11_feed_19 rfl (by decide) ?_
    refine ev_getf (j := 9) (t := 0) (x := (σ (173 : Int) 9)) dX11_feed_20 cf_X11 wf_X11_205 sp173 (by decide) (by decide) rfl (by decide) rfl ?_
    refine ev_sipush dX11_feed_23 (by decide) (by decide) ?_
    refine ev_icmp_ne (tgt := 36) dX11_feed_26 rfl h (fun cb h => ?_) (fun cb h => ?_)
    · refine ev_aload_n dX11_feed_36 rfl (by decide) ?_
      refine ev_getf (j := 8) (t := 2) (x := (181 : Int)) dX11_feed_37 cf_X11 wf_X11_32 sp173 (by decide) (by decide) rfl (by decide) (rp173_8 _) ?_
      refine ev_aload_n dX11_feed_40 rfl (by decide) ?_
      refine ev_getf (j := 9) (t := 0) (x := (σ (173 : Int) 9)) dX11_feed_41 cf_X11 wf_X11_205 sp173 (by decide) (by decide) rfl (by decide) rfl ?_
      refine ev_iload_n dX11_feed_44 rfl ?_
      refine ev_iastG dX11_feed_45 sp181 (by decide) (by decide) h (fun σ3 h => ?_)
      refine ev_aload_n dX11_feed_46 rfl (by decide) ?_
      refine ev_dup dX11_feed_47 (show (2 : Nat) ≠ 1 by decide) ?_
      refine ev_getf (j := 9) (t := 0) (x := (σ3 (173 : Int) 9)) dX11_feed_48 cf_X11 wf_X11_205 sp173 (by decide) (by decide) rfl (by decide) rfl ?_
      refine ev_iconst dX11_feed_51 (by decide) ?_
      refine ev_iadd dX11_feed_52 ?_
      show Ev _ _ _ _ 53 _ _ _ _ _
      refine ev_putfG (j := 9) (t := 0) dX11_feed_53 cf_X11 wf_X11_205 sp173 (by decide) (by decide) rfl (by decide) (by decide) rfl (fun z => absurd z (by decide +kernel)) h (fun σ4 h => ?_)
      refine ev_aload_n dX11_feed_56 rfl (by decide) ?_
      refine ev_getf (j := 9) (t := 0) (x := (σ4 (173 : Int) 9)) dX11_feed_57 cf_X11 wf_X11_205 sp173 (by decide) (by decide) rfl (by decide) rfl ?_
      obtain rfl := Option.some.inj h
      dsimp only
      exact ev_iret dX11_feed_60 rfl rfl
    refine ev_aload_n dX11_feed_29 rfl (by decide) ?_
    refine ev_bipush dX11_feed_30 (by decide) (by decide) ?_
    obtain ⟨v5, hc6, h⟩ := bind_of h
    refine ev_invV_v (k := (173 : Int)) (av := [(0, (-56 : Int))]) (st := []) (v := (0, v5.1)) (τ := v5.2) dX11_feed_32 ml_X11_151 mv_X11_no (T := TX11) (ci := 10) rfl sp173 (by decide) (by decide) rfl ⟨Nat.le_of_ble_eq_true rfl, Nat.le_of_ble_eq_true rfl⟩ (Nat.le_of_ble_eq_true rfl) (c_X11_no hc6) ?_
    obtain rfl := Option.some.inj h
    dsimp only
    exact ev_iret dX11_feed_35 rfl rfl
  refine ev_aload_n dX11_feed_12 rfl (by decide) ?_
  refine ev_bipush dX11_feed_13 (by decide) (by decide) ?_
  obtain ⟨v7, hc8, h⟩ := bind_of h
  refine ev_invV_v (k := (173 : Int)) (av := [(0, (-52 : Int))]) (st := []) (v := (0, v7.1)) (τ := v7.2) dX11_feed_15 ml_X11_151 mv_X11_no (T := TX11) (ci := 10) rfl sp173 (by decide) (by decide) rfl ⟨Nat.le_of_ble_eq_true rfl, Nat.le_of_ble_eq_true rfl⟩ (Nat.le_of_ble_eq_true rfl) (c_X11_no hc8) ?_
  obtain rfl := Option.some.inj h
  dsimp only
  exact ev_iret dX11_feed_18 rfl rfl
set_option maxHeartbeats 4000000 in
set_option maxRecDepth 20000 in
theorem c_X11_wipe {σ : Mem}  {q : (Int × Mem)} (h : f_X11_wipe σ  = some q) : Ms yX11_wipe M_X11_wipe 210 210 [(2, (173 : Int))] rho σ (some (0, q.1), rho, q.2) := by
  refine Ms.of 1 (by decide +kernel) rfl (fun z => absurd z (by decide)) (fun _ _ _ => trivial) rfl rfl ?_
  unfold f_X11_wipe at h
  show Ev M_X11_wipe 210 210 _ 0 210 rho σ [(2, (173 : Int)), (9, 0)] []
  refine ev_aload_n dX11_wipe_0 rfl (by decide) ?_
  refine ev_getf (j := 9) (t := 0) (x := (σ (173 : Int) 9)) dX11_wipe_1 cf_X11 wf_X11_205 sp173 (by decide) (by decide) rfl (by decide) rfl ?_
  refine ev_istore_nG dX11_wipe_4 h rfl (by decide) (fun v1 h => ?_)
  show Ev _ _ _ _ 5 _ _ _ [(2, (173 : Int)), (0, v1)] _
  refine ev_aload_n dX11_wipe_5 rfl (by decide) ?_
  refine ev_iconst dX11_wipe_6 (by decide) ?_
  refine ev_putfG (j := 9) (t := 0) dX11_wipe_7 cf_X11 wf_X11_205 sp173 (by decide) (by decide) rfl (by decide) (by decide) rfl (fun z => absurd z (by decide +kernel)) h (fun σ2 h => ?_)
  refine ev_iload_n dX11_wipe_10 rfl ?_
  obtain rfl := Option.some.inj h
  dsimp only
  exact ev_iret dX11_wipe_11 rfl rfl
set_option maxHeartbeats 4000000 in
set_option maxRecDepth 20000 in
theorem c_X11_isLetter {σ : Mem} {x1 : Int}  {q : Int} (h : f_X11_isLetter σ x1 = some q) : Ms yX11_isLetter M_X11_isLetter 210 210 [(2, (173 : Int)), (0, x1)] rho σ (some (0, q), rho, σ) := by
  refine Ms.of 0 (by decide +kernel) rfl (fun z => absurd z (by decide)) (fun _ _ _ => trivial) rfl rfl ?_
  unfold f_X11_isLetter at h
  show Ev M_X11_isLetter 210 210 _ 0 210 rho σ [(2, (173 : Int)), (0, x1)] []
  refine ev_iload_n dX11_isLetter_0 rfl ?_
  refine ev_aload_n dX11_isLetter_1 rfl (by decide) ?_
  refine ev_getf (j := 9) (t := 0) (x := (σ (173 : Int) 9)) dX11_isLetter_2 cf_X11 wf_X11_205 sp173 (by decide) (by decide) rfl (by decide) rfl ?_
  refine ev_icmp_ge (tgt := 34) dX11_isLetter_5 rfl h (fun cb h => ?_) (fun cb h => ?_)
  · refine ev_iconst dX11_isLetter_34 (by decide) ?_
    obtain rfl := Option.some.inj h
    exact ev_zret dX11_isLetter_35 rfl (chk_pos (.inl rfl))
  refine ev_aload_n dX11_isLetter_8 rfl (by decide) ?_
  refine ev_getf (j := 8) (t := 2) (x := (181 : Int)) dX11_isLetter_9 cf_X11 wf_X11_32 sp173 (by decide) (by decide) rfl (by decide) (rp173_8 _) ?_
  refine ev_iload_n dX11_isLetter_12 rfl ?_
  refine ev_iald dX11_isLetter_13 sp181 (by decide) (by decide) h (fun h => ?_)
  refine ev_bipush dX11_isLetter_14 (by decide) (by decide) ?_
  refine ev_icmp_lt (tgt := 34) dX11_isLetter_16 rfl h (fun cb h => ?_) (fun cb h => ?_)
  · refine ev_iconst dX11_isLetter_34 (by decide) ?_
    obtain rfl := Option.some.inj h
    exact ev_zret dX11_isLetter_35 rfl (chk_pos (.inl rfl))
  refine ev_aload_n dX11_isLetter_19 rfl (by decide) ?_
  refine ev_getf (j := 8) (t := 2) (x := (181 : Int)) dX11_isLetter_20 cf_X11 wf_X11_32 sp173 (by decide) (by decide) rfl (by decide) (rp173_8 _) ?_
  refine ev_iload_n dX11_isLetter_23 rfl ?_
  refine ev_iald dX11_isLetter_24 sp181 (by decide) (by decide) h (fun h => ?_)
  refine ev_bipush dX11_isLetter_25 (by decide) (by decide) ?_
  refine ev_icmp_gt (tgt := 34) dX11_isLetter_27 rfl h (fun cb h => ?_) (fun cb h => ?_)
  · refine ev_iconst dX11_isLetter_34 (by decide) ?_
    obtain rfl := Option.some.inj h
    exact ev_zret dX11_isLetter_35 rfl (chk_pos (.inl rfl))
  refine ev_iconst dX11_isLetter_30 (by decide) ?_
  refine ev_goto (tgt := 35) dX11_isLetter_31 rfl ?_
  obtain rfl := Option.some.inj h
  exact ev_zret dX11_isLetter_35 rfl (chk_pos (.inr rfl))
set_option maxHeartbeats 4000000 in
set_option maxRecDepth 20000 in
theorem c_X11_isFigure {σ : Mem} {x1 : Int}  {q : Int} (h : f_X11_isFigure σ x1 = some q) : Ms yX11_isFigure M_X11_isFigure 210 210 [(2, (173 : Int)), (0, x1)] rho σ (some (0, q), rho, σ) := by
  refine Ms.of 0 (by decide +kernel) rfl (fun z => absurd z (by decide)) (fun _ _ _ => trivial) rfl rfl ?_
  unfold f_X11_isFigure at h
  show Ev M_X11_isFigure 210 210 _ 0 210 rho σ [(2, (173 : Int)), (0, x1)] []
  refine ev_iload_n dX11_isFigure_0 rfl ?_
  refine ev_aload_n dX11_isFigure_1 rfl (by decide) ?_
  refine ev_getf (j := 9) (t := 0) (x := (σ (173 : Int) 9)) dX11_isFigure_2 cf_X11 wf_X11_205 sp173 (by decide) (by decide) rfl (by decide) rfl ?_
  refine ev_icmp_ge (tgt := 34) dX11_isFigure_5 rfl h (fun cb h => ?_) (fun cb h => ?_)
  · refine ev_iconst dX11_isFigure_34 (by decide) ?_
    obtain rfl := Option.some.inj h
    exact ev_zret dX11_isFigure_35 rfl (chk_pos (.inl rfl))
  refine ev_aload_n dX11_isFigure_8 rfl (by decide) ?_
  refine ev_getf (j := 8) (t := 2) (x := (181 : Int)) dX11_isFigure_9 cf_X11 wf_X11_32 sp173 (by decide) (by decide) rfl (by decide) (rp173_8 _) ?_
  refine ev_iload_n dX11_isFigure_12 rfl ?_
  refine ev_iald dX11_isFigure_13 sp181 (by decide) (by decide) h (fun h => ?_)
  refine ev_bipush dX11_isFigure_14 (by decide) (by decide) ?_
  refine ev_icmp_lt (tgt := 34) dX11_isFigure_16 rfl h (fun cb h => ?_) (fun cb h => ?_)
  · refine ev_iconst dX11_isFigure_34 (by decide) ?_
    obtain rfl := Option.some.inj h
    exact ev_zret dX11_isFigure_35 rfl (chk_pos (.inl rfl))
  refine ev_aload_n dX11_isFigure_19 rfl (by decide) ?_
  refine ev_getf (j := 8) (t := 2) (x := (181 : Int)) dX11_isFigure_20 cf_X11 wf_X11_32 sp173 (by decide) (by decide) rfl (by decide) (rp173_8 _) ?_
  refine ev_iload_n dX11_isFigure_23 rfl ?_
  refine ev_iald dX11_isFigure_24 sp181 (by decide) (by decide) h (fun h => ?_)
  refine ev_bipush dX11_isFigure_25 (by decide) (by decide) ?_
  refine ev_icmp_gt (tgt := 34) dX11_isFigure_27 rfl h (fun cb h => ?_) (fun cb h => ?_)
  · refine ev_iconst dX11_isFigure_34 (by decide) ?_
    obtain rfl := Option.some.inj h
    exact ev_zret dX11_isFigure_35 rfl (chk_pos (.inl rfl))
  refine ev_iconst dX11_isFigure_30 (by decide) ?_
  refine ev_goto (tgt := 35) dX11_isFigure_31 rfl ?_
  obtain rfl := Option.some.inj h
  exact ev_zret dX11_isFigure_35 rfl (chk_pos (.inr rfl))
def K_X11_blanks_0 (r : Option V × Mem × Mem) : (Mem) ⊕ ((Mem)) → Prop := Sum.elim (fun a => Ev M_X11_blanks 210 210 r 0 210 rho a [(2, (173 : Int))] []) (fun e => Ev M_X11_blanks 210 210 r 38 210 rho e [(2, (173 : Int))] [])
set_option maxHeartbeats 4000000 in
set_option maxRecDepth 20000 in
theorem e_X11_blanks_38 (σ : Mem)  {q : Mem} (h : f_X11_blanks_38 σ  = some q) : Ev M_X11_blanks 210 210 (none, rho, q) 38 210 rho σ [(2, (173 : Int))] [] := by
  unfold f_X11_blanks_38 at h
  refine ev_aload_n dX11_blanks_38 rfl (by decide) ?_
  refine ev_aload_n dX11_blanks_39 rfl (by decide) ?_
  refine ev_getf (j := 10) (t := 0) (x := (σ (173 : Int) 10)) dX11_blanks_40 cf_X11 wf_X11_209 sp173 (by decide) (by decide) rfl (by decide) rfl ?_
  refine ev_putfG (j := 11) (t := 0) dX11_blanks_43 cf_X11 wf_X11_212 sp173 (by decide) (by decide) rfl (by decide) (by decide) rfl (fun z => absurd z (by decide +kernel)) h (fun σ2 h => ?_)
  obtain rfl := Option.some.inj h
  exact ev_vret dX11_blanks_46 rfl rfl
set_option maxHeartbeats 4000000 in
set_option maxRecDepth 20000 in
theorem b_X11_blanks_0  {r : Option V × Mem × Mem} : ∀ a x, f_X11_blanks_0B  a = some x → K_X11_blanks_0  r x → K_X11_blanks_0  r (.inl a) := by
  intro a x h K
  have ⟨σ, ea⟩ : ∃ z, z = a := ⟨_, rfl⟩
  subst ea
  have h : f_X11_blanks_0C  σ = some x := h
  unfold f_X11_blanks_0C at h
  show Ev M_X11_blanks 210 210 r 0 210 rho σ [(2, (173 : Int))] []
  refine ev_aload_n dX11_blanks_0 rfl (by decide) ?_
  refine ev_getf (j := 10) (t := 0) (x := (σ (173 : Int) 10)) dX11_blanks_1 cf_X11 wf_X11_209 sp173 (by decide) (by decide) rfl (by decide) rfl ?_
  refine ev_aload_n dX11_blanks_4 rfl (by decide) ?_
  refine ev_getf (j := 9) (t := 0) (x := (σ (173 : Int) 9)) dX11_blanks_5 cf_X11 wf_X11_205 sp173 (by decide) (by decide) rfl (by decide) rfl ?_
  refine ev_icmp_ge (tgt := 38) dX11_blanks_8 rfl h (fun cb h => ?_) (fun cb h => ?_)
  · obtain rfl := Option.some.inj h
    exact ev_sub (L2 := [(2, (173 : Int))]) K ⟨.inr rfl, trivial⟩
  refine ev_aload_n dX11_blanks_11 rfl (by decide) ?_
  refine ev_getf (j := 8) (t := 2) (x := (181 : Int)) dX11_blanks_12 cf_X11 wf_X11_32 sp173 (by decide) (by decide) rfl (by decide) (rp173_8 _) ?_
  refine ev_aload_n dX11_blanks_15 rfl (by decide) ?_
  refine ev_getf (j := 10) (t := 0) (x := (σ (173 : Int) 10)) dX11_blanks_16 cf_X11 wf_X11_209 sp173 (by decide) (by decide) rfl (by decide) rfl ?_
  refine ev_iald dX11_blanks_19 sp181 (by decide) (by decide) h (fun h => ?_)
  refine ev_bipush dX11_blanks_20 (by decide) (by decide) ?_
  refine ev_icmp_ne (tgt := 38) dX11_blanks_22 rfl h (fun cb h => ?_) (fun cb h => ?_)
  · obtain rfl := Option.some.inj h
    exact ev_sub (L2 := [(2, (173 : Int))]) K ⟨.inr rfl, trivial⟩
  refine ev_aload_n dX11_blanks_25 rfl (by decide) ?_
  refine ev_dup dX11_blanks_26 (show (2 : Nat) ≠ 1 by decide) ?_
  refine ev_getf (j := 10) (t := 0) (x := (σ (173 : Int) 10)) dX11_blanks_27 cf_X11 wf_X11_209 sp173 (by decide) (by decide) rfl (by decide) rfl ?_
  refine ev_iconst dX11_blanks_30 (by decide) ?_
  refine ev_iadd dX11_blanks_31 ?_
  refine ev_putfG (j := 10) (t := 0) dX11_blanks_32 cf_X11 wf_X11_209 sp173 (by decide) (by decide) rfl (by decide) (by decide) rfl (fun z => absurd z (by decide +kernel)) h (fun σ1 h => ?_)
  refine ev_goto (tgt := 0) dX11_blanks_35 rfl ?_
  obtain rfl := Option.some.inj h
  exact ev_sub (L2 := [(2, (173 : Int))]) K ⟨.inr rfl, trivial⟩
set_option maxHeartbeats 4000000 in
set_option maxRecDepth 20000 in
theorem e_X11_blanks_0 (σ : Mem)  {q : Mem} (h : f_X11_blanks_0 σ  = some q) : Ev M_X11_blanks 210 210 (none, rho, q) 0 210 rho σ [(2, (173 : Int))] [] := by
  unfold f_X11_blanks_0 at h
  obtain ⟨e, hl, h⟩ := bind_of h
  refine loop_ev (K := K_X11_blanks_0  (none, rho, q)) (b_X11_blanks_0 ) FU σ e hl ?_
  show Ev M_X11_blanks 210 210 _ 38 210 rho e [(2, (173 : Int))] []
  replace h : f_X11_blanks_38 e = some q := h
  exact ev_sub (L2 := [(2, (173 : Int))]) (e_X11_blanks_38 e h) ⟨.inr rfl, trivial⟩
set_option maxHeartbeats 4000000 in
set_option maxRecDepth 20000 in
theorem c_X11_blanks {σ : Mem}  {q : Mem} (h : f_X11_blanks σ  = some q) : Ms yX11_blanks M_X11_blanks 210 210 [(2, (173 : Int))] rho σ (none, rho, q) := by
  refine Ms.of 0 (by decide +kernel) rfl (fun z => absurd z (by decide)) (fun _ _ _ => trivial) rfl rfl ?_
  unfold f_X11_blanks at h
  show Ev M_X11_blanks 210 210 _ 0 210 rho σ [(2, (173 : Int))] []
  exact ev_sub (L2 := [(2, (173 : Int))]) (e_X11_blanks_0 σ h) ⟨.inr rfl, trivial⟩
set_option maxHeartbeats 4000000 in
set_option maxRecDepth 20000 in
theorem e_X11_wrong_19 (σ : Mem) (s1 : Int)  {q : Mem} (h : f_X11_wrong_19 σ s1 = some q) : Ev M_X11_wrong 210 210 (none, rho, q) 19 210 rho σ [(9, 0)] [(0, s1), (2, (173 : Int))] := by
  unfold f_X11_wrong_19 at h
  refine ev_putfG (j := 13) (t := 0) dX11_wrong_19 cf_X11 wf_X11_215 sp173 (by decide) (by decide) rfl (by decide) (by decide) rfl (fun z => absurd z (by decide +kernel)) h (fun σ1 h => ?_)
  obtain rfl := Option.some.inj h
  exact ev_vret dX11_wrong_22 rfl rfl
set_option maxHeartbeats 4000000 in
set_option maxRecDepth 20000 in
theorem c_X11_wrong {σ : Mem}  {q : Mem} (h : f_X11_wrong σ  = some q) : Ms yX11_wrong M_X11_wrong 210 210 [(2, (173 : Int))] rho σ (none, rho, q) := by
  refine Ms.of 0 (by decide +kernel) rfl (fun z => absurd z (by decide)) (fun _ _ _ => trivial) rfl rfl ?_
  unfold f_X11_wrong at h
  show Ev M_X11_wrong 210 210 _ 0 210 rho σ [(2, (173 : Int))] []
  refine ev_aload_n dX11_wrong_0 rfl (by decide) ?_
  refine ev_aload_n dX11_wrong_1 rfl (by decide) ?_
  refine ev_getf (j := 13) (t := 0) (x := (σ (173 : Int) 13)) dX11_wrong_2 cf_X11 wf_X11_215 sp173 (by decide) (by decide) rfl (by decide) rfl ?_
  refine ev_if_ge (tgt := 15) dX11_wrong_5 rfl h (fun cb h => ?_) (fun cb h => ?_)
  · refine ev_aload_n dX11_wrong_15 rfl (by decide) ?_
    refine ev_getf (j := 13) (t := 0) (x := (σ (173 : Int) 13)) dX11_wrong_16 cf_X11 wf_X11_215 sp173 (by decide) (by decide) rfl (by decide) rfl ?_
    exact ev_sub (L2 := [(9, 0)]) (e_X11_wrong_19 σ (σ (173 : Int) 13) h) ⟨.inl rfl, trivial⟩
  refine ev_aload_n dX11_wrong_8 rfl (by decide) ?_
  refine ev_getf (j := 11) (t := 0) (x := (σ (173 : Int) 11)) dX11_wrong_9 cf_X11 wf_X11_212 sp173 (by decide) (by decide) rfl (by decide) rfl ?_
  refine ev_goto (tgt := 19) dX11_wrong_12 rfl ?_
  exact ev_sub (L2 := [(9, 0)]) (e_X11_wrong_19 σ (σ (173 : Int) 11) h) ⟨.inl rfl, trivial⟩
def K_X11_word_61 (σ : Mem) (x1 x2 x3 : Int) (r : Option V × Mem × Mem) : (Int × Int) ⊕ ((Int)) → Prop := Sum.elim (fun a => Ev M_X11_word 210 210 r 61 210 rho σ [(2, (173 : Int)), (0, x1), (0, x2), (0, x3), (0, a.1), (0, a.2), (9, 0)] []) (fun e => Ev M_X11_word 210 210 r 141 210 rho σ [(2, (173 : Int)), (0, x1), (0, x2), (0, x3), (0, e), (9, 0), (9, 0)] [])
def K_X11_word_27 (σ : Mem) (x1 : Int) (r : Option V × Mem × Mem) : (Int × Int) ⊕ ((Int)) → Prop := Sum.elim (fun a => Ev M_X11_word 210 210 r 27 210 rho σ [(2, (173 : Int)), (0, x1), (0, a.1), (0, a.2), (9, 0), (9, 0), (9, 0)] []) (fun e => Ev M_X11_word 210 210 r 158 210 rho σ [(2, (173 : Int)), (0, x1), (0, e), (9, 0), (9, 0), (9, 0), (9, 0)] [])
def K_X11_word_9 (σ : Mem) (r : Option V × Mem × Mem) : (Int) ⊕ ((Int)) → Prop := Sum.elim (fun a => Ev M_X11_word 210 210 r 9 210 rho σ [(2, (173 : Int)), (0, a), (9, 0), (9, 0), (9, 0), (9, 0), (9, 0)] []) (fun e => Ev M_X11_word 210 210 r 23 210 rho σ [(2, (173 : Int)), (0, e), (9, 0), (9, 0), (9, 0), (9, 0), (9, 0)] [])
set_option maxHeartbeats 4000000 in
set_option maxRecDepth 20000 in
theorem e_X11_word_133 (σ : Mem) (x1 x2 x3 x5 s0 : Int)  {q : ((Int × Int) ⊕ ((Int)))} (h : f_X11_word_133 σ x1 x2 x3 x5 s0 = some q) {r : Option V × Mem × Mem} (K : K_X11_word_61 σ x1 x2 x3 r q) : Ev M_X11_word 210 210 r 133 210 rho σ [(2, (173 : Int)), (0, x1), (0, x2), (0, x3), (9, 0), (0, x5), (9, 0)] [(0, s0)] := by
  unfold f_X11_word_133 at h
  refine ev_istore dX11_word_133 rfl (by decide) ?_
  show Ev _ _ _ _ 135 _ _ _ [(2, (173 : Int)), (0, x1), (0, x2), (0, x3), (0, s0), (0, x5), (9, 0)] _
  refine ev_iincG dX11_word_135 rfl h rfl (fun v9 h => ?_)
  show Ev _ _ _ _ 138 _ _ _ [(2, (173 : Int)), (0, x1), (0, x2), (0, x3), (0, s0), (0, v9), (9, 0)] _
  refine ev_goto (tgt := 61) dX11_word_138 rfl ?_
  obtain rfl := Option.some.inj h
  exact ev_sub (L2 := [(2, (173 : Int)), (0, x1), (0, x2), (0, x3), (0, s0), (0, v9), (9, 0)]) K ⟨.inr rfl, .inr rfl, .inr rfl, .inr rfl, .inr rfl, .inr rfl, .inl rfl, trivial⟩
set_option maxHeartbeats 4000000 in
set_option maxRecDepth 20000 in
theorem e_X11_word_151 (σ : Mem) (x1 x3 s0 : Int)  {q : ((Int × Int) ⊕ ((Int)))} (h : f_X11_word_151 σ x1 x3 s0 = some q) {r : Option V × Mem × Mem} (K : K_X11_word_27 σ x1 r q) : Ev M_X11_word 210 210 r 151 210 rho σ [(2, (173 : Int)), (0, x1), (9, 0), (0, x3), (9, 0), (9, 0), (9, 0)] [(0, s0)] := by
  unfold f_X11_word_151 at h
  refine ev_istore_n dX11_word_151 rfl (by decide) ?_
  show Ev _ _ _ _ 152 _ _ _ [(2, (173 : Int)), (0, x1), (0, s0), (0, x3), (9, 0), (9, 0), (9, 0)] _
  refine ev_iincG dX11_word_152 rfl h rfl (fun v10 h => ?_)
  show Ev _ _ _ _ 155 _ _ _ [(2, (173 : Int)), (0, x1), (0, s0), (0, v10), (9, 0), (9, 0), (9, 0)] _
  refine ev_goto (tgt := 27) dX11_word_155 rfl ?_
  obtain rfl := Option.some.inj h
  exact ev_sub (L2 := [(2, (173 : Int)), (0, x1), (0, s0), (0, v10), (9, 0), (9, 0), (9, 0)]) K ⟨.inr rfl, .inr rfl, .inr rfl, .inr rfl, .inl rfl, .inl rfl, .inl rfl, trivial⟩
set_option maxHeartbeats 4000000 in
set_option maxRecDepth 20000 in
theorem e_X11_word_141 (σ : Mem) (x1 x2 x3 x4 : Int)  {q : ((Int × Int) ⊕ ((Int)))} (h : f_X11_word_141 σ x1 x2 x3 x4 = some q) {r : Option V × Mem × Mem} (K : K_X11_word_27 σ x1 r q) : Ev M_X11_word 210 210 r 141 210 rho σ [(2, (173 : Int)), (0, x1), (0, x2), (0, x3), (0, x4), (9, 0), (9, 0)] [] := by
  unfold f_X11_word_141 at h
  refine ev_iload dX11_word_141 rfl ?_
  refine ev_if_eq (tgt := 150) dX11_word_143 rfl h (fun cb h => ?_) (fun cb h => ?_)
  · refine ev_iload_n dX11_word_150 rfl ?_
    exact ev_sub (L2 := [(2, (173 : Int)), (0, x1), (9, 0), (0, x3), (9, 0), (9, 0), (9, 0)]) (e_X11_word_151 σ x1 x3 x2 h K) ⟨.inr rfl, .inr rfl, .inl rfl, .inr rfl, .inl rfl, .inl rfl, .inl rfl, trivial⟩
  refine ev_iload_n dX11_word_146 rfl ?_
  refine ev_goto (tgt := 151) dX11_word_147 rfl ?_
  exact ev_sub (L2 := [(2, (173 : Int)), (0, x1), (9, 0), (0, x3), (9, 0), (9, 0), (9, 0)]) (e_X11_word_151 σ x1 x3 x3 h K) ⟨.inr rfl, .inr rfl, .inl rfl, .inr rfl, .inl rfl, .inl rfl, .inl rfl, trivial⟩
set_option maxHeartbeats 4000000 in
set_option maxRecDepth 20000 in
theorem b_X11_word_61 (σ : Mem) (x1 x2 x3 : Int)  {r : Option V × Mem × Mem} : ∀ a x, f_X11_word_61B σ x1 x2 x3 a = some x → K_X11_word_61 σ x1 x2 x3 r x → K_X11_word_61 σ x1 x2 x3 r (.inl a) := by
  intro a x h K
  obtain ⟨x4, x5⟩ := a
  have h : f_X11_word_61C σ x1 x2 x3 x4 x5 = some x := h
  unfold f_X11_word_61C at h
  show Ev M_X11_word 210 210 r 61 210 rho σ [(2, (173 : Int)), (0, x1), (0, x2), (0, x3), (0, x4), (0, x5), (9, 0)] []
  refine ev_iload dX11_word_61 rfl ?_
  refine ev_iconst dX11_word_63 (by decide) ?_
  refine ev_icmp_ge (tgt := 141) dX11_word_64 rfl h (fun cb h => ?_) (fun cb h => ?_)
  · obtain rfl := Option.some.inj h
    exact ev_sub (L2 := [(2, (173 : Int)), (0, x1), (0, x2), (0, x3), (0, x4), (9, 0), (9, 0)]) K ⟨.inr rfl, .inr rfl, .inr rfl, .inr rfl, .inr rfl, .inl rfl, .inl rfl, trivial⟩
  refine ev_iload dX11_word_67 rfl ?_
  refine ev_if_eq (tgt := 141) dX11_word_69 rfl h (fun cb h => ?_) (fun cb h => ?_)
  · obtain rfl := Option.some.inj h
    exact ev_sub (L2 := [(2, (173 : Int)), (0, x1), (0, x2), (0, x3), (0, x4), (9, 0), (9, 0)]) K ⟨.inr rfl, .inr rfl, .inr rfl, .inr rfl, .inr rfl, .inl rfl, .inl rfl, trivial⟩
  refine ev_aload_n dX11_word_72 rfl (by decide) ?_
  refine ev_getf (j := 14) (t := 2) (x := (182 : Int)) dX11_word_73 cf_X11 wf_X11_35 sp173 (by decide) (by decide) rfl (by decide) (rp173_14 _) ?_
  refine ev_iconst dX11_word_76 (by decide) ?_
  refine ev_iload_n dX11_word_77 rfl ?_
  refine ev_imul dX11_word_78 ?_
  refine ev_iload dX11_word_79 rfl ?_
  refine ev_iadd dX11_word_81 ?_
  refine ev_cald dX11_word_82 sp182 (by decide) (by decide) h (fun h => ?_)
  refine ev_istoreG dX11_word_83 h rfl (by decide) (fun v8 h => ?_)
  show Ev _ _ _ _ 85 _ _ _ [(2, (173 : Int)), (0, x1), (0, x2), (0, x3), (0, x4), (0, x5), (0, v8)] _
  refine ev_aload_n dX11_word_85 rfl (by decide) ?_
  refine ev_getf (j := 10) (t := 0) (x := (σ (173 : Int) 10)) dX11_word_86 cf_X11 wf_X11_209 sp173 (by decide) (by decide) rfl (by decide) rfl ?_
  show Ev _ _ _ _ 89 _ _ _ _ _
  refine ev_iload dX11_word_89 rfl ?_
  refine ev_iadd dX11_word_91 ?_
  refine ev_iload_n dX11_word_92 rfl ?_
  refine ev_icmp_ge (tgt := 121) dX11_word_93 rfl h (fun cb h => ?_) (fun cb h => ?_)
  · refine ev_iload dX11_word_121 rfl ?_
    refine ev_bipush dX11_word_123 (by decide) (by decide) ?_
    refine ev_icmp_ne (tgt := 132) dX11_word_125 rfl h (fun cb h => ?_) (fun cb h => ?_)
    · refine ev_iconst dX11_word_132 (by decide) ?_
      exact ev_sub (L2 := [(2, (173 : Int)), (0, x1), (0, x2), (0, x3), (9, 0), (0, x5), (9, 0)]) (e_X11_word_133 σ x1 x2 x3 x5 (0 : Int) h K) ⟨.inr rfl, .inr rfl, .inr rfl, .inr rfl, .inl rfl, .inr rfl, .inl rfl, trivial⟩
    refine ev_iconst dX11_word_128 (by decide) ?_
    refine ev_goto (tgt := 133) dX11_word_129 rfl ?_
    exact ev_sub (L2 := [(2, (173 : Int)), (0, x1), (0, x2), (0, x3), (9, 0), (0, x5), (9, 0)]) (e_X11_word_133 σ x1 x2 x3 x5 (1 : Int) h K) ⟨.inr rfl, .inr rfl, .inr rfl, .inr rfl, .inl rfl, .inr rfl, .inl rfl, trivial⟩
  refine ev_aload_n dX11_word_96 rfl (by decide) ?_
  refine ev_getf (j := 8) (t := 2) (x := (181 : Int)) dX11_word_97 cf_X11 wf_X11_32 sp173 (by decide) (by decide) rfl (by decide) (rp173_8 _) ?_
  refine ev_aload_n dX11_word_100 rfl (by decide) ?_
  refine ev_getf (j := 10) (t := 0) (x := (σ (173 : Int) 10)) dX11_word_101 cf_X11 wf_X11_209 sp173 (by decide) (by decide) rfl (by decide) rfl ?_
  refine ev_iload dX11_word_104 rfl ?_
  refine ev_iadd dX11_word_106 ?_
  refine ev_iald dX11_word_107 sp181 (by decide) (by decide) h (fun h => ?_)
  refine ev_iload dX11_word_108 rfl ?_
  refine ev_icmp_ne (tgt := 117) dX11_word_110 rfl h (fun cb h => ?_) (fun cb h => ?_)
  · refine ev_iconst dX11_word_117 (by decide) ?_
    refine ev_goto (tgt := 133) dX11_word_118 rfl ?_
    exact ev_sub (L2 := [(2, (173 : Int)), (0, x1), (0, x2), (0, x3), (9, 0), (0, x5), (9, 0)]) (e_X11_word_133 σ x1 x2 x3 x5 (0 : Int) h K) ⟨.inr rfl, .inr rfl, .inr rfl, .inr rfl, .inl rfl, .inr rfl, .inl rfl, trivial⟩
  refine ev_iconst dX11_word_113 (by decide) ?_
  refine ev_goto (tgt := 133) dX11_word_114 rfl ?_
  exact ev_sub (L2 := [(2, (173 : Int)), (0, x1), (0, x2), (0, x3), (9, 0), (0, x5), (9, 0)]) (e_X11_word_133 σ x1 x2 x3 x5 (1 : Int) h K) ⟨.inr rfl, .inr rfl, .inr rfl, .inr rfl, .inl rfl, .inr rfl, .inl rfl, trivial⟩
set_option maxHeartbeats 4000000 in
set_option maxRecDepth 20000 in
theorem e_X11_word_61 (σ : Mem) (x1 x2 x3 x4 x5 : Int)  {q : ((Int × Int) ⊕ ((Int)))} (h : f_X11_word_61 σ x1 x2 x3 x4 x5 = some q) {r : Option V × Mem × Mem} (K : K_X11_word_27 σ x1 r q) : Ev M_X11_word 210 210 r 61 210 rho σ [(2, (173 : Int)), (0, x1), (0, x2), (0, x3), (0, x4), (0, x5), (9, 0)] [] := by
  unfold f_X11_word_61 at h
  obtain ⟨e, hl, h⟩ := bind_of h
  refine loop_ev (K := K_X11_word_61 σ x1 x2 x3 r) (b_X11_word_61 σ x1 x2 x3) FU (x4, x5) e hl ?_
  show Ev M_X11_word 210 210 r 141 210 rho σ [(2, (173 : Int)), (0, x1), (0, x2), (0, x3), (0, e), (9, 0), (9, 0)] []
  replace h : f_X11_word_141 σ x1 x2 x3 e = some q := h
  exact ev_sub (L2 := [(2, (173 : Int)), (0, x1), (0, x2), (0, x3), (0, e), (9, 0), (9, 0)]) (e_X11_word_141 σ x1 x2 x3 e h K) ⟨.inr rfl, .inr rfl, .inr rfl, .inr rfl, .inr rfl, .inl rfl, .inl rfl, trivial⟩
set_option maxHeartbeats 4000000 in
set_option maxRecDepth 20000 in
theorem e_X11_word_56 (σ : Mem) (x1 x2 x3 s0 : Int)  {q : ((Int × Int) ⊕ ((Int)))} (h : f_X11_word_56 σ x1 x2 x3 s0 = some q) {r : Option V × Mem × Mem} (K : K_X11_word_27 σ x1 r q) : Ev M_X11_word 210 210 r 56 210 rho σ [(2, (173 : Int)), (0, x1), (0, x2), (0, x3), (9, 0), (9, 0), (9, 0)] [(0, s0)] := by
  unfold f_X11_word_56 at h
  refine ev_istore dX11_word_56 rfl (by decide) ?_
  show Ev _ _ _ _ 58 _ _ _ [(2, (173 : Int)), (0, x1), (0, x2), (0, x3), (0, s0), (9, 0), (9, 0)] _
  refine ev_iconst dX11_word_58 (by decide) ?_
  refine ev_istore dX11_word_59 rfl (by decide) ?_
  show Ev _ _ _ _ 61 _ _ _ [(2, (173 : Int)), (0, x1), (0, x2), (0, x3), (0, s0), (0, (0 : Int)), (9, 0)] _
  exact ev_sub (L2 := [(2, (173 : Int)), (0, x1), (0, x2), (0, x3), (0, s0), (0, (0 : Int)), (9, 0)]) (e_X11_word_61 σ x1 x2 x3 s0 (0 : Int) h K) ⟨.inr rfl, .inr rfl, .inr rfl, .inr rfl, .inr rfl, .inr rfl, .inl rfl, trivial⟩
set_option maxHeartbeats 4000000 in
set_option maxRecDepth 20000 in
theorem e_X11_word_55 (σ : Mem) (x1 x2 x3 : Int)  {q : ((Int × Int) ⊕ ((Int)))} (h : f_X11_word_55 σ x1 x2 x3 = some q) {r : Option V × Mem × Mem} (K : K_X11_word_27 σ x1 r q) : Ev M_X11_word 210 210 r 55 210 rho σ [(2, (173 : Int)), (0, x1), (0, x2), (0, x3), (9, 0), (9, 0), (9, 0)] [] := by
  unfold f_X11_word_55 at h
  refine ev_iconst dX11_word_55 (by decide) ?_
  exact ev_sub (L2 := [(2, (173 : Int)), (0, x1), (0, x2), (0, x3), (9, 0), (9, 0), (9, 0)]) (e_X11_word_56 σ x1 x2 x3 (0 : Int) h K) ⟨.inr rfl, .inr rfl, .inr rfl, .inr rfl, .inl rfl, .inl rfl, .inl rfl, trivial⟩
set_option maxHeartbeats 4000000 in
set_option maxRecDepth 20000 in
theorem e_X11_word_158 (σ : Mem) (x1 x2 : Int)  {q : (Int × Mem)} (h : f_X11_word_158 σ x1 x2 = some q) : Ev M_X11_word 210 210 (some (0, q.1), rho, q.2) 158 210 rho σ [(2, (173 : Int)), (0, x1), (0, x2), (9, 0), (9, 0), (9, 0), (9, 0)] [] := by
  unfold f_X11_word_158 at h
  refine ev_aload_n dX11_word_158 rfl (by decide) ?_
  refine ev_iload_n dX11_word_159 rfl ?_
  refine ev_putfG (j := 10) (t := 0) dX11_word_160 cf_X11 wf_X11_209 sp173 (by decide) (by decide) rfl (by decide) (by decide) rfl (fun z => absurd z (by decide +kernel)) h (fun σ7 h => ?_)
  refine ev_iload_n dX11_word_163 rfl ?_
  obtain rfl := Option.some.inj h
  dsimp only
  exact ev_iret dX11_word_164 rfl rfl
set_option maxHeartbeats 4000000 in
set_option maxRecDepth 20000 in
theorem b_X11_word_27 (σ : Mem) (x1 : Int)  {r : Option V × Mem × Mem} : ∀ a x, f_X11_word_27B σ x1 a = some x → K_X11_word_27 σ x1 r x → K_X11_word_27 σ x1 r (.inl a) := by
  intro a x h K
  obtain ⟨x2, x3⟩ := a
  have h : f_X11_word_27C σ x1 x2 x3 = some x := h
  unfold f_X11_word_27C at h
  show Ev M_X11_word 210 210 r 27 210 rho σ [(2, (173 : Int)), (0, x1), (0, x2), (0, x3), (9, 0), (9, 0), (9, 0)] []
  refine ev_iload_n dX11_word_27 rfl ?_
  refine ev_bipush dX11_word_28 (by decide) (by decide) ?_
  refine ev_icmp_ge (tgt := 158) dX11_word_30 rfl h (fun cb h => ?_) (fun cb h => ?_)
  · obtain rfl := Option.some.inj h
    exact ev_sub (L2 := [(2, (173 : Int)), (0, x1), (0, x2), (9, 0), (9, 0), (9, 0), (9, 0)]) K ⟨.inr rfl, .inr rfl, .inr rfl, .inl rfl, .inl rfl, .inl rfl, .inl rfl, trivial⟩
  refine ev_iload_n dX11_word_33 rfl ?_
  refine ev_aload_n dX11_word_34 rfl (by decide) ?_
  refine ev_getf (j := 10) (t := 0) (x := (σ (173 : Int) 10)) dX11_word_35 cf_X11 wf_X11_209 sp173 (by decide) (by decide) rfl (by decide) rfl ?_
  refine ev_icmp_le (tgt := 55) dX11_word_38 rfl h (fun cb h => ?_) (fun cb h => ?_)
  · exact ev_sub (L2 := [(2, (173 : Int)), (0, x1), (0, x2), (0, x3), (9, 0), (9, 0), (9, 0)]) (e_X11_word_55 σ x1 x2 x3 h K) ⟨.inr rfl, .inr rfl, .inr rfl, .inr rfl, .inl rfl, .inl rfl, .inl rfl, trivial⟩
  refine ev_iload_n dX11_word_41 rfl ?_
  refine ev_aload_n dX11_word_42 rfl (by decide) ?_
  refine ev_getf (j := 10) (t := 0) (x := (σ (173 : Int) 10)) dX11_word_43 cf_X11 wf_X11_209 sp173 (by decide) (by decide) rfl (by decide) rfl ?_
  refine ev_isub dX11_word_46 ?_
  refine ev_iconst dX11_word_47 (by decide) ?_
  refine ev_icmp_gt (tgt := 55) dX11_word_48 rfl h (fun cb h => ?_) (fun cb h => ?_)
  · exact ev_sub (L2 := [(2, (173 : Int)), (0, x1), (0, x2), (0, x3), (9, 0), (9, 0), (9, 0)]) (e_X11_word_55 σ x1 x2 x3 h K) ⟨.inr rfl, .inr rfl, .inr rfl, .inr rfl, .inl rfl, .inl rfl, .inl rfl, trivial⟩
  refine ev_iconst dX11_word_51 (by decide) ?_
  refine ev_goto (tgt := 56) dX11_word_52 rfl ?_
  exact ev_sub (L2 := [(2, (173 : Int)), (0, x1), (0, x2), (0, x3), (9, 0), (9, 0), (9, 0)]) (e_X11_word_56 σ x1 x2 x3 (1 : Int) h K) ⟨.inr rfl, .inr rfl, .inr rfl, .inr rfl, .inl rfl, .inl rfl, .inl rfl, trivial⟩
set_option maxHeartbeats 4000000 in
set_option maxRecDepth 20000 in
theorem e_X11_word_27 (σ : Mem) (x1 x2 x3 : Int)  {q : (Int × Mem)} (h : f_X11_word_27 σ x1 x2 x3 = some q) : Ev M_X11_word 210 210 (some (0, q.1), rho, q.2) 27 210 rho σ [(2, (173 : Int)), (0, x1), (0, x2), (0, x3), (9, 0), (9, 0), (9, 0)] [] := by
  unfold f_X11_word_27 at h
  obtain ⟨e, hl, h⟩ := bind_of h
  refine loop_ev (K := K_X11_word_27 σ x1 (some (0, q.1), rho, q.2)) (b_X11_word_27 σ x1) FU (x2, x3) e hl ?_
  show Ev M_X11_word 210 210 _ 158 210 rho σ [(2, (173 : Int)), (0, x1), (0, e), (9, 0), (9, 0), (9, 0), (9, 0)] []
  replace h : f_X11_word_158 σ x1 e = some q := h
  exact ev_sub (L2 := [(2, (173 : Int)), (0, x1), (0, e), (9, 0), (9, 0), (9, 0), (9, 0)]) (e_X11_word_158 σ x1 e h) ⟨.inr rfl, .inr rfl, .inr rfl, .inl rfl, .inl rfl, .inl rfl, .inl rfl, trivial⟩
set_option maxHeartbeats 4000000 in
set_option maxRecDepth 20000 in
theorem e_X11_word_23 (σ : Mem) (x1 : Int)  {q : (Int × Mem)} (h : f_X11_word_23 σ x1 = some q) : Ev M_X11_word 210 210 (some (0, q.1), rho, q.2) 23 210 rho σ [(2, (173 : Int)), (0, x1), (9, 0), (9, 0), (9, 0), (9, 0), (9, 0)] [] := by
  unfold f_X11_word_23 at h
  refine ev_iconst dX11_word_23 (by decide) ?_
  refine ev_istore_n dX11_word_24 rfl (by decide) ?_
  show Ev _ _ _ _ 25 _ _ _ [(2, (173 : Int)), (0, x1), (0, (-1 : Int)), (9, 0), (9, 0), (9, 0), (9, 0)] _
  refine ev_iconst dX11_word_25 (by decide) ?_
  refine ev_istore_n dX11_word_26 rfl (by decide) ?_
  show Ev _ _ _ _ 27 _ _ _ [(2, (173 : Int)), (0, x1), (0, (-1 : Int)), (0, (0 : Int)), (9, 0), (9, 0), (9, 0)] _
  exact ev_sub (L2 := [(2, (173 : Int)), (0, x1), (0, (-1 : Int)), (0, (0 : Int)), (9, 0), (9, 0), (9, 0)]) (e_X11_word_27 σ x1 (-1 : Int) (0 : Int) h) ⟨.inr rfl, .inr rfl, .inr rfl, .inr rfl, .inl rfl, .inl rfl, .inl rfl, trivial⟩
set_option maxHeartbeats 4000000 in
set_option maxRecDepth 20000 in
theorem b_X11_word_9 (σ : Mem)  {r : Option V × Mem × Mem} : ∀ a x, f_X11_word_9B σ a = some x → K_X11_word_9 σ r x → K_X11_word_9 σ r (.inl a) := by
  intro a x h K
  have ⟨x1, ea⟩ : ∃ z, z = a := ⟨_, rfl⟩
  subst ea
  have h : f_X11_word_9C σ x1 = some x := h
  unfold f_X11_word_9C at h
  show Ev M_X11_word 210 210 r 9 210 rho σ [(2, (173 : Int)), (0, x1), (9, 0), (9, 0), (9, 0), (9, 0), (9, 0)] []
  refine ev_aload_n dX11_word_9 rfl (by decide) ?_
  refine ev_iload_n dX11_word_10 rfl ?_
  obtain ⟨v4, hc5, h⟩ := bind_of h
  refine ev_invV_v (k := (173 : Int)) (av := [(0, x1)]) (st := []) (v := (0, v4)) (τ := σ) dX11_word_11 ml_X11_221 mv_X11_isLetter (T := TX11) (ci := 10) rfl sp173 (by decide) (by decide) rfl ⟨Nat.le_of_ble_eq_true rfl, Nat.le_of_ble_eq_true rfl⟩ (Nat.le_of_ble_eq_true rfl) (c_X11_isLetter hc5) ?_
  refine ev_if_eq (tgt := 23) dX11_word_14 rfl h (fun cb h => ?_) (fun cb h => ?_)
  · obtain rfl := Option.some.inj h
    exact ev_sub (L2 := [(2, (173 : Int)), (0, x1), (9, 0), (9, 0), (9, 0), (9, 0), (9, 0)]) K ⟨.inr rfl, .inr rfl, .inl rfl, .inl rfl, .inl rfl, .inl rfl, .inl rfl, trivial⟩
  refine ev_iincG dX11_word_17 rfl h rfl (fun v6 h => ?_)
  show Ev _ _ _ _ 20 _ _ _ [(2, (173 : Int)), (0, v6), (9, 0), (9, 0), (9, 0), (9, 0), (9, 0)] _
  refine ev_goto (tgt := 9) dX11_word_20 rfl ?_
  obtain rfl := Option.some.inj h
  exact ev_sub (L2 := [(2, (173 : Int)), (0, v6), (9, 0), (9, 0), (9, 0), (9, 0), (9, 0)]) K ⟨.inr rfl, .inr rfl, .inl rfl, .inl rfl, .inl rfl, .inl rfl, .inl rfl, trivial⟩
set_option maxHeartbeats 4000000 in
set_option maxRecDepth 20000 in
theorem e_X11_word_9 (σ : Mem) (x1 : Int)  {q : (Int × Mem)} (h : f_X11_word_9 σ x1 = some q) : Ev M_X11_word 210 210 (some (0, q.1), rho, q.2) 9 210 rho σ [(2, (173 : Int)), (0, x1), (9, 0), (9, 0), (9, 0), (9, 0), (9, 0)] [] := by
  unfold f_X11_word_9 at h
  obtain ⟨e, hl, h⟩ := bind_of h
  refine loop_ev (K := K_X11_word_9 σ (some (0, q.1), rho, q.2)) (b_X11_word_9 σ) FU x1 e hl ?_
  show Ev M_X11_word 210 210 _ 23 210 rho σ [(2, (173 : Int)), (0, e), (9, 0), (9, 0), (9, 0), (9, 0), (9, 0)] []
  replace h : f_X11_word_23 σ e = some q := h
  exact ev_sub (L2 := [(2, (173 : Int)), (0, e), (9, 0), (9, 0), (9, 0), (9, 0), (9, 0)]) (e_X11_word_23 σ e h) ⟨.inr rfl, .inr rfl, .inl rfl, .inl rfl, .inl rfl, .inl rfl, .inl rfl, trivial⟩
set_option maxHeartbeats 4000000 in
set_option maxRecDepth 20000 in
theorem c_X11_word {σ : Mem}  {q : (Int × Mem)} (h : f_X11_word σ  = some q) : Ms yX11_word M_X11_word 210 210 [(2, (173 : Int))] rho σ (some (0, q.1), rho, q.2) := by
  refine Ms.of 6 (by decide +kernel) rfl (fun z => absurd z (by decide)) (fun _ _ _ => trivial) rfl rfl ?_
  unfold f_X11_word at h
  show Ev M_X11_word 210 210 _ 0 210 rho σ [(2, (173 : Int)), (9, 0), (9, 0), (9, 0), (9, 0), (9, 0), (9, 0)] []
  refine ev_aload_n dX11_word_0 rfl (by decide) ?_
  obtain ⟨σ1, hc2, h⟩ := bind_of h
  refine ev_invV_n (k := (173 : Int)) (av := []) (st := []) (τ := σ1) dX11_word_1 ml_X11_218 mv_X11_blanks (T := TX11) (ci := 10) rfl sp173 (by decide) (by decide) rfl ⟨Nat.le_of_ble_eq_true rfl, Nat.le_of_ble_eq_true rfl⟩ (Nat.le_of_ble_eq_true rfl) (c_X11_blanks hc2) ?_
  refine ev_aload_n dX11_word_4 rfl (by decide) ?_
  refine ev_getf (j := 10) (t := 0) (x := (σ1 (173 : Int) 10)) dX11_word_5 cf_X11 wf_X11_209 sp173 (by decide) (by decide) rfl (by decide) rfl ?_
  refine ev_istore_nG dX11_word_8 h rfl (by decide) (fun v3 h => ?_)
  show Ev _ _ _ _ 9 _ _ _ [(2, (173 : Int)), (0, v3), (9, 0), (9, 0), (9, 0), (9, 0), (9, 0)] _
  exact ev_sub (L2 := [(2, (173 : Int)), (0, v3), (9, 0), (9, 0), (9, 0), (9, 0), (9, 0)]) (e_X11_word_9 σ1 v3 h) ⟨.inr rfl, .inr rfl, .inl rfl, .inl rfl, .inl rfl, .inl rfl, .inl rfl, trivial⟩
def K_X11_number_17 (x1 x2 : Int) (r : Option V × Mem × Mem) : (Int × Int × Mem) ⊕ ((Int × Int × Mem)) → Prop := Sum.elim (fun a => Ev M_X11_number 210 210 r 17 210 rho a.2.2 [(2, (173 : Int)), (0, x1), (0, x2), (0, a.1), (0, a.2.1)] []) (fun e => Ev M_X11_number 210 210 r 72 210 rho e.2.2 [(2, (173 : Int)), (0, x1), (0, x2), (0, e.1), (0, e.2.1)] [])
set_option maxHeartbeats 4000000 in
set_option maxRecDepth 20000 in
theorem e_X11_number_55 (σ : Mem) (x1 x2 x4 s0 : Int)  {q : ((Int × Int × Mem) ⊕ ((Int × Int × Mem)))} (h : f_X11_number_55 σ x1 x2 x4 s0 = some q) {r : Option V × Mem × Mem} (K : K_X11_number_17 x1 x2 r q) : Ev M_X11_number 210 210 r 55 210 rho σ [(2, (173 : Int)), (0, x1), (0, x2), (9, 0), (0, x4)] [(0, s0)] := by
  unfold f_X11_number_55 at h
  refine ev_istore_n dX11_number_55 rfl (by decide) ?_
  show Ev _ _ _ _ 56 _ _ _ [(2, (173 : Int)), (0, x1), (0, x2), (0, s0), (0, x4)] _
  refine ev_iincG dX11_number_56 rfl h rfl (fun v5 h => ?_)
  show Ev _ _ _ _ 59 _ _ _ [(2, (173 : Int)), (0, x1), (0, x2), (0, s0), (0, v5)] _
  refine ev_aload_n dX11_number_59 rfl (by decide) ?_
  refine ev_dup dX11_number_60 (show (2 : Nat) ≠ 1 by decide) ?_
  refine ev_getf (j := 10) (t := 0) (x := (σ (173 : Int) 10)) dX11_number_61 cf_X11 wf_X11_209 sp173 (by decide) (by decide) rfl (by decide) rfl ?_
  refine ev_iconst dX11_number_64 (by decide) ?_
  refine ev_iadd dX11_number_65 ?_
  refine ev_putfG (j := 10) (t := 0) dX11_number_66 cf_X11 wf_X11_209 sp173 (by decide) (by decide) rfl (by decide) (by decide) rfl (fun z => absurd z (by decide +kernel)) h (fun σ6 h => ?_)
  refine ev_goto (tgt := 17) dX11_number_69 rfl ?_
  obtain rfl := Option.some.inj h
  exact ev_sub (L2 := [(2, (173 : Int)), (0, x1), (0, x2), (0, s0), (0, v5)]) K ⟨.inr rfl, .inr rfl, .inr rfl, .inr rfl, .inr rfl, trivial⟩
set_option maxHeartbeats 4000000 in
set_option maxRecDepth 20000 in
theorem e_X11_number_99 (σ : Mem) (x3 : Int)  {q : Mem} (h : f_X11_number_99 σ x3 = some q) : Ev M_X11_number 210 210 (none, rho, q) 99 210 rho σ [(2, (173 : Int)), (9, 0), (9, 0), (0, x3), (9, 0)] [] := by
  unfold f_X11_number_99 at h
  refine ev_aload_n dX11_number_99 rfl (by decide) ?_
  refine ev_iload_n dX11_number_100 rfl ?_
  refine ev_putfG (j := 12) (t := 0) dX11_number_101 cf_X11 wf_X11_230 sp173 (by decide) (by decide) rfl (by decide) (by decide) rfl (fun z => absurd z (by decide +kernel)) h (fun σ11 h => ?_)
  obtain rfl := Option.some.inj h
  exact ev_vret dX11_number_104 rfl rfl
set_option maxHeartbeats 4000000 in
set_option maxRecDepth 20000 in
theorem e_X11_number_95 (σ : Mem) (x3 : Int)  {q : Mem} (h : f_X11_number_95 σ x3 = some q) : Ev M_X11_number 210 210 (none, rho, q) 95 210 rho σ [(2, (173 : Int)), (9, 0), (9, 0), (0, x3), (9, 0)] [] := by
  unfold f_X11_number_95 at h
  refine ev_aload_n dX11_number_95 rfl (by decide) ?_
  obtain ⟨σ9, hc10, h⟩ := bind_of h
  refine ev_invV_n (k := (173 : Int)) (av := []) (st := []) (τ := σ9) dX11_number_96 ml_X11_227 mv_X11_wrong (T := TX11) (ci := 10) rfl sp173 (by decide) (by decide) rfl ⟨Nat.le_of_ble_eq_true rfl, Nat.le_of_ble_eq_true rfl⟩ (Nat.le_of_ble_eq_true rfl) (c_X11_wrong hc10) ?_
  exact ev_sub (L2 := [(2, (173 : Int)), (9, 0), (9, 0), (0, x3), (9, 0)]) (e_X11_number_99 σ9 x3 h) ⟨.inr rfl, .inl rfl, .inl rfl, .inr rfl, .inl rfl, trivial⟩
set_option maxHeartbeats 4000000 in
set_option maxRecDepth 20000 in
theorem e_X11_number_72 (σ : Mem) (x1 x2 x3 x4 : Int)  {q : Mem} (h : f_X11_number_72 σ x1 x2 x3 x4 = some q) : Ev M_X11_number 210 210 (none, rho, q) 72 210 rho σ [(2, (173 : Int)), (0, x1), (0, x2), (0, x3), (0, x4)] [] := by
  unfold f_X11_number_72 at h
  refine ev_iload dX11_number_72 rfl ?_
  refine ev_if_eq (tgt := 95) dX11_number_74 rfl h (fun cb h => ?_) (fun cb h => ?_)
  · exact ev_sub (L2 := [(2, (173 : Int)), (9, 0), (9, 0), (0, x3), (9, 0)]) (e_X11_number_95 σ x3 h) ⟨.inr rfl, .inl rfl, .inl rfl, .inr rfl, .inl rfl, trivial⟩
  refine ev_iload dX11_number_77 rfl ?_
  refine ev_iconst dX11_number_79 (by decide) ?_
  refine ev_icmp_gt (tgt := 95) dX11_number_80 rfl h (fun cb h => ?_) (fun cb h => ?_)
  · exact ev_sub (L2 := [(2, (173 : Int)), (9, 0), (9, 0), (0, x3), (9, 0)]) (e_X11_number_95 σ x3 h) ⟨.inr rfl, .inl rfl, .inl rfl, .inr rfl, .inl rfl, trivial⟩
  refine ev_iload_n dX11_number_83 rfl ?_
  refine ev_i2lk dX11_number_84 ?_
  refine ev_iload_n dX11_number_85 rfl ?_
  refine ev_i2lk dX11_number_86 ?_
  refine ev_iload_n dX11_number_87 rfl ?_
  refine ev_i2lk dX11_number_88 ?_
  obtain ⟨v7, hc8, h⟩ := bind_of h
  refine ev_invS_v (av := [(1, x3), (1, x1), (1, x2)]) (st := []) (v := (0, v7)) (τ := σ) dX11_number_89 ml_X11_120 mt_X11_isIn rfl ⟨Nat.le_of_ble_eq_true rfl, Nat.le_of_ble_eq_true rfl⟩ (Nat.le_of_ble_eq_true rfl) (c_X11_isIn hc8) ?_
  refine ev_if_ne (tgt := 99) dX11_number_92 rfl h (fun cb h => ?_) (fun cb h => ?_)
  · exact ev_sub (L2 := [(2, (173 : Int)), (9, 0), (9, 0), (0, x3), (9, 0)]) (e_X11_number_99 σ x3 h) ⟨.inr rfl, .inl rfl, .inl rfl, .inr rfl, .inl rfl, trivial⟩
  exact ev_sub (L2 := [(2, (173 : Int)), (9, 0), (9, 0), (0, x3), (9, 0)]) (e_X11_number_95 σ x3 h) ⟨.inr rfl, .inl rfl, .inl rfl, .inr rfl, .inl rfl, trivial⟩
set_option maxHeartbeats 4000000 in
set_option maxRecDepth 20000 in
theorem b_X11_number_17 (x1 x2 : Int)  {r : Option V × Mem × Mem} : ∀ a x, f_X11_number_17B x1 x2 a = some x → K_X11_number_17 x1 x2 r x → K_X11_number_17 x1 x2 r (.inl a) := by
  intro a x h K
  obtain ⟨x3, x4, σ⟩ := a
  have h : f_X11_number_17C x1 x2 x3 x4 σ = some x := h
  unfold f_X11_number_17C at h
  show Ev M_X11_number 210 210 r 17 210 rho σ [(2, (173 : Int)), (0, x1), (0, x2), (0, x3), (0, x4)] []
  refine ev_aload_n dX11_number_17 rfl (by decide) ?_
  refine ev_aload_n dX11_number_18 rfl (by decide) ?_
  refine ev_getf (j := 10) (t := 0) (x := (σ (173 : Int) 10)) dX11_number_19 cf_X11 wf_X11_209 sp173 (by decide) (by decide) rfl (by decide) rfl ?_
  obtain ⟨v3, hc4, h⟩ := bind_of h
  refine ev_invV_v (k := (173 : Int)) (av := [(0, (σ (173 : Int) 10))]) (st := []) (v := (0, v3)) (τ := σ) dX11_number_22 ml_X11_224 mv_X11_isFigure (T := TX11) (ci := 10) rfl sp173 (by decide) (by decide) rfl ⟨Nat.le_of_ble_eq_true rfl, Nat.le_of_ble_eq_true rfl⟩ (Nat.le_of_ble_eq_true rfl) (c_X11_isFigure hc4) ?_
  refine ev_if_eq (tgt := 72) dX11_number_25 rfl h (fun cb h => ?_) (fun cb h => ?_)
  · obtain rfl := Option.some.inj h
    exact ev_sub (L2 := [(2, (173 : Int)), (0, x1), (0, x2), (0, x3), (0, x4)]) K ⟨.inr rfl, .inr rfl, .inr rfl, .inr rfl, .inr rfl, trivial⟩
  refine ev_iload dX11_number_28 rfl ?_
  refine ev_iconst dX11_number_30 (by decide) ?_
  refine ev_icmp_ge (tgt := 54) dX11_number_31 rfl h (fun cb h => ?_) (fun cb h => ?_)
  · refine ev_iload_n dX11_number_54 rfl ?_
    exact ev_sub (L2 := [(2, (173 : Int)), (0, x1), (0, x2), (9, 0), (0, x4)]) (e_X11_number_55 σ x1 x2 x4 x3 h K) ⟨.inr rfl, .inr rfl, .inr rfl, .inl rfl, .inr rfl, trivial⟩
  refine ev_bipush dX11_number_34 (by decide) (by decide) ?_
  refine ev_iload_n dX11_number_36 rfl ?_
  refine ev_imul dX11_number_37 ?_
  refine ev_aload_n dX11_number_38 rfl (by decide) ?_
  refine ev_getf (j := 8) (t := 2) (x := (181 : Int)) dX11_number_39 cf_X11 wf_X11_32 sp173 (by decide) (by decide) rfl (by decide) (rp173_8 _) ?_
  refine ev_aload_n dX11_number_42 rfl (by decide) ?_
  refine ev_getf (j := 10) (t := 0) (x := (σ (173 : Int) 10)) dX11_number_43 cf_X11 wf_X11_209 sp173 (by decide) (by decide) rfl (by decide) rfl ?_
  refine ev_iald dX11_number_46 sp181 (by decide) (by decide) h (fun h => ?_)
  refine ev_iadd dX11_number_47 ?_
  refine ev_bipush dX11_number_48 (by decide) (by decide) ?_
  refine ev_isub dX11_number_50 ?_
  show Ev _ _ _ _ 51 _ _ _ _ _
  refine ev_goto (tgt := 55) dX11_number_51 rfl ?_
  exact ev_sub (L2 := [(2, (173 : Int)), (0, x1), (0, x2), (9, 0), (0, x4)]) (e_X11_number_55 σ x1 x2 x4 (jsub (jadd (jmul (10 : Int) x3) (σ (181 : Int) (σ (173 : Int) 10))) (48 : Int)) h K) ⟨.inr rfl, .inr rfl, .inr rfl, .inl rfl, .inr rfl, trivial⟩
set_option maxHeartbeats 4000000 in
set_option maxRecDepth 20000 in
theorem e_X11_number_17 (σ : Mem) (x1 x2 x3 x4 : Int)  {q : Mem} (h : f_X11_number_17 σ x1 x2 x3 x4 = some q) : Ev M_X11_number 210 210 (none, rho, q) 17 210 rho σ [(2, (173 : Int)), (0, x1), (0, x2), (0, x3), (0, x4)] [] := by
  unfold f_X11_number_17 at h
  obtain ⟨e, hl, h⟩ := bind_of h
  refine loop_ev (K := K_X11_number_17 x1 x2 (none, rho, q)) (b_X11_number_17 x1 x2) FU (x3, x4, σ) e hl ?_
  show Ev M_X11_number 210 210 _ 72 210 rho e.2.2 [(2, (173 : Int)), (0, x1), (0, x2), (0, e.1), (0, e.2.1)] []
  replace h : f_X11_number_72 e.2.2 x1 x2 e.1 e.2.1 = some q := h
  exact ev_sub (L2 := [(2, (173 : Int)), (0, x1), (0, x2), (0, e.1), (0, e.2.1)]) (e_X11_number_72 e.2.2 x1 x2 e.1 e.2.1 h) ⟨.inr rfl, .inr rfl, .inr rfl, .inr rfl, .inr rfl, trivial⟩
set_option maxHeartbeats 4000000 in
set_option maxRecDepth 20000 in
theorem c_X11_number {σ : Mem} {x1 x2 : Int}  {q : Mem} (h : f_X11_number σ x1 x2 = some q) : Ms yX11_number M_X11_number 210 210 [(2, (173 : Int)), (0, x1), (0, x2)] rho σ (none, rho, q) := by
  refine Ms.of 2 (by decide +kernel) rfl (fun z => absurd z (by decide)) (fun _ _ _ => trivial) rfl rfl ?_
  unfold f_X11_number at h
  show Ev M_X11_number 210 210 _ 0 210 rho σ [(2, (173 : Int)), (0, x1), (0, x2), (9, 0), (9, 0)] []
  refine ev_aload_n dX11_number_0 rfl (by decide) ?_
  refine ev_getf (j := 13) (t := 0) (x := (σ (173 : Int) 13)) dX11_number_1 cf_X11 wf_X11_215 sp173 (by decide) (by decide) rfl (by decide) rfl ?_
  refine ev_if_lt (tgt := 8) dX11_number_4 rfl h (fun cb h => ?_) (fun cb h => ?_)
  · refine ev_aload_n dX11_number_8 rfl (by decide) ?_
    obtain ⟨σ1, hc2, h⟩ := bind_of h
    refine ev_invV_n (k := (173 : Int)) (av := []) (st := []) (τ := σ1) dX11_number_9 ml_X11_218 mv_X11_blanks (T := TX11) (ci := 10) rfl sp173 (by decide) (by decide) rfl ⟨Nat.le_of_ble_eq_true rfl, Nat.le_of_ble_eq_true rfl⟩ (Nat.le_of_ble_eq_true rfl) (c_X11_blanks hc2) ?_
    refine ev_iconst dX11_number_12 (by decide) ?_
    refine ev_istore_n dX11_number_13 rfl (by decide) ?_
    show Ev _ _ _ _ 14 _ _ _ [(2, (173 : Int)), (0, x1), (0, x2), (0, (0 : Int)), (9, 0)] _
    refine ev_iconst dX11_number_14 (by decide) ?_
    refine ev_istore dX11_number_15 rfl (by decide) ?_
    show Ev _ _ _ _ 17 _ _ _ [(2, (173 : Int)), (0, x1), (0, x2), (0, (0 : Int)), (0, (0 : Int))] _
    exact ev_sub (L2 := [(2, (173 : Int)), (0, x1), (0, x2), (0, (0 : Int)), (0, (0 : Int))]) (e_X11_number_17 σ1 x1 x2 (0 : Int) (0 : Int) h) ⟨.inr rfl, .inr rfl, .inr rfl, .inr rfl, .inr rfl, trivial⟩
  obtain rfl := Option.some.inj h
  exact ev_vret dX11_number_7 rfl rfl
set_option maxHeartbeats 4000000 in
set_option maxRecDepth 20000 in
theorem e_X11_statement_85 (σ : Mem)  {q : Mem} (h : f_X11_statement_85 σ  = some q) : Ev M_X11_statement 210 210 (none, rho, q) 85 210 rho σ [(2, (173 : Int)), (9, 0), (9, 0), (9, 0), (9, 0)] [] := by
  unfold f_X11_statement_85 at h
  refine ev_aload_n dX11_statement_85 rfl (by decide) ?_
  obtain ⟨σ4, hc5, h⟩ := bind_of h
  refine ev_invV_n (k := (173 : Int)) (av := []) (st := []) (τ := σ4) dX11_statement_86 ml_X11_227 mv_X11_wrong (T := TX11) (ci := 10) rfl sp173 (by decide) (by decide) rfl ⟨Nat.le_of_ble_eq_true rfl, Nat.le_of_ble_eq_true rfl⟩ (Nat.le_of_ble_eq_true rfl) (c_X11_wrong hc5) ?_
  obtain rfl := Option.some.inj h
  exact ev_vret dX11_statement_89 rfl rfl
set_option maxHeartbeats 4000000 in
set_option maxRecDepth 20000 in
theorem e_X11_statement_221 (σ : Mem)  {q : Mem} (h : f_X11_statement_221 σ  = some q) : Ev M_X11_statement 210 210 (none, rho, q) 221 210 rho σ [(9, 0), (9, 0), (9, 0), (9, 0), (9, 0)] [] := by
  unfold f_X11_statement_221 at h
  refine ev_goto (tgt := 438) dX11_statement_221 rfl ?_
  obtain rfl := Option.some.inj h
  exact ev_vret dX11_statement_438 rfl rfl
set_option maxHeartbeats 4000000 in
set_option maxRecDepth 20000 in
theorem e_X11_statement_334 (σ : Mem) (x3 s1 s0 : Int)  {q : Mem} (h : f_X11_statement_334 σ x3 s1 s0 = some q) : Ev M_X11_statement 210 210 (none, rho, q) 334 210 rho σ [(2, (173 : Int)), (9, 0), (9, 0), (0, x3), (9, 0)] [(0, s1), (0, s0)] := by
  unfold f_X11_statement_334 at h
  refine ev_icmp_eq (tgt := 438) dX11_statement_334 rfl h (fun cb h => ?_) (fun cb h => ?_)
  · obtain rfl := Option.some.inj h
    exact ev_vret dX11_statement_438 rfl rfl
  refine ev_aload_n dX11_statement_337 rfl (by decide) ?_
  refine ev_iload_n dX11_statement_338 rfl ?_
  refine ev_aload_n dX11_statement_339 rfl (by decide) ?_
  refine ev_getf (j := 12) (t := 0) (x := (σ (173 : Int) 12)) dX11_statement_340 cf_X11 wf_X11_230 sp173 (by decide) (by decide) rfl (by decide) rfl ?_
  obtain ⟨σ29, hc30, h⟩ := bind_of h
  refine ev_invV_n (k := (173 : Int)) (av := [(0, x3), (0, (σ (173 : Int) 12))]) (st := []) (τ := σ29) dX11_statement_343 ml_X11_197 mv_X11_toggles (T := TX11) (ci := 10) rfl sp173 (by decide) (by decide) rfl ⟨Nat.le_of_ble_eq_true rfl, Nat.le_of_ble_eq_true rfl⟩ (Nat.le_of_ble_eq_true rfl) (c_X11_toggles hc30) ?_
  refine ev_goto (tgt := 438) dX11_statement_346 rfl ?_
  obtain rfl := Option.some.inj h
  exact ev_vret dX11_statement_438 rfl rfl
set_option maxHeartbeats 4000000 in
set_option maxRecDepth 20000 in
theorem e_X11_statement_308 (σ : Mem) (x1 x3 : Int)  {q : Mem} (h : f_X11_statement_308 σ x1 x3 = some q) : Ev M_X11_statement 210 210 (none, rho, q) 308 210 rho σ [(2, (173 : Int)), (0, x1), (9, 0), (0, x3), (9, 0)] [] := by
  unfold f_X11_statement_308 at h
  refine ev_aload_n dX11_statement_308 rfl (by decide) ?_
  refine ev_getf (j := 13) (t := 0) (x := (σ (173 : Int) 13)) dX11_statement_309 cf_X11 wf_X11_215 sp173 (by decide) (by decide) rfl (by decide) rfl ?_
  refine ev_if_ge (tgt := 438) dX11_statement_312 rfl h (fun cb h => ?_) (fun cb h => ?_)
  · obtain rfl := Option.some.inj h
    exact ev_vret dX11_statement_438 rfl rfl
  refine ev_aload_n dX11_statement_315 rfl (by decide) ?_
  refine ev_iload_n dX11_statement_316 rfl ?_
  refine ev_aload_n dX11_statement_317 rfl (by decide) ?_
  refine ev_getf (j := 12) (t := 0) (x := (σ (173 : Int) 12)) dX11_statement_318 cf_X11 wf_X11_230 sp173 (by decide) (by decide) rfl (by decide) rfl ?_
  obtain ⟨v26, hc27, h⟩ := bind_of h
  refine ev_invV_v (k := (173 : Int)) (av := [(0, x3), (0, (σ (173 : Int) 12))]) (st := []) (v := (0, v26)) (τ := σ) dX11_statement_321 ml_X11_182 mv_X11_has (T := TX11) (ci := 10) rfl sp173 (by decide) (by decide) rfl ⟨Nat.le_of_ble_eq_true rfl, Nat.le_of_ble_eq_true rfl⟩ (Nat.le_of_ble_eq_true rfl) (c_X11_has hc27) ?_
  refine ev_iload_n dX11_statement_324 rfl ?_
  refine ev_iconst dX11_statement_325 (by decide) ?_
  refine ev_icmp_ne (tgt := 333) dX11_statement_326 rfl h (fun cb h => ?_) (fun cb h => ?_)
  · refine ev_iconst dX11_statement_333 (by decide) ?_
    exact ev_sub (L2 := [(2, (173 : Int)), (9, 0), (9, 0), (0, x3), (9, 0)]) (e_X11_statement_334 σ x3 (0 : Int) v26 h) ⟨.inr rfl, .inl rfl, .inl rfl, .inr rfl, .inl rfl, trivial⟩
  refine ev_iconst dX11_statement_329 (by decide) ?_
  refine ev_goto (tgt := 334) dX11_statement_330 rfl ?_
  exact ev_sub (L2 := [(2, (173 : Int)), (9, 0), (9, 0), (0, x3), (9, 0)]) (e_X11_statement_334 σ x3 (1 : Int) v26 h) ⟨.inr rfl, .inl rfl, .inl rfl, .inr rfl, .inl rfl, trivial⟩
set_option maxHeartbeats 4000000 in
set_option maxRecDepth 20000 in
theorem e_X11_statement_266 (σ : Mem) (x1 x3 : Int)  {q : Mem} (h : f_X11_statement_266 σ x1 x3 = some q) : Ev M_X11_statement 210 210 (none, rho, q) 266 210 rho σ [(2, (173 : Int)), (0, x1), (9, 0), (0, x3), (9, 0)] [] := by
  unfold f_X11_statement_266 at h
  refine ev_aload_n dX11_statement_266 rfl (by decide) ?_
  refine ev_iconst dX11_statement_267 (by decide) ?_
  refine ev_aload_n dX11_statement_268 rfl (by decide) ?_
  refine ev_getf (j := 0) (t := 2) (x := (174 : Int)) dX11_statement_269 cf_X11 wf_X11_7 sp173 (by decide) (by decide) rfl (by decide) (rp173_0 _) ?_
  refine ev_bipush dX11_statement_272 (by decide) (by decide) ?_
  refine ev_iald dX11_statement_274 sp174 (by decide) (by decide) h (fun h => ?_)
  refine ev_iconst dX11_statement_275 (by decide) ?_
  refine ev_isub dX11_statement_276 ?_
  obtain ⟨σ20, hc21, h⟩ := bind_of h
  refine ev_invV_n (k := (173 : Int)) (av := [(0, (0 : Int)), (0, (jsub (σ (174 : Int) (82 : Int)) (1 : Int)))]) (st := []) (τ := σ20) dX11_statement_277 ml_X11_237 mv_X11_number (T := TX11) (ci := 10) rfl sp173 (by decide) (by decide) rfl ⟨Nat.le_of_ble_eq_true rfl, Nat.le_of_ble_eq_true rfl⟩ (Nat.le_of_ble_eq_true rfl) (c_X11_number hc21) ?_
  refine ev_aload_n dX11_statement_280 rfl (by decide) ?_
  refine ev_getf (j := 13) (t := 0) (x := (σ20 (173 : Int) 13)) dX11_statement_281 cf_X11 wf_X11_215 sp173 (by decide) (by decide) rfl (by decide) rfl ?_
  show Ev _ _ _ _ 284 _ _ _ _ _
  refine ev_if_ge (tgt := 308) dX11_statement_284 rfl h (fun cb h => ?_) (fun cb h => ?_)
  · exact ev_sub (L2 := [(2, (173 : Int)), (0, x1), (9, 0), (0, x3), (9, 0)]) (e_X11_statement_308 σ20 x1 x3 h) ⟨.inr rfl, .inr rfl, .inl rfl, .inr rfl, .inl rfl, trivial⟩
  refine ev_iload_n dX11_statement_287 rfl ?_
  refine ev_iconst dX11_statement_288 (by decide) ?_
  refine ev_icmp_ne (tgt := 308) dX11_statement_289 rfl h (fun cb h => ?_) (fun cb h => ?_)
  · exact ev_sub (L2 := [(2, (173 : Int)), (0, x1), (9, 0), (0, x3), (9, 0)]) (e_X11_statement_308 σ20 x1 x3 h) ⟨.inr rfl, .inr rfl, .inl rfl, .inr rfl, .inl rfl, trivial⟩
  refine ev_aload_n dX11_statement_292 rfl (by decide) ?_
  refine ev_iload_n dX11_statement_293 rfl ?_
  refine ev_aload_n dX11_statement_294 rfl (by decide) ?_
  refine ev_getf (j := 12) (t := 0) (x := (σ20 (173 : Int) 12)) dX11_statement_295 cf_X11 wf_X11_230 sp173 (by decide) (by decide) rfl (by decide) rfl ?_
  obtain ⟨v22, hc23, h⟩ := bind_of h
  refine ev_invV_v (k := (173 : Int)) (av := [(0, x3), (0, (σ20 (173 : Int) 12))]) (st := []) (v := (0, v22)) (τ := σ20) dX11_statement_298 ml_X11_194 mv_X11_isFifth (T := TX11) (ci := 10) rfl sp173 (by decide) (by decide) rfl ⟨Nat.le_of_ble_eq_true rfl, Nat.le_of_ble_eq_true rfl⟩ (Nat.le_of_ble_eq_true rfl) (c_X11_isFifth hc23) ?_
  refine ev_if_eq (tgt := 308) dX11_statement_301 rfl h (fun cb h => ?_) (fun cb h => ?_)
  · exact ev_sub (L2 := [(2, (173 : Int)), (0, x1), (9, 0), (0, x3), (9, 0)]) (e_X11_statement_308 σ20 x1 x3 h) ⟨.inr rfl, .inr rfl, .inl rfl, .inr rfl, .inl rfl, trivial⟩
  refine ev_aload_n dX11_statement_304 rfl (by decide) ?_
  obtain ⟨σ24, hc25, h⟩ := bind_of h
  refine ev_invV_n (k := (173 : Int)) (av := []) (st := []) (τ := σ24) dX11_statement_305 ml_X11_227 mv_X11_wrong (T := TX11) (ci := 10) rfl sp173 (by decide) (by decide) rfl ⟨Nat.le_of_ble_eq_true rfl, Nat.le_of_ble_eq_true rfl⟩ (Nat.le_of_ble_eq_true rfl) (c_X11_wrong hc25) ?_
  exact ev_sub (L2 := [(2, (173 : Int)), (0, x1), (9, 0), (0, x3), (9, 0)]) (e_X11_statement_308 σ24 x1 x3 h) ⟨.inr rfl, .inr rfl, .inl rfl, .inr rfl, .inl rfl, trivial⟩
set_option maxHeartbeats 4000000 in
set_option maxRecDepth 20000 in
theorem e_X11_statement_436 (σ : Mem) (s3 s2 s1 : Int)  {q : Mem} (h : f_X11_statement_436 σ s3 s2 s1 = some q) : Ev M_X11_statement 210 210 (none, rho, q) 436 210 rho σ [(9, 0), (9, 0), (9, 0), (9, 0), (9, 0)] [(0, s3), (0, s2), (0, s1), (2, (174 : Int))] := by
  unfold f_X11_statement_436 at h
  refine ev_iadd dX11_statement_436 ?_
  refine ev_iastG dX11_statement_437 sp174 (by decide) (by decide) h (fun σ31 h => ?_)
  obtain rfl := Option.some.inj h
  exact ev_vret dX11_statement_438 rfl rfl
set_option maxHeartbeats 4000000 in
set_option maxRecDepth 20000 in
theorem e_X11_statement_417 (σ : Mem) (x1 s2 s1 : Int)  {q : Mem} (h : f_X11_statement_417 σ x1 s2 s1 = some q) : Ev M_X11_statement 210 210 (none, rho, q) 417 210 rho σ [(2, (173 : Int)), (0, x1), (9, 0), (9, 0), (9, 0)] [(0, s2), (0, s1), (2, (174 : Int))] := by
  unfold f_X11_statement_417 at h
  refine ev_iastG dX11_statement_417 sp174 (by decide) (by decide) h (fun σ28 h => ?_)
  refine ev_aload_n dX11_statement_418 rfl (by decide) ?_
  refine ev_getf (j := 0) (t := 2) (x := (174 : Int)) dX11_statement_419 cf_X11 wf_X11_7 sp173 (by decide) (by decide) rfl (by decide) (rp173_0 _) ?_
  refine ev_bipush dX11_statement_422 (by decide) (by decide) ?_
  refine ev_dup2 dX11_statement_424 (show (0 : Nat) ≠ 1 by decide) (show (2 : Nat) ≠ 1 by decide) ?_
  refine ev_iald dX11_statement_425 sp174 (by decide) (by decide) h (fun h => ?_)
  refine ev_iload_n dX11_statement_426 rfl ?_
  refine ev_iconst dX11_statement_427 (by decide) ?_
  refine ev_icmp_ne (tgt := 435) dX11_statement_428 rfl h (fun cb h => ?_) (fun cb h => ?_)
  · refine ev_iconst dX11_statement_435 (by decide) ?_
    exact ev_sub (L2 := [(9, 0), (9, 0), (9, 0), (9, 0), (9, 0)]) (e_X11_statement_436 σ28 (0 : Int) (σ28 (174 : Int) (84 : Int)) (84 : Int) h) ⟨.inl rfl, .inl rfl, .inl rfl, .inl rfl, .inl rfl, trivial⟩
  refine ev_iconst dX11_statement_431 (by decide) ?_
  refine ev_goto (tgt := 436) dX11_statement_432 rfl ?_
  exact ev_sub (L2 := [(9, 0), (9, 0), (9, 0), (9, 0), (9, 0)]) (e_X11_statement_436 σ28 (1 : Int) (σ28 (174 : Int) (84 : Int)) (84 : Int) h) ⟨.inl rfl, .inl rfl, .inl rfl, .inl rfl, .inl rfl, trivial⟩
set_option maxHeartbeats 4000000 in
set_option maxRecDepth 20000 in
theorem e_X11_statement_407 (σ : Mem) (x1 x3 s1 : Int)  {q : Mem} (h : f_X11_statement_407 σ x1 x3 s1 = some q) : Ev M_X11_statement 210 210 (none, rho, q) 407 210 rho σ [(2, (173 : Int)), (0, x1), (9, 0), (0, x3), (9, 0)] [(0, s1), (2, (174 : Int))] := by
  unfold f_X11_statement_407 at h
  refine ev_iload_n dX11_statement_407 rfl ?_
  refine ev_iconst dX11_statement_408 (by decide) ?_
  refine ev_icmp_ne (tgt := 416) dX11_statement_409 rfl h (fun cb h => ?_) (fun cb h => ?_)
  · refine ev_iload_n dX11_statement_416 rfl ?_
    exact ev_sub (L2 := [(2, (173 : Int)), (0, x1), (9, 0), (9, 0), (9, 0)]) (e_X11_statement_417 σ x1 x3 s1 h) ⟨.inr rfl, .inr rfl, .inl rfl, .inl rfl, .inl rfl, trivial⟩
  refine ev_iconst dX11_statement_412 (by decide) ?_
  refine ev_goto (tgt := 417) dX11_statement_413 rfl ?_
  exact ev_sub (L2 := [(2, (173 : Int)), (0, x1), (9, 0), (9, 0), (9, 0)]) (e_X11_statement_417 σ x1 (1 : Int) s1 h) ⟨.inr rfl, .inr rfl, .inl rfl, .inl rfl, .inl rfl, trivial⟩
set_option maxHeartbeats 4000000 in
set_option maxRecDepth 20000 in
theorem e_X11_statement_170 (σ : Mem) (x1 s2 s1 : Int)  {q : Mem} (h : f_X11_statement_170 σ x1 s2 s1 = some q) : Ev M_X11_statement 210 210 (none, rho, q) 170 210 rho σ [(2, (173 : Int)), (0, x1), (9, 0), (9, 0), (9, 0)] [(0, s2), (0, s1), (2, (173 : Int))] := by
  unfold f_X11_statement_170 at h
  obtain ⟨σ6, hc7, h⟩ := bind_of h
  refine ev_invV_n (k := (173 : Int)) (av := [(0, s1), (0, s2)]) (st := []) (τ := σ6) dX11_statement_170 ml_X11_237 mv_X11_number (T := TX11) (ci := 10) rfl sp173 (by decide) (by decide) rfl ⟨Nat.le_of_ble_eq_true rfl, Nat.le_of_ble_eq_true rfl⟩ (Nat.le_of_ble_eq_true rfl) (c_X11_number hc7) ?_
  refine ev_aload_n dX11_statement_173 rfl (by decide) ?_
  refine ev_getf (j := 12) (t := 0) (x := (σ6 (173 : Int) 12)) dX11_statement_174 cf_X11 wf_X11_230 sp173 (by decide) (by decide) rfl (by decide) rfl ?_
  refine ev_istore_nG dX11_statement_177 h rfl (by decide) (fun v8 h => ?_)
  show Ev _ _ _ _ 178 _ _ _ [(2, (173 : Int)), (0, x1), (9, 0), (0, v8), (9, 0)] _
  refine ev_iload_n dX11_statement_178 rfl ?_
  refine ev_if_ne (tgt := 224) dX11_statement_179 rfl h (fun cb h => ?_) (fun cb h => ?_)
  · refine ev_iload_n dX11_statement_224 rfl ?_
    refine ev_iconst dX11_statement_225 (by decide) ?_
    refine ev_icmp_ne (tgt := 256) dX11_statement_226 rfl h (fun cb h => ?_) (fun cb h => ?_)
    · refine ev_iload_n dX11_statement_256 rfl ?_
      refine ev_iconst dX11_statement_257 (by decide) ?_
      refine ev_icmp_eq (tgt := 266) dX11_statement_258 rfl h (fun cb h => ?_) (fun cb h => ?_)
      · exact ev_sub (L2 := [(2, (173 : Int)), (0, x1), (9, 0), (0, v8), (9, 0)]) (e_X11_statement_266 σ6 x1 v8 h) ⟨.inr rfl, .inr rfl, .inl rfl, .inr rfl, .inl rfl, trivial⟩
      refine ev_iload_n dX11_statement_261 rfl ?_
      refine ev_iconst dX11_statement_262 (by decide) ?_
      refine ev_icmp_ne (tgt := 349) dX11_statement_263 rfl h (fun cb h => ?_) (fun cb h => ?_)
      · refine ev_aload_n dX11_statement_349 rfl (by decide) ?_
        refine ev_getf (j := 13) (t := 0) (x := (σ6 (173 : Int) 13)) dX11_statement_350 cf_X11 wf_X11_215 sp173 (by decide) (by decide) rfl (by decide) rfl ?_
        refine ev_if_ge (tgt := 438) dX11_statement_353 rfl h (fun cb h => ?_) (fun cb h => ?_)
        · obtain rfl := Option.some.inj h
          exact ev_vret dX11_statement_438 rfl rfl
        refine ev_aload_n dX11_statement_356 rfl (by decide) ?_
        refine ev_getf (j := 0) (t := 2) (x := (174 : Int)) dX11_statement_357 cf_X11 wf_X11_7 sp173 (by decide) (by decide) rfl (by decide) (rp173_0 _) ?_
        refine ev_iload_n dX11_statement_360 rfl ?_
        refine ev_iconst dX11_statement_361 (by decide) ?_
        refine ev_icmp_ne (tgt := 376) dX11_statement_362 rfl h (fun cb h => ?_) (fun cb h => ?_)
        · refine ev_iload_n dX11_statement_376 rfl ?_
          refine ev_iconst dX11_statement_377 (by decide) ?_
          refine ev_icmp_ne (tgt := 394) dX11_statement_378 rfl h (fun cb h => ?_) (fun cb h => ?_)
          · refine ev_iload_n dX11_statement_394 rfl ?_
            refine ev_bipush dX11_statement_395 (by decide) (by decide) ?_
            refine ev_icmp_ne (tgt := 405) dX11_statement_397 rfl h (fun cb h => ?_) (fun cb h => ?_)
            · refine ev_bipush dX11_statement_405 (by decide) (by decide) ?_
              exact ev_sub (L2 := [(2, (173 : Int)), (0, x1), (9, 0), (0, v8), (9, 0)]) (e_X11_statement_407 σ6 x1 v8 (86 : Int) h) ⟨.inr rfl, .inr rfl, .inl rfl, .inr rfl, .inl rfl, trivial⟩
            refine ev_bipush dX11_statement_400 (by decide) (by decide) ?_
            refine ev_goto (tgt := 407) dX11_statement_402 rfl ?_
            exact ev_sub (L2 := [(2, (173 : Int)), (0, x1), (9, 0), (0, v8), (9, 0)]) (e_X11_statement_407 σ6 x1 v8 (85 : Int) h) ⟨.inr rfl, .inr rfl, .inl rfl, .inr rfl, .inl rfl, trivial⟩
          refine ev_bipush dX11_statement_381 (by decide) (by decide) ?_
          refine ev_aload_n dX11_statement_383 rfl (by decide) ?_
          refine ev_getf (j := 0) (t := 2) (x := (174 : Int)) dX11_statement_384 cf_X11 wf_X11_7 sp173 (by decide) (by decide) rfl (by decide) (rp173_0 _) ?_
          refine ev_bipush dX11_statement_387 (by decide) (by decide) ?_
          refine ev_iald dX11_statement_389 sp174 (by decide) (by decide) h (fun h => ?_)
          refine ev_iadd dX11_statement_390 ?_
          refine ev_goto (tgt := 407) dX11_statement_391 rfl ?_
          exact ev_sub (L2 := [(2, (173 : Int)), (0, x1), (9, 0), (0, v8), (9, 0)]) (e_X11_statement_407 σ6 x1 v8 (jadd (76 : Int) (σ6 (174 : Int) (84 : Int))) h) ⟨.inr rfl, .inr rfl, .inl rfl, .inr rfl, .inl rfl, trivial⟩
        refine ev_bipush dX11_statement_365 (by decide) (by decide) ?_
        refine ev_iconst dX11_statement_367 (by decide) ?_
        refine ev_iload_n dX11_statement_368 rfl ?_
        refine ev_imul dX11_statement_369 ?_
        refine ev_iadd dX11_statement_370 ?_
        refine ev_iconst dX11_statement_371 (by decide) ?_
        refine ev_iadd dX11_statement_372 ?_
        refine ev_goto (tgt := 407) dX11_statement_373 rfl ?_
        exact ev_sub (L2 := [(2, (173 : Int)), (0, x1), (9, 0), (0, v8), (9, 0)]) (e_X11_statement_407 σ6 x1 v8 (jadd (jadd (36 : Int) (jmul (4 : Int) v8)) (2 : Int)) h) ⟨.inr rfl, .inr rfl, .inl rfl, .inr rfl, .inl rfl, trivial⟩
      exact ev_sub (L2 := [(2, (173 : Int)), (0, x1), (9, 0), (0, v8), (9, 0)]) (e_X11_statement_266 σ6 x1 v8 h) ⟨.inr rfl, .inr rfl, .inl rfl, .inr rfl, .inl rfl, trivial⟩
    refine ev_aload_n dX11_statement_229 rfl (by decide) ?_
    refine ev_iconst dX11_statement_230 (by decide) ?_
    refine ev_bipush dX11_statement_231 (by decide) (by decide) ?_
    obtain ⟨σ9, hc10, h⟩ := bind_of h
    refine ev_invV_n (k := (173 : Int)) (av := [(0, (0 : Int)), (0, (9 : Int))]) (st := []) (τ := σ9) dX11_statement_233 ml_X11_237 mv_X11_number (T := TX11) (ci := 10) rfl sp173 (by decide) (by decide) rfl ⟨Nat.le_of_ble_eq_true rfl, Nat.le_of_ble_eq_true rfl⟩ (Nat.le_of_ble_eq_true rfl) (c_X11_number hc10) ?_
    refine ev_aload_n dX11_statement_236 rfl (by decide) ?_
    refine ev_getf (j := 13) (t := 0) (x := (σ9 (173 : Int) 13)) dX11_statement_237 cf_X11 wf_X11_215 sp173 (by decide) (by decide) rfl (by decide) rfl ?_
    refine ev_if_ge (tgt := 438) dX11_statement_240 rfl h (fun cb h => ?_) (fun cb h => ?_)
    · obtain rfl := Option.some.inj h
      exact ev_vret dX11_statement_438 rfl rfl
    refine ev_aload_n dX11_statement_243 rfl (by decide) ?_
    refine ev_iload_n dX11_statement_244 rfl ?_
    refine ev_aload_n dX11_statement_245 rfl (by decide) ?_
    refine ev_getf (j := 12) (t := 0) (x := (σ9 (173 : Int) 12)) dX11_statement_246 cf_X11 wf_X11_230 sp173 (by decide) (by decide) rfl (by decide) rfl ?_
    obtain ⟨v11, hc12, h⟩ := bind_of h
    refine ev_invV_v (k := (173 : Int)) (av := [(0, v8), (0, (σ9 (173 : Int) 12))]) (st := []) (v := (0, v11.1)) (τ := v11.2) dX11_statement_249 ml_X11_242 mv_X11_cand (T := TX11) (ci := 10) rfl sp173 (by decide) (by decide) rfl ⟨Nat.le_of_ble_eq_true rfl, Nat.le_of_ble_eq_true rfl⟩ (Nat.le_of_ble_eq_true rfl) (c_X11_cand hc12) ?_
    refine ev_pop dX11_statement_252 (show (0 : Nat) ≠ 1 by decide) ?_
    refine ev_goto (tgt := 438) dX11_statement_253 rfl ?_
    obtain rfl := Option.some.inj h
    exact ev_vret dX11_statement_438 rfl rfl
  refine ev_aload_n dX11_statement_182 rfl (by decide) ?_
  refine ev_iconst dX11_statement_183 (by decide) ?_
  refine ev_bipush dX11_statement_184 (by decide) (by decide) ?_
  obtain ⟨σ13, hc14, h⟩ := bind_of h
  refine ev_invV_n (k := (173 : Int)) (av := [(0, (0 : Int)), (0, (47 : Int))]) (st := []) (τ := σ13) dX11_statement_186 ml_X11_237 mv_X11_number (T := TX11) (ci := 10) rfl sp173 (by decide) (by decide) rfl ⟨Nat.le_of_ble_eq_true rfl, Nat.le_of_ble_eq_true rfl⟩ (Nat.le_of_ble_eq_true rfl) (c_X11_number hc14) ?_
  refine ev_aload_n dX11_statement_189 rfl (by decide) ?_
  refine ev_getf (j := 12) (t := 0) (x := (σ13 (173 : Int) 12)) dX11_statement_190 cf_X11 wf_X11_230 sp173 (by decide) (by decide) rfl (by decide) rfl ?_
  refine ev_istoreG dX11_statement_193 h rfl (by decide) (fun v15 h => ?_)
  show Ev _ _ _ _ 195 _ _ _ [(2, (173 : Int)), (0, x1), (9, 0), (0, v8), (0, v15)] _
  refine ev_aload_n dX11_statement_195 rfl (by decide) ?_
  refine ev_iconst dX11_statement_196 (by decide) ?_
  refine ev_bipush dX11_statement_197 (by decide) (by decide) ?_
  obtain ⟨σ16, hc17, h⟩ := bind_of h
  refine ev_invV_n (k := (173 : Int)) (av := [(0, (1 : Int)), (0, (12 : Int))]) (st := []) (τ := σ16) dX11_statement_199 ml_X11_237 mv_X11_number (T := TX11) (ci := 10) rfl sp173 (by decide) (by decide) rfl ⟨Nat.le_of_ble_eq_true rfl, Nat.le_of_ble_eq_true rfl⟩ (Nat.le_of_ble_eq_true rfl) (c_X11_number hc17) ?_
  show Ev _ _ _ _ 202 _ _ _ _ _
  refine ev_aload_n dX11_statement_202 rfl (by decide) ?_
  refine ev_getf (j := 13) (t := 0) (x := (σ16 (173 : Int) 13)) dX11_statement_203 cf_X11 wf_X11_215 sp173 (by decide) (by decide) rfl (by decide) rfl ?_
  refine ev_if_ge (tgt := 221) dX11_statement_206 rfl h (fun cb h => ?_) (fun cb h => ?_)
  · exact ev_sub (L2 := [(9, 0), (9, 0), (9, 0), (9, 0), (9, 0)]) (e_X11_statement_221 σ16 h) ⟨.inl rfl, .inl rfl, .inl rfl, .inl rfl, .inl rfl, trivial⟩
  refine ev_aload_n dX11_statement_209 rfl (by decide) ?_
  refine ev_iload_n dX11_statement_210 rfl ?_
  refine ev_iload dX11_statement_211 rfl ?_
  refine ev_aload_n dX11_statement_213 rfl (by decide) ?_
  refine ev_getf (j := 12) (t := 0) (x := (σ16 (173 : Int) 12)) dX11_statement_214 cf_X11 wf_X11_230 sp173 (by decide) (by decide) rfl (by decide) rfl ?_
  obtain ⟨v18, hc19, h⟩ := bind_of h
  refine ev_invV_v (k := (173 : Int)) (av := [(0, v8), (0, v15), (0, (σ16 (173 : Int) 12))]) (st := []) (v := (0, v18.1)) (τ := v18.2) dX11_statement_217 ml_X11_239 mv_X11_paper (T := TX11) (ci := 10) rfl sp173 (by decide) (by decide) rfl ⟨Nat.le_of_ble_eq_true rfl, Nat.le_of_ble_eq_true rfl⟩ (Nat.le_of_ble_eq_true rfl) (c_X11_paper hc19) ?_
  refine ev_pop dX11_statement_220 (show (0 : Nat) ≠ 1 by decide) ?_
  exact ev_sub (L2 := [(9, 0), (9, 0), (9, 0), (9, 0), (9, 0)]) (e_X11_statement_221 v18.2 h) ⟨.inl rfl, .inl rfl, .inl rfl, .inl rfl, .inl rfl, trivial⟩
set_option maxHeartbeats 4000000 in
set_option maxRecDepth 20000 in
theorem e_X11_statement_112 (σ : Mem) (x1 s1 : Int)  {q : Mem} (h : f_X11_statement_112 σ x1 s1 = some q) : Ev M_X11_statement 210 210 (none, rho, q) 112 210 rho σ [(2, (173 : Int)), (0, x1), (9, 0), (9, 0), (9, 0)] [(0, s1), (2, (173 : Int))] := by
  unfold f_X11_statement_112 at h
  refine ev_iload_n dX11_statement_112 rfl ?_
  refine ev_if_ne (tgt := 120) dX11_statement_113 rfl h (fun cb h => ?_) (fun cb h => ?_)
  · refine ev_iload_n dX11_statement_120 rfl ?_
    refine ev_iconst dX11_statement_121 (by decide) ?_
    refine ev_icmp_ne (tgt := 129) dX11_statement_122 rfl h (fun cb h => ?_) (fun cb h => ?_)
    · refine ev_iload_n dX11_statement_129 rfl ?_
      refine ev_iconst dX11_statement_130 (by decide) ?_
      refine ev_icmp_ne (tgt := 139) dX11_statement_131 rfl h (fun cb h => ?_) (fun cb h => ?_)
      · refine ev_iload_n dX11_statement_139 rfl ?_
        refine ev_bipush dX11_statement_140 (by decide) (by decide) ?_
        refine ev_icmp_ne (tgt := 150) dX11_statement_142 rfl h (fun cb h => ?_) (fun cb h => ?_)
        · refine ev_iload_n dX11_statement_150 rfl ?_
          refine ev_bipush dX11_statement_151 (by decide) (by decide) ?_
          refine ev_icmp_ne (tgt := 161) dX11_statement_153 rfl h (fun cb h => ?_) (fun cb h => ?_)
          · refine ev_aload_n dX11_statement_161 rfl (by decide) ?_
            refine ev_getf (j := 0) (t := 2) (x := (174 : Int)) dX11_statement_162 cf_X11 wf_X11_7 sp173 (by decide) (by decide) rfl (by decide) (rp173_0 _) ?_
            refine ev_bipush dX11_statement_165 (by decide) (by decide) ?_
            refine ev_iald dX11_statement_167 sp174 (by decide) (by decide) h (fun h => ?_)
            refine ev_iconst dX11_statement_168 (by decide) ?_
            refine ev_isub dX11_statement_169 ?_
            exact ev_sub (L2 := [(2, (173 : Int)), (0, x1), (9, 0), (9, 0), (9, 0)]) (e_X11_statement_170 σ x1 (jsub (σ (174 : Int) (83 : Int)) (1 : Int)) s1 h) ⟨.inr rfl, .inr rfl, .inl rfl, .inl rfl, .inl rfl, trivial⟩
          refine ev_bipush dX11_statement_156 (by decide) (by decide) ?_
          refine ev_goto (tgt := 170) dX11_statement_158 rfl ?_
          exact ev_sub (L2 := [(2, (173 : Int)), (0, x1), (9, 0), (9, 0), (9, 0)]) (e_X11_statement_170 σ x1 (8 : Int) s1 h) ⟨.inr rfl, .inr rfl, .inl rfl, .inl rfl, .inl rfl, trivial⟩
        refine ev_bipush dX11_statement_145 (by decide) (by decide) ?_
        refine ev_goto (tgt := 170) dX11_statement_147 rfl ?_
        exact ev_sub (L2 := [(2, (173 : Int)), (0, x1), (9, 0), (9, 0), (9, 0)]) (e_X11_statement_170 σ x1 (40 : Int) s1 h) ⟨.inr rfl, .inr rfl, .inl rfl, .inl rfl, .inl rfl, trivial⟩
      refine ev_bipush dX11_statement_134 (by decide) (by decide) ?_
      refine ev_goto (tgt := 170) dX11_statement_136 rfl ?_
      exact ev_sub (L2 := [(2, (173 : Int)), (0, x1), (9, 0), (9, 0), (9, 0)]) (e_X11_statement_170 σ x1 (9 : Int) s1 h) ⟨.inr rfl, .inr rfl, .inl rfl, .inl rfl, .inl rfl, trivial⟩
    refine ev_iconst dX11_statement_125 (by decide) ?_
    refine ev_goto (tgt := 170) dX11_statement_126 rfl ?_
    exact ev_sub (L2 := [(2, (173 : Int)), (0, x1), (9, 0), (9, 0), (9, 0)]) (e_X11_statement_170 σ x1 (5 : Int) s1 h) ⟨.inr rfl, .inr rfl, .inl rfl, .inl rfl, .inl rfl, trivial⟩
  refine ev_iconst dX11_statement_116 (by decide) ?_
  refine ev_goto (tgt := 170) dX11_statement_117 rfl ?_
  exact ev_sub (L2 := [(2, (173 : Int)), (0, x1), (9, 0), (9, 0), (9, 0)]) (e_X11_statement_170 σ x1 (4 : Int) s1 h) ⟨.inr rfl, .inr rfl, .inl rfl, .inl rfl, .inl rfl, trivial⟩
set_option maxHeartbeats 4000000 in
set_option maxRecDepth 20000 in
theorem e_X11_statement_76 (σ : Mem) (x1 s0 : Int)  {q : Mem} (h : f_X11_statement_76 σ x1 s0 = some q) : Ev M_X11_statement 210 210 (none, rho, q) 76 210 rho σ [(2, (173 : Int)), (0, x1), (9, 0), (9, 0), (9, 0)] [(0, s0)] := by
  unfold f_X11_statement_76 at h
  refine ev_istore_n dX11_statement_76 rfl (by decide) ?_
  show Ev _ _ _ _ 77 _ _ _ [(2, (173 : Int)), (0, x1), (0, s0), (9, 0), (9, 0)] _
  refine ev_iload_n dX11_statement_77 rfl ?_
  refine ev_if_lt (tgt := 85) dX11_statement_78 rfl h (fun cb h => ?_) (fun cb h => ?_)
  · exact ev_sub (L2 := [(2, (173 : Int)), (9, 0), (9, 0), (9, 0), (9, 0)]) (e_X11_statement_85 σ h) ⟨.inr rfl, .inl rfl, .inl rfl, .inl rfl, .inl rfl, trivial⟩
  refine ev_iload_n dX11_statement_81 rfl ?_
  refine ev_if_ne (tgt := 90) dX11_statement_82 rfl h (fun cb h => ?_) (fun cb h => ?_)
  · refine ev_aload_n dX11_statement_90 rfl (by decide) ?_
    refine ev_iload_n dX11_statement_91 rfl ?_
    refine ev_iconst dX11_statement_92 (by decide) ?_
    refine ev_icmp_ne (tgt := 100) dX11_statement_93 rfl h (fun cb h => ?_) (fun cb h => ?_)
    · refine ev_iload_n dX11_statement_100 rfl ?_
      refine ev_bipush dX11_statement_101 (by decide) (by decide) ?_
      refine ev_icmp_ne (tgt := 111) dX11_statement_103 rfl h (fun cb h => ?_) (fun cb h => ?_)
      · refine ev_iconst dX11_statement_111 (by decide) ?_
        exact ev_sub (L2 := [(2, (173 : Int)), (0, x1), (9, 0), (9, 0), (9, 0)]) (e_X11_statement_112 σ x1 (0 : Int) h) ⟨.inr rfl, .inr rfl, .inl rfl, .inl rfl, .inl rfl, trivial⟩
      refine ev_bipush dX11_statement_106 (by decide) (by decide) ?_
      refine ev_goto (tgt := 112) dX11_statement_108 rfl ?_
      exact ev_sub (L2 := [(2, (173 : Int)), (0, x1), (9, 0), (9, 0), (9, 0)]) (e_X11_statement_112 σ x1 (8 : Int) h) ⟨.inr rfl, .inr rfl, .inl rfl, .inl rfl, .inl rfl, trivial⟩
    refine ev_iconst dX11_statement_96 (by decide) ?_
    refine ev_goto (tgt := 112) dX11_statement_97 rfl ?_
    exact ev_sub (L2 := [(2, (173 : Int)), (0, x1), (9, 0), (9, 0), (9, 0)]) (e_X11_statement_112 σ x1 (1 : Int) h) ⟨.inr rfl, .inr rfl, .inl rfl, .inl rfl, .inl rfl, trivial⟩
  exact ev_sub (L2 := [(2, (173 : Int)), (9, 0), (9, 0), (9, 0), (9, 0)]) (e_X11_statement_85 σ h) ⟨.inr rfl, .inl rfl, .inl rfl, .inl rfl, .inl rfl, trivial⟩
set_option maxHeartbeats 4000000 in
set_option maxRecDepth 20000 in
theorem e_X11_statement_71 (σ : Mem) (x1 : Int)  {q : Mem} (h : f_X11_statement_71 σ x1 = some q) : Ev M_X11_statement 210 210 (none, rho, q) 71 210 rho σ [(2, (173 : Int)), (0, x1), (9, 0), (9, 0), (9, 0)] [] := by
  unfold f_X11_statement_71 at h
  refine ev_iconst dX11_statement_71 (by decide) ?_
  refine ev_goto (tgt := 76) dX11_statement_72 rfl ?_
  exact ev_sub (L2 := [(2, (173 : Int)), (0, x1), (9, 0), (9, 0), (9, 0)]) (e_X11_statement_76 σ x1 (1 : Int) h) ⟨.inr rfl, .inr rfl, .inl rfl, .inl rfl, .inl rfl, trivial⟩
set_option maxHeartbeats 4000000 in
set_option maxRecDepth 20000 in
theorem c_X11_statement {σ : Mem}  {q : Mem} (h : f_X11_statement σ  = some q) : Ms yX11_statement M_X11_statement 210 210 [(2, (173 : Int))] rho σ (none, rho, q) := by
  refine Ms.of 4 (by decide +kernel) rfl (fun z => absurd z (by decide)) (fun _ _ _ => trivial) rfl rfl ?_
  unfold f_X11_statement at h
  show Ev M_X11_statement 210 210 _ 0 210 rho σ [(2, (173 : Int)), (9, 0), (9, 0), (9, 0), (9, 0)] []
  refine ev_aload_n dX11_statement_0 rfl (by decide) ?_
  obtain ⟨v1, hc2, h⟩ := bind_of h
  refine ev_invV_v (k := (173 : Int)) (av := []) (st := []) (v := (0, v1.1)) (τ := v1.2) dX11_statement_1 ml_X11_233 mv_X11_word (T := TX11) (ci := 10) rfl sp173 (by decide) (by decide) rfl ⟨Nat.le_of_ble_eq_true rfl, Nat.le_of_ble_eq_true rfl⟩ (Nat.le_of_ble_eq_true rfl) (c_X11_word hc2) ?_
  refine ev_istore_nG dX11_statement_4 h rfl (by decide) (fun v3 h => ?_)
  show Ev _ _ _ _ 5 _ _ _ [(2, (173 : Int)), (0, v3), (9, 0), (9, 0), (9, 0)] _
  refine ev_iload_n dX11_statement_5 rfl ?_
  refine ev_if_ne (tgt := 29) dX11_statement_6 rfl h (fun cb h => ?_) (fun cb h => ?_)
  · refine ev_iload_n dX11_statement_29 rfl ?_
    refine ev_iconst dX11_statement_30 (by decide) ?_
    refine ev_icmp_ne (tgt := 54) dX11_statement_31 rfl h (fun cb h => ?_) (fun cb h => ?_)
    · refine ev_iload_n dX11_statement_54 rfl ?_
      refine ev_iconst dX11_statement_55 (by decide) ?_
      refine ev_icmp_ne (tgt := 71) dX11_statement_56 rfl h (fun cb h => ?_) (fun cb h => ?_)
      · exact ev_sub (L2 := [(2, (173 : Int)), (0, v3), (9, 0), (9, 0), (9, 0)]) (e_X11_statement_71 v1.2 v3 h) ⟨.inr rfl, .inr rfl, .inl rfl, .inl rfl, .inl rfl, trivial⟩
      refine ev_aload_n dX11_statement_59 rfl (by decide) ?_
      refine ev_getf (j := 0) (t := 2) (x := (174 : Int)) dX11_statement_60 cf_X11 wf_X11_7 sp173 (by decide) (by decide) rfl (by decide) (rp173_0 _) ?_
      refine ev_bipush dX11_statement_63 (by decide) (by decide) ?_
      refine ev_iald dX11_statement_65 sp174 (by decide) (by decide) h (fun h => ?_)
      refine ev_bipush dX11_statement_66 (by decide) (by decide) ?_
      refine ev_icmp_ge (tgt := 75) dX11_statement_68 rfl h (fun cb h => ?_) (fun cb h => ?_)
      · refine ev_iconst dX11_statement_75 (by decide) ?_
        exact ev_sub (L2 := [(2, (173 : Int)), (0, v3), (9, 0), (9, 0), (9, 0)]) (e_X11_statement_76 v1.2 v3 (0 : Int) h) ⟨.inr rfl, .inr rfl, .inl rfl, .inl rfl, .inl rfl, trivial⟩
      exact ev_sub (L2 := [(2, (173 : Int)), (0, v3), (9, 0), (9, 0), (9, 0)]) (e_X11_statement_71 v1.2 v3 h) ⟨.inr rfl, .inr rfl, .inl rfl, .inl rfl, .inl rfl, trivial⟩
    refine ev_aload_n dX11_statement_34 rfl (by decide) ?_
    refine ev_getf (j := 0) (t := 2) (x := (174 : Int)) dX11_statement_35 cf_X11 wf_X11_7 sp173 (by decide) (by decide) rfl (by decide) (rp173_0 _) ?_
    refine ev_bipush dX11_statement_38 (by decide) (by decide) ?_
    refine ev_iald dX11_statement_40 sp174 (by decide) (by decide) h (fun h => ?_)
    refine ev_bipush dX11_statement_41 (by decide) (by decide) ?_
    refine ev_icmp_ge (tgt := 50) dX11_statement_43 rfl h (fun cb h => ?_) (fun cb h => ?_)
    · refine ev_iconst dX11_statement_50 (by decide) ?_
      refine ev_goto (tgt := 76) dX11_statement_51 rfl ?_
      exact ev_sub (L2 := [(2, (173 : Int)), (0, v3), (9, 0), (9, 0), (9, 0)]) (e_X11_statement_76 v1.2 v3 (0 : Int) h) ⟨.inr rfl, .inr rfl, .inl rfl, .inl rfl, .inl rfl, trivial⟩
    refine ev_iconst dX11_statement_46 (by decide) ?_
    refine ev_goto (tgt := 76) dX11_statement_47 rfl ?_
    exact ev_sub (L2 := [(2, (173 : Int)), (0, v3), (9, 0), (9, 0), (9, 0)]) (e_X11_statement_76 v1.2 v3 (1 : Int) h) ⟨.inr rfl, .inr rfl, .inl rfl, .inl rfl, .inl rfl, trivial⟩
  refine ev_aload_n dX11_statement_9 rfl (by decide) ?_
  refine ev_getf (j := 0) (t := 2) (x := (174 : Int)) dX11_statement_10 cf_X11 wf_X11_7 sp173 (by decide) (by decide) rfl (by decide) (rp173_0 _) ?_
  refine ev_bipush dX11_statement_13 (by decide) (by decide) ?_
  refine ev_iald dX11_statement_15 sp174 (by decide) (by decide) h (fun h => ?_)
  refine ev_bipush dX11_statement_16 (by decide) (by decide) ?_
  refine ev_icmp_ge (tgt := 25) dX11_statement_18 rfl h (fun cb h => ?_) (fun cb h => ?_)
  · refine ev_iconst dX11_statement_25 (by decide) ?_
    refine ev_goto (tgt := 76) dX11_statement_26 rfl ?_
    exact ev_sub (L2 := [(2, (173 : Int)), (0, v3), (9, 0), (9, 0), (9, 0)]) (e_X11_statement_76 v1.2 v3 (0 : Int) h) ⟨.inr rfl, .inr rfl, .inl rfl, .inl rfl, .inl rfl, trivial⟩
  refine ev_iconst dX11_statement_21 (by decide) ?_
  refine ev_goto (tgt := 76) dX11_statement_22 rfl ?_
  exact ev_sub (L2 := [(2, (173 : Int)), (0, v3), (9, 0), (9, 0), (9, 0)]) (e_X11_statement_76 v1.2 v3 (1 : Int) h) ⟨.inr rfl, .inr rfl, .inl rfl, .inl rfl, .inl rfl, trivial⟩
def K_X11_move_2 (x0 x1 : Int) (r : Option V × Mem × Mem) : (Int × Mem) ⊕ ((Mem)) → Prop := Sum.elim (fun a => Ev M_X11_move 210 210 r 2 210 rho a.2 [(2, x0), (2, x1), (0, a.1)] []) (fun e => Ev M_X11_move 210 210 r 20 210 rho e [(9, 0), (9, 0), (9, 0)] [])
set_option maxHeartbeats 4000000 in
set_option maxRecDepth 20000 in
theorem b_X11_move_2 (x0 x1 : Int) (hx0 : isM x0) (hx1 : isM x1) {r : Option V × Mem × Mem} : ∀ a x, f_X11_move_2B x0 x1 a = some x → K_X11_move_2 x0 x1 r x → K_X11_move_2 x0 x1 r (.inl a) := by
  intro a x h K
  obtain ⟨x2, σ⟩ := a
  have h : f_X11_move_2C x0 x1 x2 σ = some x := h
  unfold f_X11_move_2C at h
  show Ev M_X11_move 210 210 r 2 210 rho σ [(2, x0), (2, x1), (0, x2)] []
  refine ev_iload_n dX11_move_2 rfl ?_
  refine ev_bipush dX11_move_3 (by decide) (by decide) ?_
  refine ev_icmp_ge (tgt := 20) dX11_move_5 rfl h (fun cb h => ?_) (fun cb h => ?_)
  · obtain rfl := Option.some.inj h
    exact ev_sub (L2 := [(9, 0), (9, 0), (9, 0)]) K ⟨.inl rfl, .inl rfl, .inl rfl, trivial⟩
  refine ev_aload_n dX11_move_8 rfl (pM hx1).1 ?_
  refine ev_iload_n dX11_move_9 rfl ?_
  refine ev_aload_n dX11_move_10 rfl (pM hx0).1 ?_
  refine ev_iload_n dX11_move_11 rfl ?_
  refine ev_iald dX11_move_12 (sM hx0) (pM hx0).1 (pM hx0).2 h (fun h => ?_)
  refine ev_iastG dX11_move_13 (sM hx1) (pM hx1).1 (pM hx1).2 h (fun σ1 h => ?_)
  refine ev_iincG dX11_move_14 rfl h rfl (fun v2 h => ?_)
  show Ev _ _ _ _ 17 _ _ _ [(2, x0), (2, x1), (0, v2)] _
  refine ev_goto (tgt := 2) dX11_move_17 rfl ?_
  obtain rfl := Option.some.inj h
  exact ev_sub (L2 := [(2, x0), (2, x1), (0, v2)]) K ⟨.inr rfl, .inr rfl, .inr rfl, trivial⟩
set_option maxHeartbeats 4000000 in
set_option maxRecDepth 20000 in
theorem e_X11_move_2 (σ : Mem) (x0 x1 x2 : Int) (hx0 : isM x0) (hx1 : isM x1) {q : Mem} (h : f_X11_move_2 σ x0 x1 x2 = some q) : Ev M_X11_move 210 210 (none, rho, q) 2 210 rho σ [(2, x0), (2, x1), (0, x2)] [] := by
  unfold f_X11_move_2 at h
  obtain ⟨e, hl, h⟩ := bind_of h
  refine loop_ev (K := K_X11_move_2 x0 x1 (none, rho, q)) (b_X11_move_2 x0 x1 hx0 hx1) FU (x2, σ) e hl ?_
  show Ev M_X11_move 210 210 _ 20 210 rho e [(9, 0), (9, 0), (9, 0)] []
  replace h : some e = some q := h
  obtain rfl := Option.some.inj h
  exact ev_vret dX11_move_20 rfl rfl
set_option maxHeartbeats 4000000 in
set_option maxRecDepth 20000 in
theorem c_X11_move {σ : Mem} {x0 x1 : Int} (hx0 : isM x0) (hx1 : isM x1) {q : Mem} (h : f_X11_move σ x0 x1 = some q) : Ms yX11_move M_X11_move 210 210 [(2, x0), (2, x1)] rho σ (none, rho, q) := by
  refine Ms.of 1 (by decide +kernel) rfl (fun z => absurd z (by decide)) (fun _ _ _ => trivial) rfl rfl ?_
  unfold f_X11_move at h
  show Ev M_X11_move 210 210 _ 0 210 rho σ [(2, x0), (2, x1), (9, 0)] []
  refine ev_iconst dX11_move_0 (by decide) ?_
  refine ev_istore_n dX11_move_1 rfl (by decide) ?_
  show Ev _ _ _ _ 2 _ _ _ [(2, x0), (2, x1), (0, (0 : Int))] _
  exact ev_sub (L2 := [(2, x0), (2, x1), (0, (0 : Int))]) (e_X11_move_2 σ x0 x1 (0 : Int) hx0 hx1 h) ⟨.inr rfl, .inr rfl, .inr rfl, trivial⟩
def K_X11_book_25 (r : Option V × Mem × Mem) : (Int × Int × Mem) ⊕ ((Int × Mem)) → Prop := Sum.elim (fun a => Ev M_X11_book 210 210 r 25 210 rho a.2.2 [(2, (173 : Int)), (0, a.1), (0, a.2.1)] []) (fun e => Ev M_X11_book 210 210 r 117 210 rho e.2 [(2, (173 : Int)), (0, e.1), (9, 0)] [])
set_option maxHeartbeats 4000000 in
set_option maxRecDepth 20000 in
theorem e_X11_book_104 (σ : Mem) (x1 x2 : Int)  {q : ((Int × Int × Mem) ⊕ ((Int × Mem)))} (h : f_X11_book_104 σ x1 x2 = some q) {r : Option V × Mem × Mem} (K : K_X11_book_25  r q) : Ev M_X11_book 210 210 r 104 210 rho σ [(2, (173 : Int)), (0, x1), (0, x2)] [] := by
  unfold f_X11_book_104 at h
  refine ev_aload_n dX11_book_104 rfl (by decide) ?_
  refine ev_dup dX11_book_105 (show (2 : Nat) ≠ 1 by decide) ?_
  refine ev_getf (j := 10) (t := 0) (x := (σ (173 : Int) 10)) dX11_book_106 cf_X11 wf_X11_209 sp173 (by decide) (by decide) rfl (by decide) rfl ?_
  refine ev_iconst dX11_book_109 (by decide) ?_
  refine ev_iadd dX11_book_110 ?_
  refine ev_putfG (j := 10) (t := 0) dX11_book_111 cf_X11 wf_X11_209 sp173 (by decide) (by decide) rfl (by decide) (by decide) rfl (fun z => absurd z (by decide +kernel)) h (fun σ17 h => ?_)
  refine ev_goto (tgt := 25) dX11_book_114 rfl ?_
  obtain rfl := Option.some.inj h
  exact ev_sub (L2 := [(2, (173 : Int)), (0, x1), (0, x2)]) K ⟨.inr rfl, .inr rfl, .inr rfl, trivial⟩
set_option maxHeartbeats 4000000 in
set_option maxRecDepth 20000 in
theorem e_X11_book_84 (σ : Mem) (x1 s0 : Int)  {q : ((Int × Int × Mem) ⊕ ((Int × Mem)))} (h : f_X11_book_84 σ x1 s0 = some q) {r : Option V × Mem × Mem} (K : K_X11_book_25  r q) : Ev M_X11_book 210 210 r 84 210 rho σ [(2, (173 : Int)), (0, x1), (9, 0)] [(0, s0)] := by
  unfold f_X11_book_84 at h
  refine ev_istore_n dX11_book_84 rfl (by decide) ?_
  show Ev _ _ _ _ 85 _ _ _ [(2, (173 : Int)), (0, x1), (0, s0)] _
  refine ev_iload_n dX11_book_85 rfl ?_
  refine ev_if_ne (tgt := 104) dX11_book_86 rfl h (fun cb h => ?_) (fun cb h => ?_)
  · exact ev_sub (L2 := [(2, (173 : Int)), (0, x1), (0, s0)]) (e_X11_book_104 σ x1 s0 h K) ⟨.inr rfl, .inr rfl, .inr rfl, trivial⟩
  refine ev_aload_n dX11_book_89 rfl (by decide) ?_
  refine ev_getf (j := 10) (t := 0) (x := (σ (173 : Int) 10)) dX11_book_90 cf_X11 wf_X11_209 sp173 (by decide) (by decide) rfl (by decide) rfl ?_
  refine ev_aload_n dX11_book_93 rfl (by decide) ?_
  refine ev_getf (j := 9) (t := 0) (x := (σ (173 : Int) 9)) dX11_book_94 cf_X11 wf_X11_205 sp173 (by decide) (by decide) rfl (by decide) rfl ?_
  refine ev_icmp_ge (tgt := 104) dX11_book_97 rfl h (fun cb h => ?_) (fun cb h => ?_)
  · exact ev_sub (L2 := [(2, (173 : Int)), (0, x1), (0, s0)]) (e_X11_book_104 σ x1 s0 h K) ⟨.inr rfl, .inr rfl, .inr rfl, trivial⟩
  refine ev_aload_n dX11_book_100 rfl (by decide) ?_
  obtain ⟨σ10, hc11, h⟩ := bind_of h
  refine ev_invV_n (k := (173 : Int)) (av := []) (st := []) (τ := σ10) dX11_book_101 ml_X11_227 mv_X11_wrong (T := TX11) (ci := 10) rfl sp173 (by decide) (by decide) rfl ⟨Nat.le_of_ble_eq_true rfl, Nat.le_of_ble_eq_true rfl⟩ (Nat.le_of_ble_eq_true rfl) (c_X11_wrong hc11) ?_
  exact ev_sub (L2 := [(2, (173 : Int)), (0, x1), (0, s0)]) (e_X11_book_104 σ10 x1 s0 h K) ⟨.inr rfl, .inr rfl, .inr rfl, trivial⟩
set_option maxHeartbeats 4000000 in
set_option maxRecDepth 20000 in
theorem e_X11_book_83 (σ : Mem) (x1 : Int)  {q : ((Int × Int × Mem) ⊕ ((Int × Mem)))} (h : f_X11_book_83 σ x1 = some q) {r : Option V × Mem × Mem} (K : K_X11_book_25  r q) : Ev M_X11_book 210 210 r 83 210 rho σ [(2, (173 : Int)), (0, x1), (9, 0)] [] := by
  unfold f_X11_book_83 at h
  refine ev_iconst dX11_book_83 (by decide) ?_
  exact ev_sub (L2 := [(2, (173 : Int)), (0, x1), (9, 0)]) (e_X11_book_84 σ x1 (0 : Int) h K) ⟨.inr rfl, .inr rfl, .inl rfl, trivial⟩
set_option maxHeartbeats 4000000 in
set_option maxRecDepth 20000 in
theorem e_X11_book_117 (σ : Mem) (x1 : Int)  {q : (Int × Mem)} (h : f_X11_book_117 σ x1 = some q) : Ev M_X11_book 210 210 (some (0, q.1), rho, q.2) 117 210 rho σ [(2, (173 : Int)), (0, x1), (9, 0)] [] := by
  unfold f_X11_book_117 at h
  refine ev_aload_n dX11_book_117 rfl (by decide) ?_
  refine ev_iconst dX11_book_118 (by decide) ?_
  refine ev_putfG (j := 9) (t := 0) dX11_book_119 cf_X11 wf_X11_205 sp173 (by decide) (by decide) rfl (by decide) (by decide) rfl (fun z => absurd z (by decide +kernel)) h (fun σ12 h => ?_)
  refine ev_aload_n dX11_book_122 rfl (by decide) ?_
  refine ev_getf (j := 13) (t := 0) (x := (σ12 (173 : Int) 13)) dX11_book_123 cf_X11 wf_X11_215 sp173 (by decide) (by decide) rfl (by decide) rfl ?_
  refine ev_if_lt (tgt := 156) dX11_book_126 rfl h (fun cb h => ?_) (fun cb h => ?_)
  · refine ev_iload_n dX11_book_156 rfl ?_
    obtain rfl := Option.some.inj h
    dsimp only
    exact ev_iret dX11_book_157 rfl rfl
  refine ev_aload_n dX11_book_129 rfl (by decide) ?_
  refine ev_getf (j := 15) (t := 2) (x := (183 : Int)) dX11_book_130 cf_X11 wf_X11_39 sp173 (by decide) (by decide) rfl (by decide) (rp173_15 _) ?_
  refine ev_aload_n dX11_book_133 rfl (by decide) ?_
  refine ev_getf (j := 0) (t := 2) (x := (174 : Int)) dX11_book_134 cf_X11 wf_X11_7 sp173 (by decide) (by decide) rfl (by decide) (rp173_0 _) ?_
  obtain ⟨σ13, hc14, h⟩ := bind_of h
  refine ev_invS_n (av := [(2, (183 : Int)), (2, (174 : Int))]) (st := []) (τ := σ13) dX11_book_137 ml_X11_245 mt_X11_move rfl ⟨Nat.le_of_ble_eq_true rfl, Nat.le_of_ble_eq_true rfl⟩ (Nat.le_of_ble_eq_true rfl) (c_X11_move hM183 hM174 hc14) ?_
  refine ev_aload_n dX11_book_140 rfl (by decide) ?_
  refine ev_bipush dX11_book_141 (by decide) (by decide) ?_
  obtain ⟨v15, hc16, h⟩ := bind_of h
  refine ev_invV_v (k := (173 : Int)) (av := [(0, (-52 : Int))]) (st := []) (v := (0, v15.1)) (τ := v15.2) dX11_book_143 ml_X11_151 mv_X11_no (T := TX11) (ci := 10) rfl sp173 (by decide) (by decide) rfl ⟨Nat.le_of_ble_eq_true rfl, Nat.le_of_ble_eq_true rfl⟩ (Nat.le_of_ble_eq_true rfl) (c_X11_no hc16) ?_
  refine ev_pop dX11_book_146 (show (0 : Nat) ≠ 1 by decide) ?_
  refine ev_sipush dX11_book_147 (by decide) (by decide) ?_
  refine ev_aload_n dX11_book_150 rfl (by decide) ?_
  show Ev _ _ _ _ 151 _ _ _ _ _
  refine ev_getf (j := 13) (t := 0) (x := (v15.2 (173 : Int) 13)) dX11_book_151 cf_X11 wf_X11_215 sp173 (by decide) (by decide) rfl (by decide) rfl ?_
  refine ev_isub dX11_book_154 ?_
  obtain rfl := Option.some.inj h
  dsimp only
  exact ev_iret dX11_book_155 rfl rfl
set_option maxHeartbeats 4000000 in
set_option maxRecDepth 20000 in
theorem b_X11_book_25  {r : Option V × Mem × Mem} : ∀ a x, f_X11_book_25B  a = some x → K_X11_book_25  r x → K_X11_book_25  r (.inl a) := by
  intro a x h K
  obtain ⟨x1, x2, σ⟩ := a
  have h : f_X11_book_25C  x1 x2 σ = some x := h
  unfold f_X11_book_25C at h
  show Ev M_X11_book 210 210 r 25 210 rho σ [(2, (173 : Int)), (0, x1), (0, x2)] []
  refine ev_iload_n dX11_book_25 rfl ?_
  refine ev_if_eq (tgt := 117) dX11_book_26 rfl h (fun cb h => ?_) (fun cb h => ?_)
  · obtain rfl := Option.some.inj h
    exact ev_sub (L2 := [(2, (173 : Int)), (0, x1), (9, 0)]) K ⟨.inr rfl, .inr rfl, .inl rfl, trivial⟩
  refine ev_aload_n dX11_book_29 rfl (by decide) ?_
  refine ev_getf (j := 13) (t := 0) (x := (σ (173 : Int) 13)) dX11_book_30 cf_X11 wf_X11_215 sp173 (by decide) (by decide) rfl (by decide) rfl ?_
  refine ev_if_ge (tgt := 117) dX11_book_33 rfl h (fun cb h => ?_) (fun cb h => ?_)
  · obtain rfl := Option.some.inj h
    exact ev_sub (L2 := [(2, (173 : Int)), (0, x1), (9, 0)]) K ⟨.inr rfl, .inr rfl, .inl rfl, trivial⟩
  refine ev_aload_n dX11_book_36 rfl (by decide) ?_
  obtain ⟨σ5, hc6, h⟩ := bind_of h
  refine ev_invV_n (k := (173 : Int)) (av := []) (st := []) (τ := σ5) dX11_book_37 ml_X11_249 mv_X11_statement (T := TX11) (ci := 10) rfl sp173 (by decide) (by decide) rfl ⟨Nat.le_of_ble_eq_true rfl, Nat.le_of_ble_eq_true rfl⟩ (Nat.le_of_ble_eq_true rfl) (c_X11_statement hc6) ?_
  refine ev_iincG dX11_book_40 rfl h rfl (fun v7 h => ?_)
  show Ev _ _ _ _ 43 _ _ _ [(2, (173 : Int)), (0, v7), (0, x2)] _
  refine ev_aload_n dX11_book_43 rfl (by decide) ?_
  refine ev_getf (j := 13) (t := 0) (x := (σ5 (173 : Int) 13)) dX11_book_44 cf_X11 wf_X11_215 sp173 (by decide) (by decide) rfl (by decide) rfl ?_
  refine ev_if_ge (tgt := 25) dX11_book_47 rfl h (fun cb h => ?_) (fun cb h => ?_)
  · obtain rfl := Option.some.inj h
    exact ev_sub (L2 := [(2, (173 : Int)), (0, v7), (0, x2)]) K ⟨.inr rfl, .inr rfl, .inr rfl, trivial⟩
  refine ev_aload_n dX11_book_50 rfl (by decide) ?_
  obtain ⟨σ8, hc9, h⟩ := bind_of h
  refine ev_invV_n (k := (173 : Int)) (av := []) (st := []) (τ := σ8) dX11_book_51 ml_X11_218 mv_X11_blanks (T := TX11) (ci := 10) rfl sp173 (by decide) (by decide) rfl ⟨Nat.le_of_ble_eq_true rfl, Nat.le_of_ble_eq_true rfl⟩ (Nat.le_of_ble_eq_true rfl) (c_X11_blanks hc9) ?_
  refine ev_aload_n dX11_book_54 rfl (by decide) ?_
  refine ev_getf (j := 10) (t := 0) (x := (σ8 (173 : Int) 10)) dX11_book_55 cf_X11 wf_X11_209 sp173 (by decide) (by decide) rfl (by decide) rfl ?_
  refine ev_aload_n dX11_book_58 rfl (by decide) ?_
  refine ev_getf (j := 9) (t := 0) (x := (σ8 (173 : Int) 9)) dX11_book_59 cf_X11 wf_X11_205 sp173 (by decide) (by decide) rfl (by decide) rfl ?_
  refine ev_icmp_ge (tgt := 83) dX11_book_62 rfl h (fun cb h => ?_) (fun cb h => ?_)
  · exact ev_sub (L2 := [(2, (173 : Int)), (0, v7), (9, 0)]) (e_X11_book_83 σ8 v7 h K) ⟨.inr rfl, .inr rfl, .inl rfl, trivial⟩
  refine ev_aload_n dX11_book_65 rfl (by decide) ?_
  refine ev_getf (j := 8) (t := 2) (x := (181 : Int)) dX11_book_66 cf_X11 wf_X11_32 sp173 (by decide) (by decide) rfl (by decide) (rp173_8 _) ?_
  refine ev_aload_n dX11_book_69 rfl (by decide) ?_
  refine ev_getf (j := 10) (t := 0) (x := (σ8 (173 : Int) 10)) dX11_book_70 cf_X11 wf_X11_209 sp173 (by decide) (by decide) rfl (by decide) rfl ?_
  refine ev_iald dX11_book_73 sp181 (by decide) (by decide) h (fun h => ?_)
  refine ev_bipush dX11_book_74 (by decide) (by decide) ?_
  refine ev_icmp_ne (tgt := 83) dX11_book_76 rfl h (fun cb h => ?_) (fun cb h => ?_)
  · exact ev_sub (L2 := [(2, (173 : Int)), (0, v7), (9, 0)]) (e_X11_book_83 σ8 v7 h K) ⟨.inr rfl, .inr rfl, .inl rfl, trivial⟩
  refine ev_iconst dX11_book_79 (by decide) ?_
  refine ev_goto (tgt := 84) dX11_book_80 rfl ?_
  exact ev_sub (L2 := [(2, (173 : Int)), (0, v7), (9, 0)]) (e_X11_book_84 σ8 v7 (1 : Int) h K) ⟨.inr rfl, .inr rfl, .inl rfl, trivial⟩
set_option maxHeartbeats 4000000 in
set_option maxRecDepth 20000 in
theorem e_X11_book_25 (σ : Mem) (x1 x2 : Int)  {q : (Int × Mem)} (h : f_X11_book_25 σ x1 x2 = some q) : Ev M_X11_book 210 210 (some (0, q.1), rho, q.2) 25 210 rho σ [(2, (173 : Int)), (0, x1), (0, x2)] [] := by
  unfold f_X11_book_25 at h
  obtain ⟨e, hl, h⟩ := bind_of h
  refine loop_ev (K := K_X11_book_25  (some (0, q.1), rho, q.2)) (b_X11_book_25 ) FU (x1, x2, σ) e hl ?_
  show Ev M_X11_book 210 210 _ 117 210 rho e.2 [(2, (173 : Int)), (0, e.1), (9, 0)] []
  replace h : f_X11_book_117 e.2 e.1 = some q := h
  exact ev_sub (L2 := [(2, (173 : Int)), (0, e.1), (9, 0)]) (e_X11_book_117 e.2 e.1 h) ⟨.inr rfl, .inr rfl, .inl rfl, trivial⟩
set_option maxHeartbeats 4000000 in
set_option maxRecDepth 20000 in
theorem c_X11_book {σ : Mem}  {q : (Int × Mem)} (h : f_X11_book σ  = some q) : Ms yX11_book M_X11_book 210 210 [(2, (173 : Int))] rho σ (some (0, q.1), rho, q.2) := by
  refine Ms.of 2 (by decide +kernel) rfl (fun z => absurd z (by decide)) (fun _ _ _ => trivial) rfl rfl ?_
  unfold f_X11_book at h
  show Ev M_X11_book 210 210 _ 0 210 rho σ [(2, (173 : Int)), (9, 0), (9, 0)] []
  refine ev_aload_n dX11_book_0 rfl (by decide) ?_
  refine ev_getf (j := 0) (t := 2) (x := (174 : Int)) dX11_book_1 cf_X11 wf_X11_7 sp173 (by decide) (by decide) rfl (by decide) (rp173_0 _) ?_
  refine ev_aload_n dX11_book_4 rfl (by decide) ?_
  refine ev_getf (j := 15) (t := 2) (x := (183 : Int)) dX11_book_5 cf_X11 wf_X11_39 sp173 (by decide) (by decide) rfl (by decide) (rp173_15 _) ?_
  obtain ⟨σ1, hc2, h⟩ := bind_of h
  refine ev_invS_n (av := [(2, (174 : Int)), (2, (183 : Int))]) (st := []) (τ := σ1) dX11_book_8 ml_X11_245 mt_X11_move rfl ⟨Nat.le_of_ble_eq_true rfl, Nat.le_of_ble_eq_true rfl⟩ (Nat.le_of_ble_eq_true rfl) (c_X11_move hM174 hM183 hc2) ?_
  refine ev_aload_n dX11_book_11 rfl (by decide) ?_
  refine ev_iconst dX11_book_12 (by decide) ?_
  refine ev_putfG (j := 10) (t := 0) dX11_book_13 cf_X11 wf_X11_209 sp173 (by decide) (by decide) rfl (by decide) (by decide) rfl (fun z => absurd z (by decide +kernel)) h (fun σ3 h => ?_)
  refine ev_aload_n dX11_book_16 rfl (by decide) ?_
  refine ev_iconst dX11_book_17 (by decide) ?_
  refine ev_putfG (j := 13) (t := 0) dX11_book_18 cf_X11 wf_X11_215 sp173 (by decide) (by decide) rfl (by decide) (by decide) rfl (fun z => absurd z (by decide +kernel)) h (fun σ4 h => ?_)
  show Ev _ _ _ _ 21 _ _ _ _ _
  refine ev_iconst dX11_book_21 (by decide) ?_
  refine ev_istore_n dX11_book_22 rfl (by decide) ?_
  show Ev _ _ _ _ 23 _ _ _ [(2, (173 : Int)), (0, (0 : Int)), (9, 0)] _
  refine ev_iconst dX11_book_23 (by decide) ?_
  refine ev_istore_n dX11_book_24 rfl (by decide) ?_
  show Ev _ _ _ _ 25 _ _ _ [(2, (173 : Int)), (0, (0 : Int)), (0, (1 : Int))] _
  exact ev_sub (L2 := [(2, (173 : Int)), (0, (0 : Int)), (0, (1 : Int))]) (e_X11_book_25 σ4 (0 : Int) (1 : Int) h) ⟨.inr rfl, .inr rfl, .inr rfl, trivial⟩
def K_X11_rows_4 (x1 : Int) (r : Option V × Mem × Mem) : (Int × Int × Mem) ⊕ ((Int × Mem)) → Prop := Sum.elim (fun a => Ev M_X11_rows 210 210 r 4 210 rho a.2.2 [(2, (173 : Int)), (0, x1), (0, a.1), (0, a.2.1)] []) (fun e => Ev M_X11_rows 210 210 r 35 210 rho e.2 [(9, 0), (9, 0), (0, e.1), (9, 0)] [])
set_option maxHeartbeats 4000000 in
set_option maxRecDepth 20000 in
theorem e_X11_rows_29 (σ : Mem) (x1 x2 x3 : Int)  {q : ((Int × Int × Mem) ⊕ ((Int × Mem)))} (h : f_X11_rows_29 σ x1 x2 x3 = some q) {r : Option V × Mem × Mem} (K : K_X11_rows_4 x1 r q) : Ev M_X11_rows 210 210 r 29 210 rho σ [(2, (173 : Int)), (0, x1), (0, x2), (0, x3)] [] := by
  unfold f_X11_rows_29 at h
  refine ev_iincG dX11_rows_29 rfl h rfl (fun v3 h => ?_)
  show Ev _ _ _ _ 32 _ _ _ [(2, (173 : Int)), (0, x1), (0, x2), (0, v3)] _
  refine ev_goto (tgt := 4) dX11_rows_32 rfl ?_
  obtain rfl := Option.some.inj h
  exact ev_sub (L2 := [(2, (173 : Int)), (0, x1), (0, x2), (0, v3)]) K ⟨.inr rfl, .inr rfl, .inr rfl, .inr rfl, trivial⟩
set_option maxHeartbeats 4000000 in
set_option maxRecDepth 20000 in
theorem b_X11_rows_4 (x1 : Int)  {r : Option V × Mem × Mem} : ∀ a x, f_X11_rows_4B x1 a = some x → K_X11_rows_4 x1 r x → K_X11_rows_4 x1 r (.inl a) := by
  intro a x h K
  obtain ⟨x2, x3, σ⟩ := a
  have h : f_X11_rows_4C x1 x2 x3 σ = some x := h
  unfold f_X11_rows_4C at h
  show Ev M_X11_rows 210 210 r 4 210 rho σ [(2, (173 : Int)), (0, x1), (0, x2), (0, x3)] []
  refine ev_iload_n dX11_rows_4 rfl ?_
  refine ev_bipush dX11_rows_5 (by decide) (by decide) ?_
  refine ev_icmp_ge (tgt := 35) dX11_rows_7 rfl h (fun cb h => ?_) (fun cb h => ?_)
  · obtain rfl := Option.some.inj h
    exact ev_sub (L2 := [(9, 0), (9, 0), (0, x2), (9, 0)]) K ⟨.inl rfl, .inl rfl, .inr rfl, .inl rfl, trivial⟩
  refine ev_iload_n dX11_rows_10 rfl ?_
  refine ev_iload_n dX11_rows_11 rfl ?_
  refine ev_ishr dX11_rows_12 ?_
  refine ev_iconst dX11_rows_13 (by decide) ?_
  refine ev_iand dX11_rows_14 ?_
  refine ev_iconst dX11_rows_15 (by decide) ?_
  refine ev_icmp_ne (tgt := 29) dX11_rows_16 rfl h (fun cb h => ?_) (fun cb h => ?_)
  · exact ev_sub (L2 := [(2, (173 : Int)), (0, x1), (0, x2), (0, x3)]) (e_X11_rows_29 σ x1 x2 x3 h K) ⟨.inr rfl, .inr rfl, .inr rfl, .inr rfl, trivial⟩
  refine ev_aload_n dX11_rows_19 rfl (by decide) ?_
  refine ev_getf (j := 16) (t := 2) (x := (184 : Int)) dX11_rows_20 cf_X11 wf_X11_42 sp173 (by decide) (by decide) rfl (by decide) (rp173_16 _) ?_
  refine ev_iload_n dX11_rows_23 rfl ?_
  refine ev_iload_n dX11_rows_24 rfl ?_
  refine ev_iastG dX11_rows_25 sp184 (by decide) (by decide) h (fun σ1 h => ?_)
  refine ev_iincG dX11_rows_26 rfl h rfl (fun v2 h => ?_)
  show Ev _ _ _ _ 29 _ _ _ [(2, (173 : Int)), (0, x1), (0, v2), (0, x3)] _
  exact ev_sub (L2 := [(2, (173 : Int)), (0, x1), (0, v2), (0, x3)]) (e_X11_rows_29 σ1 x1 v2 x3 h K) ⟨.inr rfl, .inr rfl, .inr rfl, .inr rfl, trivial⟩
set_option maxHeartbeats 4000000 in
set_option maxRecDepth 20000 in
theorem e_X11_rows_4 (σ : Mem) (x1 x2 x3 : Int)  {q : (Int × Mem)} (h : f_X11_rows_4 σ x1 x2 x3 = some q) : Ev M_X11_rows 210 210 (some (0, q.1), rho, q.2) 4 210 rho σ [(2, (173 : Int)), (0, x1), (0, x2), (0, x3)] [] := by
  unfold f_X11_rows_4 at h
  obtain ⟨e, hl, h⟩ := bind_of h
  refine loop_ev (K := K_X11_rows_4 x1 (some (0, q.1), rho, q.2)) (b_X11_rows_4 x1) FU (x2, x3, σ) e hl ?_
  show Ev M_X11_rows 210 210 _ 35 210 rho e.2 [(9, 0), (9, 0), (0, e.1), (9, 0)] []
  replace h : some (e.1, e.2) = some q := h
  refine ev_iload_n dX11_rows_35 rfl ?_
  obtain rfl := Option.some.inj h
  dsimp only
  exact ev_iret dX11_rows_36 rfl rfl
set_option maxHeartbeats 4000000 in
set_option maxRecDepth 20000 in
theorem c_X11_rows {σ : Mem} {x1 : Int}  {q : (Int × Mem)} (h : f_X11_rows σ x1 = some q) : Ms yX11_rows M_X11_rows 210 210 [(2, (173 : Int)), (0, x1)] rho σ (some (0, q.1), rho, q.2) := by
  refine Ms.of 2 (by decide +kernel) rfl (fun z => absurd z (by decide)) (fun _ _ _ => trivial) rfl rfl ?_
  unfold f_X11_rows at h
  show Ev M_X11_rows 210 210 _ 0 210 rho σ [(2, (173 : Int)), (0, x1), (9, 0), (9, 0)] []
  refine ev_iconst dX11_rows_0 (by decide) ?_
  refine ev_istore_n dX11_rows_1 rfl (by decide) ?_
  show Ev _ _ _ _ 2 _ _ _ [(2, (173 : Int)), (0, x1), (0, (0 : Int)), (9, 0)] _
  refine ev_iconst dX11_rows_2 (by decide) ?_
  refine ev_istore_n dX11_rows_3 rfl (by decide) ?_
  show Ev _ _ _ _ 4 _ _ _ [(2, (173 : Int)), (0, x1), (0, (0 : Int)), (0, (0 : Int))] _
  exact ev_sub (L2 := [(2, (173 : Int)), (0, x1), (0, (0 : Int)), (0, (0 : Int))]) (e_X11_rows_4 σ x1 (0 : Int) (0 : Int) h) ⟨.inr rfl, .inr rfl, .inr rfl, .inr rfl, trivial⟩
def K_X11_next_100 (r : Option V × Mem × Mem) : (Int × Int × Mem) ⊕ ((Mem)) → Prop := Sum.elim (fun a => Ev M_X11_next 210 210 r 100 210 rho a.2.2 [(2, (173 : Int)), (9, 0), (9, 0), (9, 0), (9, 0), (0, a.1), (0, a.2.1)] []) (fun e => Ev M_X11_next 210 210 r 148 210 rho e [(9, 0), (9, 0), (9, 0), (9, 0), (9, 0), (9, 0), (9, 0)] [])
def K_X11_next_41 (σ : Mem) (x1 x2 : Int) (r : Option V × Mem × Mem) : (Int) ⊕ ((Int)) → Prop := Sum.elim (fun a => Ev M_X11_next 210 210 r 41 210 rho σ [(2, (173 : Int)), (0, x1), (0, x2), (0, a), (9, 0), (9, 0), (9, 0)] []) (fun e => Ev M_X11_next 210 210 r 62 210 rho σ [(2, (173 : Int)), (0, x1), (0, x2), (0, e), (9, 0), (9, 0), (9, 0)] [])
def K_X11_next_4 (σ : Mem) (x1 : Int) (r : Option V × Mem × Mem) : (Int) ⊕ ((Int)) → Prop := Sum.elim (fun a => Ev M_X11_next 210 210 r 4 210 rho σ [(2, (173 : Int)), (0, x1), (0, a), (9, 0), (9, 0), (9, 0), (9, 0)] []) (fun e => Ev M_X11_next 210 210 r 31 210 rho σ [(2, (173 : Int)), (0, x1), (0, e), (9, 0), (9, 0), (9, 0), (9, 0)] [])
set_option maxHeartbeats 4000000 in
set_option maxRecDepth 20000 in
theorem b_X11_next_100  {r : Option V × Mem × Mem} : ∀ a x, f_X11_next_100B  a = some x → K_X11_next_100  r x → K_X11_next_100  r (.inl a) := by
  intro a x h K
  obtain ⟨x5, x6, σ⟩ := a
  have h : f_X11_next_100C  x5 x6 σ = some x := h
  unfold f_X11_next_100C at h
  show Ev M_X11_next 210 210 r 100 210 rho σ [(2, (173 : Int)), (9, 0), (9, 0), (9, 0), (9, 0), (0, x5), (0, x6)] []
  refine ev_iload dX11_next_100 rfl ?_
  refine ev_iload dX11_next_102 rfl ?_
  refine ev_icmp_ge (tgt := 148) dX11_next_104 rfl h (fun cb h => ?_) (fun cb h => ?_)
  · obtain rfl := Option.some.inj h
    exact ev_sub (L2 := [(9, 0), (9, 0), (9, 0), (9, 0), (9, 0), (9, 0), (9, 0)]) K ⟨.inl rfl, .inl rfl, .inl rfl, .inl rfl, .inl rfl, .inl rfl, .inl rfl, trivial⟩
  refine ev_aload_n dX11_next_107 rfl (by decide) ?_
  refine ev_getf (j := 16) (t := 2) (x := (184 : Int)) dX11_next_108 cf_X11 wf_X11_42 sp173 (by decide) (by decide) rfl (by decide) (rp173_16 _) ?_
  refine ev_iload dX11_next_111 rfl ?_
  refine ev_iald dX11_next_113 sp184 (by decide) (by decide) h (fun h => ?_)
  refine ev_istoreG dX11_next_114 h rfl (by decide) (fun v10 h => ?_)
  show Ev _ _ _ _ 116 _ _ _ [(2, (173 : Int)), (9, 0), (9, 0), (9, 0), (0, v10), (0, x5), (0, x6)] _
  refine ev_aload_n dX11_next_116 rfl (by decide) ?_
  refine ev_getf (j := 16) (t := 2) (x := (184 : Int)) dX11_next_117 cf_X11 wf_X11_42 sp173 (by decide) (by decide) rfl (by decide) (rp173_16 _) ?_
  refine ev_iload dX11_next_120 rfl ?_
  refine ev_aload_n dX11_next_122 rfl (by decide) ?_
  refine ev_getf (j := 16) (t := 2) (x := (184 : Int)) dX11_next_123 cf_X11 wf_X11_42 sp173 (by decide) (by decide) rfl (by decide) (rp173_16 _) ?_
  refine ev_iload dX11_next_126 rfl ?_
  show Ev _ _ _ _ 128 _ _ _ _ _
  refine ev_iald dX11_next_128 sp184 (by decide) (by decide) h (fun h => ?_)
  refine ev_iastG dX11_next_129 sp184 (by decide) (by decide) h (fun σ11 h => ?_)
  refine ev_aload_n dX11_next_130 rfl (by decide) ?_
  refine ev_getf (j := 16) (t := 2) (x := (184 : Int)) dX11_next_131 cf_X11 wf_X11_42 sp173 (by decide) (by decide) rfl (by decide) (rp173_16 _) ?_
  refine ev_iload dX11_next_134 rfl ?_
  refine ev_iload dX11_next_136 rfl ?_
  refine ev_iastG dX11_next_138 sp184 (by decide) (by decide) h (fun σ12 h => ?_)
  refine ev_iincG dX11_next_139 rfl h rfl (fun v13 h => ?_)
  show Ev _ _ _ _ 142 _ _ _ [(2, (173 : Int)), (9, 0), (9, 0), (9, 0), (0, v10), (0, v13), (0, x6)] _
  refine ev_iincG dX11_next_142 rfl h rfl (fun v14 h => ?_)
  show Ev _ _ _ _ 145 _ _ _ [(2, (173 : Int)), (9, 0), (9, 0), (9, 0), (0, v10), (0, v13), (0, v14)] _
  refine ev_goto (tgt := 100) dX11_next_145 rfl ?_
  obtain rfl := Option.some.inj h
  exact ev_sub (L2 := [(2, (173 : Int)), (9, 0), (9, 0), (9, 0), (9, 0), (0, v13), (0, v14)]) K ⟨.inr rfl, .inl rfl, .inl rfl, .inl rfl, .inl rfl, .inr rfl, .inr rfl, trivial⟩
set_option maxHeartbeats 4000000 in
set_option maxRecDepth 20000 in
theorem e_X11_next_100 (σ : Mem) (x5 x6 : Int)  {q : (Int × Mem)} (h : f_X11_next_100 σ x5 x6 = some q) : Ev M_X11_next 210 210 (some (0, q.1), rho, q.2) 100 210 rho σ [(2, (173 : Int)), (9, 0), (9, 0), (9, 0), (9, 0), (0, x5), (0, x6)] [] := by
  unfold f_X11_next_100 at h
  obtain ⟨e, hl, h⟩ := bind_of h
  refine loop_ev (K := K_X11_next_100  (some (0, q.1), rho, q.2)) (b_X11_next_100 ) FU (x5, x6, σ) e hl ?_
  show Ev M_X11_next 210 210 _ 148 210 rho e [(9, 0), (9, 0), (9, 0), (9, 0), (9, 0), (9, 0), (9, 0)] []
  replace h : some ((1 : Int), e) = some q := h
  refine ev_iconst dX11_next_148 (by decide) ?_
  obtain rfl := Option.some.inj h
  exact ev_zret dX11_next_149 rfl (chk_pos (.inr rfl))
set_option maxHeartbeats 4000000 in
set_option maxRecDepth 20000 in
theorem e_X11_next_62 (σ : Mem) (x1 x2 x3 : Int)  {q : (Int × Mem)} (h : f_X11_next_62 σ x1 x2 x3 = some q) : Ev M_X11_next 210 210 (some (0, q.1), rho, q.2) 62 210 rho σ [(2, (173 : Int)), (0, x1), (0, x2), (0, x3), (9, 0), (9, 0), (9, 0)] [] := by
  unfold f_X11_next_62 at h
  refine ev_aload_n dX11_next_62 rfl (by decide) ?_
  refine ev_getf (j := 16) (t := 2) (x := (184 : Int)) dX11_next_63 cf_X11 wf_X11_42 sp173 (by decide) (by decide) rfl (by decide) (rp173_16 _) ?_
  refine ev_iload_n dX11_next_66 rfl ?_
  refine ev_iald dX11_next_67 sp184 (by decide) (by decide) h (fun h => ?_)
  refine ev_istoreG dX11_next_68 h rfl (by decide) (fun v5 h => ?_)
  show Ev _ _ _ _ 70 _ _ _ [(2, (173 : Int)), (0, x1), (0, x2), (0, x3), (0, v5), (9, 0), (9, 0)] _
  refine ev_aload_n dX11_next_70 rfl (by decide) ?_
  refine ev_getf (j := 16) (t := 2) (x := (184 : Int)) dX11_next_71 cf_X11 wf_X11_42 sp173 (by decide) (by decide) rfl (by decide) (rp173_16 _) ?_
  refine ev_iload_n dX11_next_74 rfl ?_
  refine ev_aload_n dX11_next_75 rfl (by decide) ?_
  refine ev_getf (j := 16) (t := 2) (x := (184 : Int)) dX11_next_76 cf_X11 wf_X11_42 sp173 (by decide) (by decide) rfl (by decide) (rp173_16 _) ?_
  refine ev_iload_n dX11_next_79 rfl ?_
  show Ev _ _ _ _ 80 _ _ _ _ _
  refine ev_iald dX11_next_80 sp184 (by decide) (by decide) h (fun h => ?_)
  refine ev_iastG dX11_next_81 sp184 (by decide) (by decide) h (fun σ6 h => ?_)
  refine ev_aload_n dX11_next_82 rfl (by decide) ?_
  refine ev_getf (j := 16) (t := 2) (x := (184 : Int)) dX11_next_83 cf_X11 wf_X11_42 sp173 (by decide) (by decide) rfl (by decide) (rp173_16 _) ?_
  refine ev_iload_n dX11_next_86 rfl ?_
  refine ev_iload dX11_next_87 rfl ?_
  refine ev_iastG dX11_next_89 sp184 (by decide) (by decide) h (fun σ7 h => ?_)
  refine ev_iload_n dX11_next_90 rfl ?_
  refine ev_iconst dX11_next_91 (by decide) ?_
  refine ev_iadd dX11_next_92 ?_
  refine ev_istoreG dX11_next_93 h rfl (by decide) (fun v8 h => ?_)
  show Ev _ _ _ _ 95 _ _ _ [(2, (173 : Int)), (0, x1), (0, x2), (0, x3), (0, v5), (0, v8), (9, 0)] _
  refine ev_iload_n dX11_next_95 rfl ?_
  show Ev _ _ _ _ 96 _ _ _ _ _
  refine ev_iconst dX11_next_96 (by decide) ?_
  refine ev_isub dX11_next_97 ?_
  refine ev_istoreG dX11_next_98 h rfl (by decide) (fun v9 h => ?_)
  show Ev _ _ _ _ 100 _ _ _ [(2, (173 : Int)), (0, x1), (0, x2), (0, x3), (0, v5), (0, v8), (0, v9)] _
  exact ev_sub (L2 := [(2, (173 : Int)), (9, 0), (9, 0), (9, 0), (9, 0), (0, v8), (0, v9)]) (e_X11_next_100 σ7 v8 v9 h) ⟨.inr rfl, .inl rfl, .inl rfl, .inl rfl, .inl rfl, .inr rfl, .inr rfl, trivial⟩
set_option maxHeartbeats 4000000 in
set_option maxRecDepth 20000 in
theorem b_X11_next_41 (σ : Mem) (x1 x2 : Int)  {r : Option V × Mem × Mem} : ∀ a x, f_X11_next_41B σ x1 x2 a = some x → K_X11_next_41 σ x1 x2 r x → K_X11_next_41 σ x1 x2 r (.inl a) := by
  intro a x h K
  have ⟨x3, ea⟩ : ∃ z, z = a := ⟨_, rfl⟩
  subst ea
  have h : f_X11_next_41C σ x1 x2 x3 = some x := h
  unfold f_X11_next_41C at h
  show Ev M_X11_next 210 210 r 41 210 rho σ [(2, (173 : Int)), (0, x1), (0, x2), (0, x3), (9, 0), (9, 0), (9, 0)] []
  refine ev_aload_n dX11_next_41 rfl (by decide) ?_
  refine ev_getf (j := 16) (t := 2) (x := (184 : Int)) dX11_next_42 cf_X11 wf_X11_42 sp173 (by decide) (by decide) rfl (by decide) (rp173_16 _) ?_
  refine ev_iload_n dX11_next_45 rfl ?_
  refine ev_iald dX11_next_46 sp184 (by decide) (by decide) h (fun h => ?_)
  refine ev_aload_n dX11_next_47 rfl (by decide) ?_
  refine ev_getf (j := 16) (t := 2) (x := (184 : Int)) dX11_next_48 cf_X11 wf_X11_42 sp173 (by decide) (by decide) rfl (by decide) (rp173_16 _) ?_
  refine ev_iload_n dX11_next_51 rfl ?_
  refine ev_iald dX11_next_52 sp184 (by decide) (by decide) h (fun h => ?_)
  refine ev_icmp_ge (tgt := 62) dX11_next_53 rfl h (fun cb h => ?_) (fun cb h => ?_)
  · obtain rfl := Option.some.inj h
    exact ev_sub (L2 := [(2, (173 : Int)), (0, x1), (0, x2), (0, x3), (9, 0), (9, 0), (9, 0)]) K ⟨.inr rfl, .inr rfl, .inr rfl, .inr rfl, .inl rfl, .inl rfl, .inl rfl, trivial⟩
  refine ev_iincG dX11_next_56 rfl h rfl (fun v4 h => ?_)
  show Ev _ _ _ _ 59 _ _ _ [(2, (173 : Int)), (0, x1), (0, x2), (0, v4), (9, 0), (9, 0), (9, 0)] _
  refine ev_goto (tgt := 41) dX11_next_59 rfl ?_
  obtain rfl := Option.some.inj h
  exact ev_sub (L2 := [(2, (173 : Int)), (0, x1), (0, x2), (0, v4), (9, 0), (9, 0), (9, 0)]) K ⟨.inr rfl, .inr rfl, .inr rfl, .inr rfl, .inl rfl, .inl rfl, .inl rfl, trivial⟩
set_option maxHeartbeats 4000000 in
set_option maxRecDepth 20000 in
theorem e_X11_next_41 (σ : Mem) (x1 x2 x3 : Int)  {q : (Int × Mem)} (h : f_X11_next_41 σ x1 x2 x3 = some q) : Ev M_X11_next 210 210 (some (0, q.1), rho, q.2) 41 210 rho σ [(2, (173 : Int)), (0, x1), (0, x2), (0, x3), (9, 0), (9, 0), (9, 0)] [] := by
  unfold f_X11_next_41 at h
  obtain ⟨e, hl, h⟩ := bind_of h
  refine loop_ev (K := K_X11_next_41 σ x1 x2 (some (0, q.1), rho, q.2)) (b_X11_next_41 σ x1 x2) FU x3 e hl ?_
  show Ev M_X11_next 210 210 _ 62 210 rho σ [(2, (173 : Int)), (0, x1), (0, x2), (0, e), (9, 0), (9, 0), (9, 0)] []
  replace h : f_X11_next_62 σ x1 x2 e = some q := h
  exact ev_sub (L2 := [(2, (173 : Int)), (0, x1), (0, x2), (0, e), (9, 0), (9, 0), (9, 0)]) (e_X11_next_62 σ x1 x2 e h) ⟨.inr rfl, .inr rfl, .inr rfl, .inr rfl, .inl rfl, .inl rfl, .inl rfl, trivial⟩
set_option maxHeartbeats 4000000 in
set_option maxRecDepth 20000 in
theorem e_X11_next_31 (σ : Mem) (x1 x2 : Int)  {q : (Int × Mem)} (h : f_X11_next_31 σ x1 x2 = some q) : Ev M_X11_next 210 210 (some (0, q.1), rho, q.2) 31 210 rho σ [(2, (173 : Int)), (0, x1), (0, x2), (9, 0), (9, 0), (9, 0), (9, 0)] [] := by
  unfold f_X11_next_31 at h
  refine ev_iload_n dX11_next_31 rfl ?_
  refine ev_if_ge (tgt := 37) dX11_next_32 rfl h (fun cb h => ?_) (fun cb h => ?_)
  · refine ev_iload_n dX11_next_37 rfl ?_
    refine ev_iconst dX11_next_38 (by decide) ?_
    refine ev_isub dX11_next_39 ?_
    refine ev_istore_nG dX11_next_40 h rfl (by decide) (fun v3 h => ?_)
    show Ev _ _ _ _ 41 _ _ _ [(2, (173 : Int)), (0, x1), (0, x2), (0, v3), (9, 0), (9, 0), (9, 0)] _
    exact ev_sub (L2 := [(2, (173 : Int)), (0, x1), (0, x2), (0, v3), (9, 0), (9, 0), (9, 0)]) (e_X11_next_41 σ x1 x2 v3 h) ⟨.inr rfl, .inr rfl, .inr rfl, .inr rfl, .inl rfl, .inl rfl, .inl rfl, trivial⟩
  refine ev_iconst dX11_next_35 (by decide) ?_
  obtain rfl := Option.some.inj h
  exact ev_zret dX11_next_36 rfl (chk_pos (.inl rfl))
set_option maxHeartbeats 4000000 in
set_option maxRecDepth 20000 in
theorem b_X11_next_4 (σ : Mem) (x1 : Int)  {r : Option V × Mem × Mem} : ∀ a x, f_X11_next_4B σ x1 a = some x → K_X11_next_4 σ x1 r x → K_X11_next_4 σ x1 r (.inl a) := by
  intro a x h K
  have ⟨x2, ea⟩ : ∃ z, z = a := ⟨_, rfl⟩
  subst ea
  have h : f_X11_next_4C σ x1 x2 = some x := h
  unfold f_X11_next_4C at h
  show Ev M_X11_next 210 210 r 4 210 rho σ [(2, (173 : Int)), (0, x1), (0, x2), (9, 0), (9, 0), (9, 0), (9, 0)] []
  refine ev_iload_n dX11_next_4 rfl ?_
  refine ev_if_lt (tgt := 31) dX11_next_5 rfl h (fun cb h => ?_) (fun cb h => ?_)
  · obtain rfl := Option.some.inj h
    exact ev_sub (L2 := [(2, (173 : Int)), (0, x1), (0, x2), (9, 0), (9, 0), (9, 0), (9, 0)]) K ⟨.inr rfl, .inr rfl, .inr rfl, .inl rfl, .inl rfl, .inl rfl, .inl rfl, trivial⟩
  refine ev_aload_n dX11_next_8 rfl (by decide) ?_
  refine ev_getf (j := 16) (t := 2) (x := (184 : Int)) dX11_next_9 cf_X11 wf_X11_42 sp173 (by decide) (by decide) rfl (by decide) (rp173_16 _) ?_
  refine ev_iload_n dX11_next_12 rfl ?_
  refine ev_iald dX11_next_13 sp184 (by decide) (by decide) h (fun h => ?_)
  refine ev_aload_n dX11_next_14 rfl (by decide) ?_
  refine ev_getf (j := 16) (t := 2) (x := (184 : Int)) dX11_next_15 cf_X11 wf_X11_42 sp173 (by decide) (by decide) rfl (by decide) (rp173_16 _) ?_
  refine ev_iload_n dX11_next_18 rfl ?_
  refine ev_iconst dX11_next_19 (by decide) ?_
  refine ev_iadd dX11_next_20 ?_
  refine ev_iald dX11_next_21 sp184 (by decide) (by decide) h (fun h => ?_)
  refine ev_icmp_le (tgt := 31) dX11_next_22 rfl h (fun cb h => ?_) (fun cb h => ?_)
  · obtain rfl := Option.some.inj h
    exact ev_sub (L2 := [(2, (173 : Int)), (0, x1), (0, x2), (9, 0), (9, 0), (9, 0), (9, 0)]) K ⟨.inr rfl, .inr rfl, .inr rfl, .inl rfl, .inl rfl, .inl rfl, .inl rfl, trivial⟩
  refine ev_iincG dX11_next_25 rfl h rfl (fun v2 h => ?_)
  show Ev _ _ _ _ 28 _ _ _ [(2, (173 : Int)), (0, x1), (0, v2), (9, 0), (9, 0), (9, 0), (9, 0)] _
  refine ev_goto (tgt := 4) dX11_next_28 rfl ?_
  obtain rfl := Option.some.inj h
  exact ev_sub (L2 := [(2, (173 : Int)), (0, x1), (0, v2), (9, 0), (9, 0), (9, 0), (9, 0)]) K ⟨.inr rfl, .inr rfl, .inr rfl, .inl rfl, .inl rfl, .inl rfl, .inl rfl, trivial⟩
set_option maxHeartbeats 4000000 in
set_option maxRecDepth 20000 in
theorem e_X11_next_4 (σ : Mem) (x1 x2 : Int)  {q : (Int × Mem)} (h : f_X11_next_4 σ x1 x2 = some q) : Ev M_X11_next 210 210 (some (0, q.1), rho, q.2) 4 210 rho σ [(2, (173 : Int)), (0, x1), (0, x2), (9, 0), (9, 0), (9, 0), (9, 0)] [] := by
  unfold f_X11_next_4 at h
  obtain ⟨e, hl, h⟩ := bind_of h
  refine loop_ev (K := K_X11_next_4 σ x1 (some (0, q.1), rho, q.2)) (b_X11_next_4 σ x1) FU x2 e hl ?_
  show Ev M_X11_next 210 210 _ 31 210 rho σ [(2, (173 : Int)), (0, x1), (0, e), (9, 0), (9, 0), (9, 0), (9, 0)] []
  replace h : f_X11_next_31 σ x1 e = some q := h
  exact ev_sub (L2 := [(2, (173 : Int)), (0, x1), (0, e), (9, 0), (9, 0), (9, 0), (9, 0)]) (e_X11_next_31 σ x1 e h) ⟨.inr rfl, .inr rfl, .inr rfl, .inl rfl, .inl rfl, .inl rfl, .inl rfl, trivial⟩
set_option maxHeartbeats 4000000 in
set_option maxRecDepth 20000 in
theorem c_X11_next {σ : Mem} {x1 : Int}  {q : (Int × Mem)} (h : f_X11_next σ x1 = some q) : Ms yX11_next M_X11_next 210 210 [(2, (173 : Int)), (0, x1)] rho σ (some (0, q.1), rho, q.2) := by
  refine Ms.of 5 (by decide +kernel) rfl (fun z => absurd z (by decide)) (fun _ _ _ => trivial) rfl rfl ?_
  unfold f_X11_next at h
  show Ev M_X11_next 210 210 _ 0 210 rho σ [(2, (173 : Int)), (0, x1), (9, 0), (9, 0), (9, 0), (9, 0), (9, 0)] []
  refine ev_iload_n dX11_next_0 rfl ?_
  refine ev_iconst dX11_next_1 (by decide) ?_
  refine ev_isub dX11_next_2 ?_
  refine ev_istore_nG dX11_next_3 h rfl (by decide) (fun v1 h => ?_)
  show Ev _ _ _ _ 4 _ _ _ [(2, (173 : Int)), (0, x1), (0, v1), (9, 0), (9, 0), (9, 0), (9, 0)] _
  exact ev_sub (L2 := [(2, (173 : Int)), (0, x1), (0, v1), (9, 0), (9, 0), (9, 0), (9, 0)]) (e_X11_next_4 σ x1 v1 h) ⟨.inr rfl, .inr rfl, .inr rfl, .inl rfl, .inl rfl, .inl rfl, .inl rfl, trivial⟩
def K_X11_isLaid_10 (x1 x2 x3 : Int) (r : Option V × Mem × Mem) : (Int × Int × Int × Mem) ⊕ ((Int × Int × Mem)) → Prop := Sum.elim (fun a => Ev M_X11_isLaid 210 210 r 10 210 rho a.2.2.2 [(2, (173 : Int)), (0, x1), (0, x2), (0, x3), (9, 0), (0, a.1), (0, a.2.1), (0, a.2.2.1), (9, 0)] []) (fun e => Ev M_X11_isLaid 210 210 r 139 210 rho e.2.2 [(2, (173 : Int)), (9, 0), (9, 0), (9, 0), (9, 0), (0, e.1), (0, e.2.1), (9, 0), (9, 0)] [])
set_option maxHeartbeats 4000000 in
set_option maxRecDepth 20000 in
theorem e_X11_isLaid_131 (σ : Mem) (x1 x2 x3 x5 x7 s0 : Int)  {q : ((Int × Int × Int × Mem) ⊕ ((Int × Int × Mem)))} (h : f_X11_isLaid_131 σ x1 x2 x3 x5 x7 s0 = some q) {r : Option V × Mem × Mem} (K : K_X11_isLaid_10 x1 x2 x3 r q) : Ev M_X11_isLaid 210 210 r 131 210 rho σ [(2, (173 : Int)), (0, x1), (0, x2), (0, x3), (9, 0), (0, x5), (9, 0), (0, x7), (9, 0)] [(0, s0)] := by
  unfold f_X11_isLaid_131 at h
  refine ev_istore dX11_isLaid_131 rfl (by decide) ?_
  show Ev _ _ _ _ 133 _ _ _ [(2, (173 : Int)), (0, x1), (0, x2), (0, x3), (9, 0), (0, x5), (0, s0), (0, x7), (9, 0)] _
  refine ev_iincG dX11_isLaid_133 rfl h rfl (fun v12 h => ?_)
  show Ev _ _ _ _ 136 _ _ _ [(2, (173 : Int)), (0, x1), (0, x2), (0, x3), (9, 0), (0, x5), (0, s0), (0, v12), (9, 0)] _
  refine ev_goto (tgt := 10) dX11_isLaid_136 rfl ?_
  obtain rfl := Option.some.inj h
  exact ev_sub (L2 := [(2, (173 : Int)), (0, x1), (0, x2), (0, x3), (9, 0), (0, x5), (0, s0), (0, v12), (9, 0)]) K ⟨.inr rfl, .inr rfl, .inr rfl, .inr rfl, .inl rfl, .inr rfl, .inr rfl, .inr rfl, .inl rfl, trivial⟩
set_option maxHeartbeats 4000000 in
set_option maxRecDepth 20000 in
theorem e_X11_isLaid_130 (σ : Mem) (x1 x2 x3 x5 x7 : Int)  {q : ((Int × Int × Int × Mem) ⊕ ((Int × Int × Mem)))} (h : f_X11_isLaid_130 σ x1 x2 x3 x5 x7 = some q) {r : Option V × Mem × Mem} (K : K_X11_isLaid_10 x1 x2 x3 r q) : Ev M_X11_isLaid 210 210 r 130 210 rho σ [(2, (173 : Int)), (0, x1), (0, x2), (0, x3), (9, 0), (0, x5), (9, 0), (0, x7), (9, 0)] [] := by
  unfold f_X11_isLaid_130 at h
  refine ev_iconst dX11_isLaid_130 (by decide) ?_
  exact ev_sub (L2 := [(2, (173 : Int)), (0, x1), (0, x2), (0, x3), (9, 0), (0, x5), (9, 0), (0, x7), (9, 0)]) (e_X11_isLaid_131 σ x1 x2 x3 x5 x7 (0 : Int) h K) ⟨.inr rfl, .inr rfl, .inr rfl, .inr rfl, .inl rfl, .inr rfl, .inl rfl, .inr rfl, .inl rfl, trivial⟩
set_option maxHeartbeats 4000000 in
set_option maxRecDepth 20000 in
theorem e_X11_isLaid_40 (σ : Mem) (x1 x2 x3 x5 x6 x7 s0 : Int)  {q : ((Int × Int × Int × Mem) ⊕ ((Int × Int × Mem)))} (h : f_X11_isLaid_40 σ x1 x2 x3 x5 x6 x7 s0 = some q) {r : Option V × Mem × Mem} (K : K_X11_isLaid_10 x1 x2 x3 r q) : Ev M_X11_isLaid 210 210 r 40 210 rho σ [(2, (173 : Int)), (0, x1), (0, x2), (0, x3), (9, 0), (0, x5), (0, x6), (0, x7), (9, 0)] [(0, s0)] := by
  unfold f_X11_isLaid_40 at h
  refine ev_istore dX11_isLaid_40 rfl (by decide) ?_
  show Ev _ _ _ _ 42 _ _ _ [(2, (173 : Int)), (0, x1), (0, x2), (0, x3), (9, 0), (0, x5), (0, x6), (0, x7), (0, s0)] _
  refine ev_aload_n dX11_isLaid_42 rfl (by decide) ?_
  refine ev_getf (j := 17) (t := 2) (x := (185 : Int)) dX11_isLaid_43 cf_X11 wf_X11_45 sp173 (by decide) (by decide) rfl (by decide) (rp173_17 _) ?_
  refine ev_iload dX11_isLaid_46 rfl ?_
  refine ev_iload dX11_isLaid_48 rfl ?_
  refine ev_aload_n dX11_isLaid_50 rfl (by decide) ?_
  refine ev_aload_n dX11_isLaid_51 rfl (by decide) ?_
  refine ev_getf (j := 16) (t := 2) (x := (184 : Int)) dX11_isLaid_52 cf_X11 wf_X11_42 sp173 (by decide) (by decide) rfl (by decide) (rp173_16 _) ?_
  refine ev_iload dX11_isLaid_55 rfl ?_
  refine ev_iald dX11_isLaid_57 sp184 (by decide) (by decide) h (fun h => ?_)
  obtain ⟨v3, hc4, h⟩ := bind_of h
  refine ev_invV_v (k := (173 : Int)) (av := [(0, (σ (184 : Int) x7))]) (st := [(0, s0), (0, x7), (2, (185 : Int))]) (v := (0, v3)) (τ := σ) dX11_isLaid_58 ml_X11_255 mv_X11_start (T := TX11) (ci := 10) rfl sp173 (by decide) (by decide) rfl ⟨Nat.le_of_ble_eq_true rfl, Nat.le_of_ble_eq_true rfl⟩ (Nat.le_of_ble_eq_true rfl) (c_X11_start hc4) ?_
  show Ev _ _ _ _ 61 _ _ _ _ _
  refine ev_mx dX11_isLaid_61 wa_X11_258 wm_max (by decide) (Nat.le_of_ble_eq_true rfl) ?_
  refine ev_iastG dX11_isLaid_64 sp185 (by decide) (by decide) h (fun σ5 h => ?_)
  refine ev_aload_n dX11_isLaid_65 rfl (by decide) ?_
  refine ev_getf (j := 18) (t := 2) (x := (186 : Int)) dX11_isLaid_66 cf_X11 wf_X11_48 sp173 (by decide) (by decide) rfl (by decide) (rp173_18 _) ?_
  refine ev_iload dX11_isLaid_69 rfl ?_
  refine ev_aload_n dX11_isLaid_71 rfl (by decide) ?_
  refine ev_getf (j := 17) (t := 2) (x := (185 : Int)) dX11_isLaid_72 cf_X11 wf_X11_45 sp173 (by decide) (by decide) rfl (by decide) (rp173_17 _) ?_
  refine ev_iload dX11_isLaid_75 rfl ?_
  refine ev_iald dX11_isLaid_77 sp185 (by decide) (by decide) h (fun h => ?_)
  refine ev_aload_n dX11_isLaid_78 rfl (by decide) ?_
  refine ev_iload_n dX11_isLaid_79 rfl ?_
  refine ev_aload_n dX11_isLaid_80 rfl (by decide) ?_
  show Ev _ _ _ _ 81 _ _ _ _ _
  refine ev_getf (j := 16) (t := 2) (x := (184 : Int)) dX11_isLaid_81 cf_X11 wf_X11_42 sp173 (by decide) (by decide) rfl (by decide) (rp173_16 _) ?_
  refine ev_iload dX11_isLaid_84 rfl ?_
  refine ev_iald dX11_isLaid_86 sp184 (by decide) (by decide) h (fun h => ?_)
  obtain ⟨v6, hc7, h⟩ := bind_of h
  refine ev_invV_v (k := (173 : Int)) (av := [(0, x1), (0, (σ5 (184 : Int) x7))]) (st := [(0, (σ5 (185 : Int) x7)), (0, x7), (2, (186 : Int))]) (v := (0, v6)) (τ := σ5) dX11_isLaid_87 ml_X11_263 mv_X11_timed (T := TX11) (ci := 10) rfl sp173 (by decide) (by decide) rfl ⟨Nat.le_of_ble_eq_true rfl, Nat.le_of_ble_eq_true rfl⟩ (Nat.le_of_ble_eq_true rfl) (c_X11_timed hc7) ?_
  refine ev_iadd dX11_isLaid_90 ?_
  refine ev_iastG dX11_isLaid_91 sp186 (by decide) (by decide) h (fun σ8 h => ?_)
  refine ev_iload dX11_isLaid_92 rfl ?_
  refine ev_aload_n dX11_isLaid_94 rfl (by decide) ?_
  refine ev_iload_n dX11_isLaid_95 rfl ?_
  refine ev_aload_n dX11_isLaid_96 rfl (by decide) ?_
  refine ev_getf (j := 16) (t := 2) (x := (184 : Int)) dX11_isLaid_97 cf_X11 wf_X11_42 sp173 (by decide) (by decide) rfl (by decide) (rp173_16 _) ?_
  refine ev_iload dX11_isLaid_100 rfl ?_
  show Ev _ _ _ _ 102 _ _ _ _ _
  refine ev_iald dX11_isLaid_102 sp184 (by decide) (by decide) h (fun h => ?_)
  obtain ⟨v9, hc10, h⟩ := bind_of h
  refine ev_invV_v (k := (173 : Int)) (av := [(0, x1), (0, (σ8 (184 : Int) x7))]) (st := [(0, x5)]) (v := (0, v9)) (τ := σ8) dX11_isLaid_103 ml_X11_263 mv_X11_timed (T := TX11) (ci := 10) rfl sp173 (by decide) (by decide) rfl ⟨Nat.le_of_ble_eq_true rfl, Nat.le_of_ble_eq_true rfl⟩ (Nat.le_of_ble_eq_true rfl) (c_X11_timed hc10) ?_
  refine ev_iadd dX11_isLaid_106 ?_
  refine ev_istoreG dX11_isLaid_107 h rfl (by decide) (fun v11 h => ?_)
  show Ev _ _ _ _ 109 _ _ _ [(2, (173 : Int)), (0, x1), (0, x2), (0, x3), (9, 0), (0, v11), (0, x6), (0, x7), (0, s0)] _
  refine ev_iload dX11_isLaid_109 rfl ?_
  refine ev_if_eq (tgt := 130) dX11_isLaid_111 rfl h (fun cb h => ?_) (fun cb h => ?_)
  · exact ev_sub (L2 := [(2, (173 : Int)), (0, x1), (0, x2), (0, x3), (9, 0), (0, v11), (9, 0), (0, x7), (9, 0)]) (e_X11_isLaid_130 σ8 x1 x2 x3 v11 x7 h K) ⟨.inr rfl, .inr rfl, .inr rfl, .inr rfl, .inl rfl, .inr rfl, .inl rfl, .inr rfl, .inl rfl, trivial⟩
  refine ev_aload_n dX11_isLaid_114 rfl (by decide) ?_
  refine ev_getf (j := 18) (t := 2) (x := (186 : Int)) dX11_isLaid_115 cf_X11 wf_X11_48 sp173 (by decide) (by decide) rfl (by decide) (rp173_18 _) ?_
  refine ev_iload dX11_isLaid_118 rfl ?_
  refine ev_iald dX11_isLaid_120 sp186 (by decide) (by decide) h (fun h => ?_)
  refine ev_bipush dX11_isLaid_121 (by decide) (by decide) ?_
  refine ev_icmp_gt (tgt := 130) dX11_isLaid_123 rfl h (fun cb h => ?_) (fun cb h => ?_)
  · exact ev_sub (L2 := [(2, (173 : Int)), (0, x1), (0, x2), (0, x3), (9, 0), (0, v11), (9, 0), (0, x7), (9, 0)]) (e_X11_isLaid_130 σ8 x1 x2 x3 v11 x7 h K) ⟨.inr rfl, .inr rfl, .inr rfl, .inr rfl, .inl rfl, .inr rfl, .inl rfl, .inr rfl, .inl rfl, trivial⟩
  refine ev_iconst dX11_isLaid_126 (by decide) ?_
  refine ev_goto (tgt := 131) dX11_isLaid_127 rfl ?_
  exact ev_sub (L2 := [(2, (173 : Int)), (0, x1), (0, x2), (0, x3), (9, 0), (0, v11), (9, 0), (0, x7), (9, 0)]) (e_X11_isLaid_131 σ8 x1 x2 x3 v11 x7 (1 : Int) h K) ⟨.inr rfl, .inr rfl, .inr rfl, .inr rfl, .inl rfl, .inr rfl, .inl rfl, .inr rfl, .inl rfl, trivial⟩
set_option maxHeartbeats 4000000 in
set_option maxRecDepth 20000 in
theorem e_X11_isLaid_139 (σ : Mem) (x5 x6 : Int)  {q : (Int × Mem)} (h : f_X11_isLaid_139 σ x5 x6 = some q) : Ev M_X11_isLaid 210 210 (some (0, q.1), rho, q.2) 139 210 rho σ [(2, (173 : Int)), (9, 0), (9, 0), (9, 0), (9, 0), (0, x5), (0, x6), (9, 0), (9, 0)] [] := by
  unfold f_X11_isLaid_139 at h
  refine ev_iload dX11_isLaid_139 rfl ?_
  refine ev_if_eq (tgt := 160) dX11_isLaid_141 rfl h (fun cb h => ?_) (fun cb h => ?_)
  · refine ev_iconst dX11_isLaid_160 (by decide) ?_
    obtain rfl := Option.some.inj h
    exact ev_zret dX11_isLaid_161 rfl (chk_pos (.inl rfl))
  refine ev_iload dX11_isLaid_144 rfl ?_
  refine ev_aload_n dX11_isLaid_146 rfl (by decide) ?_
  refine ev_getf (j := 0) (t := 2) (x := (174 : Int)) dX11_isLaid_147 cf_X11 wf_X11_7 sp173 (by decide) (by decide) rfl (by decide) (rp173_0 _) ?_
  refine ev_bipush dX11_isLaid_150 (by decide) (by decide) ?_
  refine ev_iald dX11_isLaid_152 sp174 (by decide) (by decide) h (fun h => ?_)
  refine ev_icmp_gt (tgt := 160) dX11_isLaid_153 rfl h (fun cb h => ?_) (fun cb h => ?_)
  · refine ev_iconst dX11_isLaid_160 (by decide) ?_
    obtain rfl := Option.some.inj h
    exact ev_zret dX11_isLaid_161 rfl (chk_pos (.inl rfl))
  refine ev_iconst dX11_isLaid_156 (by decide) ?_
  refine ev_goto (tgt := 161) dX11_isLaid_157 rfl ?_
  obtain rfl := Option.some.inj h
  exact ev_zret dX11_isLaid_161 rfl (chk_pos (.inr rfl))
set_option maxHeartbeats 4000000 in
set_option maxRecDepth 20000 in
theorem b_X11_isLaid_10 (x1 x2 x3 : Int)  {r : Option V × Mem × Mem} : ∀ a x, f_X11_isLaid_10B x1 x2 x3 a = some x → K_X11_isLaid_10 x1 x2 x3 r x → K_X11_isLaid_10 x1 x2 x3 r (.inl a) := by
  intro a x h K
  obtain ⟨x5, x6, x7, σ⟩ := a
  have h : f_X11_isLaid_10C x1 x2 x3 x5 x6 x7 σ = some x := h
  unfold f_X11_isLaid_10C at h
  show Ev M_X11_isLaid 210 210 r 10 210 rho σ [(2, (173 : Int)), (0, x1), (0, x2), (0, x3), (9, 0), (0, x5), (0, x6), (0, x7), (9, 0)] []
  refine ev_iload dX11_isLaid_10 rfl ?_
  refine ev_iload_n dX11_isLaid_12 rfl ?_
  refine ev_icmp_ge (tgt := 139) dX11_isLaid_13 rfl h (fun cb h => ?_) (fun cb h => ?_)
  · obtain rfl := Option.some.inj h
    exact ev_sub (L2 := [(2, (173 : Int)), (9, 0), (9, 0), (9, 0), (9, 0), (0, x5), (0, x6), (9, 0), (9, 0)]) K ⟨.inr rfl, .inl rfl, .inl rfl, .inl rfl, .inl rfl, .inr rfl, .inr rfl, .inl rfl, .inl rfl, trivial⟩
  refine ev_iload dX11_isLaid_16 rfl ?_
  refine ev_if_ne (tgt := 25) dX11_isLaid_18 rfl h (fun cb h => ?_) (fun cb h => ?_)
  · refine ev_aload_n dX11_isLaid_25 rfl (by decide) ?_
    refine ev_getf (j := 18) (t := 2) (x := (186 : Int)) dX11_isLaid_26 cf_X11 wf_X11_48 sp173 (by decide) (by decide) rfl (by decide) (rp173_18 _) ?_
    refine ev_iload dX11_isLaid_29 rfl ?_
    refine ev_iconst dX11_isLaid_31 (by decide) ?_
    refine ev_isub dX11_isLaid_32 ?_
    refine ev_iald dX11_isLaid_33 sp186 (by decide) (by decide) h (fun h => ?_)
    refine ev_aload_n dX11_isLaid_34 rfl (by decide) ?_
    refine ev_iload_n dX11_isLaid_35 rfl ?_
    obtain ⟨v1, hc2, h⟩ := bind_of h
    refine ev_invV_v (k := (173 : Int)) (av := [(0, x1)]) (st := [(0, (σ (186 : Int) (jsub x7 (1 : Int))))]) (v := (0, v1)) (τ := σ) dX11_isLaid_36 ml_X11_252 mv_X11_rest (T := TX11) (ci := 10) rfl sp173 (by decide) (by decide) rfl ⟨Nat.le_of_ble_eq_true rfl, Nat.le_of_ble_eq_true rfl⟩ (Nat.le_of_ble_eq_true rfl) (c_X11_rest hc2) ?_
    refine ev_iadd dX11_isLaid_39 ?_
    exact ev_sub (L2 := [(2, (173 : Int)), (0, x1), (0, x2), (0, x3), (9, 0), (0, x5), (0, x6), (0, x7), (9, 0)]) (e_X11_isLaid_40 σ x1 x2 x3 x5 x6 x7 (jadd (σ (186 : Int) (jsub x7 (1 : Int))) v1) h K) ⟨.inr rfl, .inr rfl, .inr rfl, .inr rfl, .inl rfl, .inr rfl, .inr rfl, .inr rfl, .inl rfl, trivial⟩
  refine ev_iload_n dX11_isLaid_21 rfl ?_
  refine ev_goto (tgt := 40) dX11_isLaid_22 rfl ?_
  exact ev_sub (L2 := [(2, (173 : Int)), (0, x1), (0, x2), (0, x3), (9, 0), (0, x5), (0, x6), (0, x7), (9, 0)]) (e_X11_isLaid_40 σ x1 x2 x3 x5 x6 x7 x3 h K) ⟨.inr rfl, .inr rfl, .inr rfl, .inr rfl, .inl rfl, .inr rfl, .inr rfl, .inr rfl, .inl rfl, trivial⟩
set_option maxHeartbeats 4000000 in
set_option maxRecDepth 20000 in
theorem e_X11_isLaid_10 (σ : Mem) (x1 x2 x3 x5 x6 x7 : Int)  {q : (Int × Mem)} (h : f_X11_isLaid_10 σ x1 x2 x3 x5 x6 x7 = some q) : Ev M_X11_isLaid 210 210 (some (0, q.1), rho, q.2) 10 210 rho σ [(2, (173 : Int)), (0, x1), (0, x2), (0, x3), (9, 0), (0, x5), (0, x6), (0, x7), (9, 0)] [] := by
  unfold f_X11_isLaid_10 at h
  obtain ⟨e, hl, h⟩ := bind_of h
  refine loop_ev (K := K_X11_isLaid_10 x1 x2 x3 (some (0, q.1), rho, q.2)) (b_X11_isLaid_10 x1 x2 x3) FU (x5, x6, x7, σ) e hl ?_
  show Ev M_X11_isLaid 210 210 _ 139 210 rho e.2.2 [(2, (173 : Int)), (9, 0), (9, 0), (9, 0), (9, 0), (0, e.1), (0, e.2.1), (9, 0), (9, 0)] []
  replace h : f_X11_isLaid_139 e.2.2 e.1 e.2.1 = some q := h
  exact ev_sub (L2 := [(2, (173 : Int)), (9, 0), (9, 0), (9, 0), (9, 0), (0, e.1), (0, e.2.1), (9, 0), (9, 0)]) (e_X11_isLaid_139 e.2.2 e.1 e.2.1 h) ⟨.inr rfl, .inl rfl, .inl rfl, .inl rfl, .inl rfl, .inr rfl, .inr rfl, .inl rfl, .inl rfl, trivial⟩
set_option maxHeartbeats 4000000 in
set_option maxRecDepth 20000 in
theorem c_X11_isLaid {σ : Mem} {x1 x2 x3 x4 : Int}  {q : (Int × Mem)} (h : f_X11_isLaid σ x1 x2 x3 x4 = some q) : Ms yX11_isLaid M_X11_isLaid 210 210 [(2, (173 : Int)), (0, x1), (0, x2), (0, x3), (0, x4)] rho σ (some (0, q.1), rho, q.2) := by
  refine Ms.of 4 (by decide +kernel) rfl (fun z => absurd z (by decide)) (fun _ _ _ => trivial) rfl rfl ?_
  unfold f_X11_isLaid at h
  show Ev M_X11_isLaid 210 210 _ 0 210 rho σ [(2, (173 : Int)), (0, x1), (0, x2), (0, x3), (0, x4), (9, 0), (9, 0), (9, 0), (9, 0)] []
  refine ev_iload dX11_isLaid_0 rfl ?_
  refine ev_istore dX11_isLaid_2 rfl (by decide) ?_
  show Ev _ _ _ _ 4 _ _ _ [(2, (173 : Int)), (0, x1), (0, x2), (0, x3), (0, x4), (0, x4), (9, 0), (9, 0), (9, 0)] _
  refine ev_iconst dX11_isLaid_4 (by decide) ?_
  refine ev_istore dX11_isLaid_5 rfl (by decide) ?_
  show Ev _ _ _ _ 7 _ _ _ [(2, (173 : Int)), (0, x1), (0, x2), (0, x3), (0, x4), (0, x4), (0, (1 : Int)), (9, 0), (9, 0)] _
  refine ev_iconst dX11_isLaid_7 (by decide) ?_
  refine ev_istore dX11_isLaid_8 rfl (by decide) ?_
  show Ev _ _ _ _ 10 _ _ _ [(2, (173 : Int)), (0, x1), (0, x2), (0, x3), (0, x4), (0, x4), (0, (1 : Int)), (0, (0 : Int)), (9, 0)] _
  exact ev_sub (L2 := [(2, (173 : Int)), (0, x1), (0, x2), (0, x3), (9, 0), (0, x4), (0, (1 : Int)), (0, (0 : Int)), (9, 0)]) (e_X11_isLaid_10 σ x1 x2 x3 x4 (1 : Int) (0 : Int) h) ⟨.inr rfl, .inr rfl, .inr rfl, .inr rfl, .inl rfl, .inr rfl, .inr rfl, .inr rfl, .inl rfl, trivial⟩
def K_X11_isSitting_5 (σ : Mem) (x1 x2 : Int) (r : Option V × Mem × Mem) : (Int × Int) ⊕ ((Int)) → Prop := Sum.elim (fun a => Ev M_X11_isSitting 210 210 r 5 210 rho σ [(2, (173 : Int)), (0, x1), (0, x2), (0, a.1), (0, a.2)] []) (fun e => Ev M_X11_isSitting 210 210 r 49 210 rho σ [(9, 0), (9, 0), (9, 0), (0, e), (9, 0)] [])
set_option maxHeartbeats 4000000 in
set_option maxRecDepth 20000 in
theorem e_X11_isSitting_42 (σ : Mem) (x1 x2 x4 s0 : Int)  {q : ((Int × Int) ⊕ ((Int)))} (h : f_X11_isSitting_42 σ x1 x2 x4 s0 = some q) {r : Option V × Mem × Mem} (K : K_X11_isSitting_5 σ x1 x2 r q) : Ev M_X11_isSitting 210 210 r 42 210 rho σ [(2, (173 : Int)), (0, x1), (0, x2), (9, 0), (0, x4)] [(0, s0)] := by
  unfold f_X11_isSitting_42 at h
  refine ev_istore_n dX11_isSitting_42 rfl (by decide) ?_
  show Ev _ _ _ _ 43 _ _ _ [(2, (173 : Int)), (0, x1), (0, x2), (0, s0), (0, x4)] _
  refine ev_iincG dX11_isSitting_43 rfl h rfl (fun v1 h => ?_)
  show Ev _ _ _ _ 46 _ _ _ [(2, (173 : Int)), (0, x1), (0, x2), (0, s0), (0, v1)] _
  refine ev_goto (tgt := 5) dX11_isSitting_46 rfl ?_
  obtain rfl := Option.some.inj h
  exact ev_sub (L2 := [(2, (173 : Int)), (0, x1), (0, x2), (0, s0), (0, v1)]) K ⟨.inr rfl, .inr rfl, .inr rfl, .inr rfl, .inr rfl, trivial⟩
set_option maxHeartbeats 4000000 in
set_option maxRecDepth 20000 in
theorem e_X11_isSitting_37 (σ : Mem) (x1 x2 x4 : Int)  {q : ((Int × Int) ⊕ ((Int)))} (h : f_X11_isSitting_37 σ x1 x2 x4 = some q) {r : Option V × Mem × Mem} (K : K_X11_isSitting_5 σ x1 x2 r q) : Ev M_X11_isSitting 210 210 r 37 210 rho σ [(2, (173 : Int)), (0, x1), (0, x2), (9, 0), (0, x4)] [] := by
  unfold f_X11_isSitting_37 at h
  refine ev_iconst dX11_isSitting_37 (by decide) ?_
  refine ev_goto (tgt := 42) dX11_isSitting_38 rfl ?_
  exact ev_sub (L2 := [(2, (173 : Int)), (0, x1), (0, x2), (9, 0), (0, x4)]) (e_X11_isSitting_42 σ x1 x2 x4 (1 : Int) h K) ⟨.inr rfl, .inr rfl, .inr rfl, .inl rfl, .inr rfl, trivial⟩
set_option maxHeartbeats 4000000 in
set_option maxRecDepth 20000 in
theorem e_X11_isSitting_41 (σ : Mem) (x1 x2 x4 : Int)  {q : ((Int × Int) ⊕ ((Int)))} (h : f_X11_isSitting_41 σ x1 x2 x4 = some q) {r : Option V × Mem × Mem} (K : K_X11_isSitting_5 σ x1 x2 r q) : Ev M_X11_isSitting 210 210 r 41 210 rho σ [(2, (173 : Int)), (0, x1), (0, x2), (9, 0), (0, x4)] [] := by
  unfold f_X11_isSitting_41 at h
  refine ev_iconst dX11_isSitting_41 (by decide) ?_
  exact ev_sub (L2 := [(2, (173 : Int)), (0, x1), (0, x2), (9, 0), (0, x4)]) (e_X11_isSitting_42 σ x1 x2 x4 (0 : Int) h K) ⟨.inr rfl, .inr rfl, .inr rfl, .inl rfl, .inr rfl, trivial⟩
set_option maxHeartbeats 4000000 in
set_option maxRecDepth 20000 in
theorem b_X11_isSitting_5 (σ : Mem) (x1 x2 : Int)  {r : Option V × Mem × Mem} : ∀ a x, f_X11_isSitting_5B σ x1 x2 a = some x → K_X11_isSitting_5 σ x1 x2 r x → K_X11_isSitting_5 σ x1 x2 r (.inl a) := by
  intro a x h K
  obtain ⟨x3, x4⟩ := a
  have h : f_X11_isSitting_5C σ x1 x2 x3 x4 = some x := h
  unfold f_X11_isSitting_5C at h
  show Ev M_X11_isSitting 210 210 r 5 210 rho σ [(2, (173 : Int)), (0, x1), (0, x2), (0, x3), (0, x4)] []
  refine ev_iload dX11_isSitting_5 rfl ?_
  refine ev_iload_n dX11_isSitting_7 rfl ?_
  refine ev_icmp_ge (tgt := 49) dX11_isSitting_8 rfl h (fun cb h => ?_) (fun cb h => ?_)
  · obtain rfl := Option.some.inj h
    exact ev_sub (L2 := [(9, 0), (9, 0), (9, 0), (0, x3), (9, 0)]) K ⟨.inl rfl, .inl rfl, .inl rfl, .inr rfl, .inl rfl, trivial⟩
  refine ev_iload_n dX11_isSitting_11 rfl ?_
  refine ev_if_ne (tgt := 37) dX11_isSitting_12 rfl h (fun cb h => ?_) (fun cb h => ?_)
  · exact ev_sub (L2 := [(2, (173 : Int)), (0, x1), (0, x2), (9, 0), (0, x4)]) (e_X11_isSitting_37 σ x1 x2 x4 h K) ⟨.inr rfl, .inr rfl, .inr rfl, .inl rfl, .inr rfl, trivial⟩
  refine ev_iload_n dX11_isSitting_15 rfl ?_
  refine ev_aload_n dX11_isSitting_16 rfl (by decide) ?_
  refine ev_getf (j := 17) (t := 2) (x := (185 : Int)) dX11_isSitting_17 cf_X11 wf_X11_45 sp173 (by decide) (by decide) rfl (by decide) (rp173_17 _) ?_
  refine ev_iload dX11_isSitting_20 rfl ?_
  refine ev_iald dX11_isSitting_22 sp185 (by decide) (by decide) h (fun h => ?_)
  refine ev_icmp_lt (tgt := 41) dX11_isSitting_23 rfl h (fun cb h => ?_) (fun cb h => ?_)
  · exact ev_sub (L2 := [(2, (173 : Int)), (0, x1), (0, x2), (9, 0), (0, x4)]) (e_X11_isSitting_41 σ x1 x2 x4 h K) ⟨.inr rfl, .inr rfl, .inr rfl, .inl rfl, .inr rfl, trivial⟩
  refine ev_iload_n dX11_isSitting_26 rfl ?_
  refine ev_aload_n dX11_isSitting_27 rfl (by decide) ?_
  refine ev_getf (j := 18) (t := 2) (x := (186 : Int)) dX11_isSitting_28 cf_X11 wf_X11_48 sp173 (by decide) (by decide) rfl (by decide) (rp173_18 _) ?_
  refine ev_iload dX11_isSitting_31 rfl ?_
  refine ev_iald dX11_isSitting_33 sp186 (by decide) (by decide) h (fun h => ?_)
  refine ev_icmp_ge (tgt := 41) dX11_isSitting_34 rfl h (fun cb h => ?_) (fun cb h => ?_)
  · exact ev_sub (L2 := [(2, (173 : Int)), (0, x1), (0, x2), (9, 0), (0, x4)]) (e_X11_isSitting_41 σ x1 x2 x4 h K) ⟨.inr rfl, .inr rfl, .inr rfl, .inl rfl, .inr rfl, trivial⟩
  exact ev_sub (L2 := [(2, (173 : Int)), (0, x1), (0, x2), (9, 0), (0, x4)]) (e_X11_isSitting_37 σ x1 x2 x4 h K) ⟨.inr rfl, .inr rfl, .inr rfl, .inl rfl, .inr rfl, trivial⟩
set_option maxHeartbeats 4000000 in
set_option maxRecDepth 20000 in
theorem e_X11_isSitting_5 (σ : Mem) (x1 x2 x3 x4 : Int)  {q : Int} (h : f_X11_isSitting_5 σ x1 x2 x3 x4 = some q) : Ev M_X11_isSitting 210 210 (some (0, q), rho, σ) 5 210 rho σ [(2, (173 : Int)), (0, x1), (0, x2), (0, x3), (0, x4)] [] := by
  unfold f_X11_isSitting_5 at h
  obtain ⟨e, hl, h⟩ := bind_of h
  refine loop_ev (K := K_X11_isSitting_5 σ x1 x2 (some (0, q), rho, σ)) (b_X11_isSitting_5 σ x1 x2) FU (x3, x4) e hl ?_
  show Ev M_X11_isSitting 210 210 _ 49 210 rho σ [(9, 0), (9, 0), (9, 0), (0, e), (9, 0)] []
  replace h : chk (e = 0 ∨ e = 1) (some e) = some q := h
  refine ev_iload_n dX11_isSitting_49 rfl ?_
  obtain ⟨hz, h⟩ := chk_of h
  obtain rfl := Option.some.inj h
  exact ev_zret dX11_isSitting_50 rfl (chk_pos hz)
set_option maxHeartbeats 4000000 in
set_option maxRecDepth 20000 in
theorem c_X11_isSitting {σ : Mem} {x1 x2 : Int}  {q : Int} (h : f_X11_isSitting σ x1 x2 = some q) : Ms yX11_isSitting M_X11_isSitting 210 210 [(2, (173 : Int)), (0, x1), (0, x2)] rho σ (some (0, q), rho, σ) := by
  refine Ms.of 2 (by decide +kernel) rfl (fun z => absurd z (by decide)) (fun _ _ _ => trivial) rfl rfl ?_
  unfold f_X11_isSitting at h
  show Ev M_X11_isSitting 210 210 _ 0 210 rho σ [(2, (173 : Int)), (0, x1), (0, x2), (9, 0), (9, 0)] []
  refine ev_iconst dX11_isSitting_0 (by decide) ?_
  refine ev_istore_n dX11_isSitting_1 rfl (by decide) ?_
  show Ev _ _ _ _ 2 _ _ _ [(2, (173 : Int)), (0, x1), (0, x2), (0, (0 : Int)), (9, 0)] _
  refine ev_iconst dX11_isSitting_2 (by decide) ?_
  refine ev_istore dX11_isSitting_3 rfl (by decide) ?_
  show Ev _ _ _ _ 5 _ _ _ [(2, (173 : Int)), (0, x1), (0, x2), (0, (0 : Int)), (0, (0 : Int))] _
  exact ev_sub (L2 := [(2, (173 : Int)), (0, x1), (0, x2), (0, (0 : Int)), (0, (0 : Int))]) (e_X11_isSitting_5 σ x1 x2 (0 : Int) (0 : Int) h) ⟨.inr rfl, .inr rfl, .inr rfl, .inr rfl, .inr rfl, trivial⟩
def K_X11_isWaiting_23 (σ : Mem) (x1 x3 : Int) (r : Option V × Mem × Mem) : (Int × Int) ⊕ ((Int)) → Prop := Sum.elim (fun a => Ev M_X11_isWaiting 210 210 r 23 210 rho σ [(2, (173 : Int)), (0, x1), (9, 0), (0, x3), (0, a.1), (0, a.2)] []) (fun e => Ev M_X11_isWaiting 210 210 r 73 210 rho σ [(9, 0), (9, 0), (9, 0), (9, 0), (0, e), (9, 0)] [])
set_option maxHeartbeats 4000000 in
set_option maxRecDepth 20000 in
theorem e_X11_isWaiting_65 (σ : Mem) (x1 x3 x5 s0 : Int)  {q : ((Int × Int) ⊕ ((Int)))} (h : f_X11_isWaiting_65 σ x1 x3 x5 s0 = some q) {r : Option V × Mem × Mem} (K : K_X11_isWaiting_23 σ x1 x3 r q) : Ev M_X11_isWaiting 210 210 r 65 210 rho σ [(2, (173 : Int)), (0, x1), (9, 0), (0, x3), (9, 0), (0, x5)] [(0, s0)] := by
  unfold f_X11_isWaiting_65 at h
  refine ev_istore dX11_isWaiting_65 rfl (by decide) ?_
  show Ev _ _ _ _ 67 _ _ _ [(2, (173 : Int)), (0, x1), (9, 0), (0, x3), (0, s0), (0, x5)] _
  refine ev_iincG dX11_isWaiting_67 rfl h rfl (fun v5 h => ?_)
  show Ev _ _ _ _ 70 _ _ _ [(2, (173 : Int)), (0, x1), (9, 0), (0, x3), (0, s0), (0, v5)] _
  refine ev_goto (tgt := 23) dX11_isWaiting_70 rfl ?_
  obtain rfl := Option.some.inj h
  exact ev_sub (L2 := [(2, (173 : Int)), (0, x1), (9, 0), (0, x3), (0, s0), (0, v5)]) K ⟨.inr rfl, .inr rfl, .inl rfl, .inr rfl, .inr rfl, .inr rfl, trivial⟩
set_option maxHeartbeats 4000000 in
set_option maxRecDepth 20000 in
theorem e_X11_isWaiting_60 (σ : Mem) (x1 x3 x5 : Int)  {q : ((Int × Int) ⊕ ((Int)))} (h : f_X11_isWaiting_60 σ x1 x3 x5 = some q) {r : Option V × Mem × Mem} (K : K_X11_isWaiting_23 σ x1 x3 r q) : Ev M_X11_isWaiting 210 210 r 60 210 rho σ [(2, (173 : Int)), (0, x1), (9, 0), (0, x3), (9, 0), (0, x5)] [] := by
  unfold f_X11_isWaiting_60 at h
  refine ev_iconst dX11_isWaiting_60 (by decide) ?_
  refine ev_goto (tgt := 65) dX11_isWaiting_61 rfl ?_
  exact ev_sub (L2 := [(2, (173 : Int)), (0, x1), (9, 0), (0, x3), (9, 0), (0, x5)]) (e_X11_isWaiting_65 σ x1 x3 x5 (1 : Int) h K) ⟨.inr rfl, .inr rfl, .inl rfl, .inr rfl, .inl rfl, .inr rfl, trivial⟩
set_option maxHeartbeats 4000000 in
set_option maxRecDepth 20000 in
theorem e_X11_isWaiting_64 (σ : Mem) (x1 x3 x5 : Int)  {q : ((Int × Int) ⊕ ((Int)))} (h : f_X11_isWaiting_64 σ x1 x3 x5 = some q) {r : Option V × Mem × Mem} (K : K_X11_isWaiting_23 σ x1 x3 r q) : Ev M_X11_isWaiting 210 210 r 64 210 rho σ [(2, (173 : Int)), (0, x1), (9, 0), (0, x3), (9, 0), (0, x5)] [] := by
  unfold f_X11_isWaiting_64 at h
  refine ev_iconst dX11_isWaiting_64 (by decide) ?_
  exact ev_sub (L2 := [(2, (173 : Int)), (0, x1), (9, 0), (0, x3), (9, 0), (0, x5)]) (e_X11_isWaiting_65 σ x1 x3 x5 (0 : Int) h K) ⟨.inr rfl, .inr rfl, .inl rfl, .inr rfl, .inl rfl, .inr rfl, trivial⟩
set_option maxHeartbeats 4000000 in
set_option maxRecDepth 20000 in
theorem b_X11_isWaiting_23 (σ : Mem) (x1 x3 : Int)  {r : Option V × Mem × Mem} : ∀ a x, f_X11_isWaiting_23B σ x1 x3 a = some x → K_X11_isWaiting_23 σ x1 x3 r x → K_X11_isWaiting_23 σ x1 x3 r (.inl a) := by
  intro a x h K
  obtain ⟨x4, x5⟩ := a
  have h : f_X11_isWaiting_23C σ x1 x3 x4 x5 = some x := h
  unfold f_X11_isWaiting_23C at h
  show Ev M_X11_isWaiting 210 210 r 23 210 rho σ [(2, (173 : Int)), (0, x1), (9, 0), (0, x3), (0, x4), (0, x5)] []
  refine ev_iload dX11_isWaiting_23 rfl ?_
  refine ev_iload_n dX11_isWaiting_25 rfl ?_
  refine ev_icmp_ge (tgt := 73) dX11_isWaiting_26 rfl h (fun cb h => ?_) (fun cb h => ?_)
  · obtain rfl := Option.some.inj h
    exact ev_sub (L2 := [(9, 0), (9, 0), (9, 0), (9, 0), (0, x4), (9, 0)]) K ⟨.inl rfl, .inl rfl, .inl rfl, .inl rfl, .inr rfl, .inl rfl, trivial⟩
  refine ev_iload dX11_isWaiting_29 rfl ?_
  refine ev_if_ne (tgt := 60) dX11_isWaiting_31 rfl h (fun cb h => ?_) (fun cb h => ?_)
  · exact ev_sub (L2 := [(2, (173 : Int)), (0, x1), (9, 0), (0, x3), (9, 0), (0, x5)]) (e_X11_isWaiting_60 σ x1 x3 x5 h K) ⟨.inr rfl, .inr rfl, .inl rfl, .inr rfl, .inl rfl, .inr rfl, trivial⟩
  refine ev_iload_n dX11_isWaiting_34 rfl ?_
  refine ev_aload_n dX11_isWaiting_35 rfl (by decide) ?_
  refine ev_aload_n dX11_isWaiting_36 rfl (by decide) ?_
  refine ev_getf (j := 16) (t := 2) (x := (184 : Int)) dX11_isWaiting_37 cf_X11 wf_X11_42 sp173 (by decide) (by decide) rfl (by decide) (rp173_16 _) ?_
  refine ev_iload dX11_isWaiting_40 rfl ?_
  refine ev_iald dX11_isWaiting_42 sp184 (by decide) (by decide) h (fun h => ?_)
  obtain ⟨v3, hc4, h⟩ := bind_of h
  refine ev_invV_v (k := (173 : Int)) (av := [(0, (σ (184 : Int) x5))]) (st := [(0, x3)]) (v := (0, v3)) (τ := σ) dX11_isWaiting_43 ml_X11_255 mv_X11_start (T := TX11) (ci := 10) rfl sp173 (by decide) (by decide) rfl ⟨Nat.le_of_ble_eq_true rfl, Nat.le_of_ble_eq_true rfl⟩ (Nat.le_of_ble_eq_true rfl) (c_X11_start hc4) ?_
  refine ev_icmp_lt (tgt := 64) dX11_isWaiting_46 rfl h (fun cb h => ?_) (fun cb h => ?_)
  · exact ev_sub (L2 := [(2, (173 : Int)), (0, x1), (9, 0), (0, x3), (9, 0), (0, x5)]) (e_X11_isWaiting_64 σ x1 x3 x5 h K) ⟨.inr rfl, .inr rfl, .inl rfl, .inr rfl, .inl rfl, .inr rfl, trivial⟩
  refine ev_iload_n dX11_isWaiting_49 rfl ?_
  refine ev_aload_n dX11_isWaiting_50 rfl (by decide) ?_
  refine ev_getf (j := 17) (t := 2) (x := (185 : Int)) dX11_isWaiting_51 cf_X11 wf_X11_45 sp173 (by decide) (by decide) rfl (by decide) (rp173_17 _) ?_
  refine ev_iload dX11_isWaiting_54 rfl ?_
  refine ev_iald dX11_isWaiting_56 sp185 (by decide) (by decide) h (fun h => ?_)
  refine ev_icmp_ge (tgt := 64) dX11_isWaiting_57 rfl h (fun cb h => ?_) (fun cb h => ?_)
  · exact ev_sub (L2 := [(2, (173 : Int)), (0, x1), (9, 0), (0, x3), (9, 0), (0, x5)]) (e_X11_isWaiting_64 σ x1 x3 x5 h K) ⟨.inr rfl, .inr rfl, .inl rfl, .inr rfl, .inl rfl, .inr rfl, trivial⟩
  exact ev_sub (L2 := [(2, (173 : Int)), (0, x1), (9, 0), (0, x3), (9, 0), (0, x5)]) (e_X11_isWaiting_60 σ x1 x3 x5 h K) ⟨.inr rfl, .inr rfl, .inl rfl, .inr rfl, .inl rfl, .inr rfl, trivial⟩
set_option maxHeartbeats 4000000 in
set_option maxRecDepth 20000 in
theorem e_X11_isWaiting_23 (σ : Mem) (x1 x3 x4 x5 : Int)  {q : Int} (h : f_X11_isWaiting_23 σ x1 x3 x4 x5 = some q) : Ev M_X11_isWaiting 210 210 (some (0, q), rho, σ) 23 210 rho σ [(2, (173 : Int)), (0, x1), (9, 0), (0, x3), (0, x4), (0, x5)] [] := by
  unfold f_X11_isWaiting_23 at h
  obtain ⟨e, hl, h⟩ := bind_of h
  refine loop_ev (K := K_X11_isWaiting_23 σ x1 x3 (some (0, q), rho, σ)) (b_X11_isWaiting_23 σ x1 x3) FU (x4, x5) e hl ?_
  show Ev M_X11_isWaiting 210 210 _ 73 210 rho σ [(9, 0), (9, 0), (9, 0), (9, 0), (0, e), (9, 0)] []
  replace h : chk (e = 0 ∨ e = 1) (some e) = some q := h
  refine ev_iload dX11_isWaiting_73 rfl ?_
  obtain ⟨hz, h⟩ := chk_of h
  obtain rfl := Option.some.inj h
  exact ev_zret dX11_isWaiting_75 rfl (chk_pos hz)
set_option maxHeartbeats 4000000 in
set_option maxRecDepth 20000 in
theorem e_X11_isWaiting_18 (σ : Mem) (x1 x3 s0 : Int)  {q : Int} (h : f_X11_isWaiting_18 σ x1 x3 s0 = some q) : Ev M_X11_isWaiting 210 210 (some (0, q), rho, σ) 18 210 rho σ [(2, (173 : Int)), (0, x1), (9, 0), (0, x3), (9, 0), (9, 0)] [(0, s0)] := by
  unfold f_X11_isWaiting_18 at h
  refine ev_istore dX11_isWaiting_18 rfl (by decide) ?_
  show Ev _ _ _ _ 20 _ _ _ [(2, (173 : Int)), (0, x1), (9, 0), (0, x3), (0, s0), (9, 0)] _
  refine ev_iconst dX11_isWaiting_20 (by decide) ?_
  refine ev_istore dX11_isWaiting_21 rfl (by decide) ?_
  show Ev _ _ _ _ 23 _ _ _ [(2, (173 : Int)), (0, x1), (9, 0), (0, x3), (0, s0), (0, (0 : Int))] _
  exact ev_sub (L2 := [(2, (173 : Int)), (0, x1), (9, 0), (0, x3), (0, s0), (0, (0 : Int))]) (e_X11_isWaiting_23 σ x1 x3 s0 (0 : Int) h) ⟨.inr rfl, .inr rfl, .inl rfl, .inr rfl, .inr rfl, .inr rfl, trivial⟩
set_option maxHeartbeats 4000000 in
set_option maxRecDepth 20000 in
theorem e_X11_isWaiting_17 (σ : Mem) (x1 x3 : Int)  {q : Int} (h : f_X11_isWaiting_17 σ x1 x3 = some q) : Ev M_X11_isWaiting 210 210 (some (0, q), rho, σ) 17 210 rho σ [(2, (173 : Int)), (0, x1), (9, 0), (0, x3), (9, 0), (9, 0)] [] := by
  unfold f_X11_isWaiting_17 at h
  refine ev_iconst dX11_isWaiting_17 (by decide) ?_
  exact ev_sub (L2 := [(2, (173 : Int)), (0, x1), (9, 0), (0, x3), (9, 0), (9, 0)]) (e_X11_isWaiting_18 σ x1 x3 (0 : Int) h) ⟨.inr rfl, .inr rfl, .inl rfl, .inr rfl, .inl rfl, .inl rfl, trivial⟩
set_option maxHeartbeats 4000000 in
set_option maxRecDepth 20000 in
theorem c_X11_isWaiting {σ : Mem} {x1 x2 x3 : Int}  {q : Int} (h : f_X11_isWaiting σ x1 x2 x3 = some q) : Ms yX11_isWaiting M_X11_isWaiting 210 210 [(2, (173 : Int)), (0, x1), (0, x2), (0, x3)] rho σ (some (0, q), rho, σ) := by
  refine Ms.of 2 (by decide +kernel) rfl (fun z => absurd z (by decide)) (fun _ _ _ => trivial) rfl rfl ?_
  unfold f_X11_isWaiting at h
  show Ev M_X11_isWaiting 210 210 _ 0 210 rho σ [(2, (173 : Int)), (0, x1), (0, x2), (0, x3), (9, 0), (9, 0)] []
  refine ev_iload_n dX11_isWaiting_0 rfl ?_
  refine ev_if_lt (tgt := 17) dX11_isWaiting_1 rfl h (fun cb h => ?_) (fun cb h => ?_)
  · exact ev_sub (L2 := [(2, (173 : Int)), (0, x1), (9, 0), (0, x3), (9, 0), (9, 0)]) (e_X11_isWaiting_17 σ x1 x3 h) ⟨.inr rfl, .inr rfl, .inl rfl, .inr rfl, .inl rfl, .inl rfl, trivial⟩
  refine ev_iload_n dX11_isWaiting_4 rfl ?_
  refine ev_aload_n dX11_isWaiting_5 rfl (by decide) ?_
  refine ev_iload_n dX11_isWaiting_6 rfl ?_
  obtain ⟨v1, hc2, h⟩ := bind_of h
  refine ev_invV_v (k := (173 : Int)) (av := [(0, x2)]) (st := [(0, x3)]) (v := (0, v1)) (τ := σ) dX11_isWaiting_7 ml_X11_255 mv_X11_start (T := TX11) (ci := 10) rfl sp173 (by decide) (by decide) rfl ⟨Nat.le_of_ble_eq_true rfl, Nat.le_of_ble_eq_true rfl⟩ (Nat.le_of_ble_eq_true rfl) (c_X11_start hc2) ?_
  refine ev_icmp_lt (tgt := 17) dX11_isWaiting_10 rfl h (fun cb h => ?_) (fun cb h => ?_)
  · exact ev_sub (L2 := [(2, (173 : Int)), (0, x1), (9, 0), (0, x3), (9, 0), (9, 0)]) (e_X11_isWaiting_17 σ x1 x3 h) ⟨.inr rfl, .inr rfl, .inl rfl, .inr rfl, .inl rfl, .inl rfl, trivial⟩
  refine ev_iconst dX11_isWaiting_13 (by decide) ?_
  refine ev_goto (tgt := 18) dX11_isWaiting_14 rfl ?_
  exact ev_sub (L2 := [(2, (173 : Int)), (0, x1), (9, 0), (0, x3), (9, 0), (9, 0)]) (e_X11_isWaiting_18 σ x1 x3 (1 : Int) h) ⟨.inr rfl, .inr rfl, .inl rfl, .inr rfl, .inl rfl, .inl rfl, trivial⟩
def K_X11_keeps_6 (σ : Mem) (x1 x2 : Int) (r : Option V × Mem × Mem) : (Int × Int) ⊕ ((Int)) → Prop := Sum.elim (fun a => Ev M_X11_keeps 210 210 r 6 210 rho σ [(2, (173 : Int)), (0, x1), (0, x2), (9, 0), (0, a.1), (0, a.2)] []) (fun e => Ev M_X11_keeps 210 210 r 50 210 rho σ [(9, 0), (9, 0), (9, 0), (9, 0), (0, e), (9, 0)] [])
set_option maxHeartbeats 4000000 in
set_option maxRecDepth 20000 in
theorem e_X11_keeps_41 (σ : Mem) (x1 x2 x5 s1 s0 : Int)  {q : ((Int × Int) ⊕ ((Int)))} (h : f_X11_keeps_41 σ x1 x2 x5 s1 s0 = some q) {r : Option V × Mem × Mem} (K : K_X11_keeps_6 σ x1 x2 r q) : Ev M_X11_keeps 210 210 r 41 210 rho σ [(2, (173 : Int)), (0, x1), (0, x2), (9, 0), (9, 0), (0, x5)] [(0, s1), (0, s0)] := by
  unfold f_X11_keeps_41 at h
  refine ev_iadd dX11_keeps_41 ?_
  refine ev_istoreG dX11_keeps_42 h rfl (by decide) (fun v5 h => ?_)
  show Ev _ _ _ _ 44 _ _ _ [(2, (173 : Int)), (0, x1), (0, x2), (9, 0), (0, v5), (0, x5)] _
  refine ev_iincG dX11_keeps_44 rfl h rfl (fun v6 h => ?_)
  show Ev _ _ _ _ 47 _ _ _ [(2, (173 : Int)), (0, x1), (0, x2), (9, 0), (0, v5), (0, v6)] _
  refine ev_goto (tgt := 6) dX11_keeps_47 rfl ?_
  obtain rfl := Option.some.inj h
  exact ev_sub (L2 := [(2, (173 : Int)), (0, x1), (0, x2), (9, 0), (0, v5), (0, v6)]) K ⟨.inr rfl, .inr rfl, .inr rfl, .inl rfl, .inr rfl, .inr rfl, trivial⟩
set_option maxHeartbeats 4000000 in
set_option maxRecDepth 20000 in
theorem e_X11_keeps_40 (σ : Mem) (x1 x2 x5 s0 : Int)  {q : ((Int × Int) ⊕ ((Int)))} (h : f_X11_keeps_40 σ x1 x2 x5 s0 = some q) {r : Option V × Mem × Mem} (K : K_X11_keeps_6 σ x1 x2 r q) : Ev M_X11_keeps 210 210 r 40 210 rho σ [(2, (173 : Int)), (0, x1), (0, x2), (9, 0), (9, 0), (0, x5)] [(0, s0)] := by
  unfold f_X11_keeps_40 at h
  refine ev_iconst dX11_keeps_40 (by decide) ?_
  exact ev_sub (L2 := [(2, (173 : Int)), (0, x1), (0, x2), (9, 0), (9, 0), (0, x5)]) (e_X11_keeps_41 σ x1 x2 x5 (0 : Int) s0 h K) ⟨.inr rfl, .inr rfl, .inr rfl, .inl rfl, .inl rfl, .inr rfl, trivial⟩
set_option maxHeartbeats 4000000 in
set_option maxRecDepth 20000 in
theorem b_X11_keeps_6 (σ : Mem) (x1 x2 : Int)  {r : Option V × Mem × Mem} : ∀ a x, f_X11_keeps_6B σ x1 x2 a = some x → K_X11_keeps_6 σ x1 x2 r x → K_X11_keeps_6 σ x1 x2 r (.inl a) := by
  intro a x h K
  obtain ⟨x4, x5⟩ := a
  have h : f_X11_keeps_6C σ x1 x2 x4 x5 = some x := h
  unfold f_X11_keeps_6C at h
  show Ev M_X11_keeps 210 210 r 6 210 rho σ [(2, (173 : Int)), (0, x1), (0, x2), (9, 0), (0, x4), (0, x5)] []
  refine ev_iload dX11_keeps_6 rfl ?_
  refine ev_bipush dX11_keeps_8 (by decide) (by decide) ?_
  refine ev_icmp_ge (tgt := 50) dX11_keeps_10 rfl h (fun cb h => ?_) (fun cb h => ?_)
  · obtain rfl := Option.some.inj h
    exact ev_sub (L2 := [(9, 0), (9, 0), (9, 0), (9, 0), (0, x4), (9, 0)]) K ⟨.inl rfl, .inl rfl, .inl rfl, .inl rfl, .inr rfl, .inl rfl, trivial⟩
  refine ev_iload dX11_keeps_13 rfl ?_
  refine ev_aload_n dX11_keeps_15 rfl (by decide) ?_
  refine ev_iload_n dX11_keeps_16 rfl ?_
  refine ev_iload_n dX11_keeps_17 rfl ?_
  refine ev_iload dX11_keeps_18 rfl ?_
  obtain ⟨v1, hc2, h⟩ := bind_of h
  refine ev_invV_v (k := (173 : Int)) (av := [(0, x1), (0, x2), (0, x5)]) (st := [(0, x4)]) (v := (0, v1)) (τ := σ) dX11_keeps_20 ml_X11_266 mv_X11_isWaiting (T := TX11) (ci := 10) rfl sp173 (by decide) (by decide) rfl ⟨Nat.le_of_ble_eq_true rfl, Nat.le_of_ble_eq_true rfl⟩ (Nat.le_of_ble_eq_true rfl) (c_X11_isWaiting hc2) ?_
  refine ev_if_eq (tgt := 40) dX11_keeps_23 rfl h (fun cb h => ?_) (fun cb h => ?_)
  · exact ev_sub (L2 := [(2, (173 : Int)), (0, x1), (0, x2), (9, 0), (9, 0), (0, x5)]) (e_X11_keeps_40 σ x1 x2 x5 x4 h K) ⟨.inr rfl, .inr rfl, .inr rfl, .inl rfl, .inl rfl, .inr rfl, trivial⟩
  refine ev_aload_n dX11_keeps_26 rfl (by decide) ?_
  refine ev_iload_n dX11_keeps_27 rfl ?_
  refine ev_iload dX11_keeps_28 rfl ?_
  obtain ⟨v3, hc4, h⟩ := bind_of h
  refine ev_invV_v (k := (173 : Int)) (av := [(0, x1), (0, x5)]) (st := [(0, x4)]) (v := (0, v3)) (τ := σ) dX11_keeps_30 ml_X11_270 mv_X11_isSitting (T := TX11) (ci := 10) rfl sp173 (by decide) (by decide) rfl ⟨Nat.le_of_ble_eq_true rfl, Nat.le_of_ble_eq_true rfl⟩ (Nat.le_of_ble_eq_true rfl) (c_X11_isSitting hc4) ?_
  refine ev_if_ne (tgt := 40) dX11_keeps_33 rfl h (fun cb h => ?_) (fun cb h => ?_)
  · exact ev_sub (L2 := [(2, (173 : Int)), (0, x1), (0, x2), (9, 0), (9, 0), (0, x5)]) (e_X11_keeps_40 σ x1 x2 x5 x4 h K) ⟨.inr rfl, .inr rfl, .inr rfl, .inl rfl, .inl rfl, .inr rfl, trivial⟩
  refine ev_iconst dX11_keeps_36 (by decide) ?_
  refine ev_goto (tgt := 41) dX11_keeps_37 rfl ?_
  exact ev_sub (L2 := [(2, (173 : Int)), (0, x1), (0, x2), (9, 0), (9, 0), (0, x5)]) (e_X11_keeps_41 σ x1 x2 x5 (1 : Int) x4 h K) ⟨.inr rfl, .inr rfl, .inr rfl, .inl rfl, .inl rfl, .inr rfl, trivial⟩
set_option maxHeartbeats 4000000 in
set_option maxRecDepth 20000 in
theorem e_X11_keeps_6 (σ : Mem) (x1 x2 x4 x5 : Int)  {q : Int} (h : f_X11_keeps_6 σ x1 x2 x4 x5 = some q) : Ev M_X11_keeps 210 210 (some (0, q), rho, σ) 6 210 rho σ [(2, (173 : Int)), (0, x1), (0, x2), (9, 0), (0, x4), (0, x5)] [] := by
  unfold f_X11_keeps_6 at h
  obtain ⟨e, hl, h⟩ := bind_of h
  refine loop_ev (K := K_X11_keeps_6 σ x1 x2 (some (0, q), rho, σ)) (b_X11_keeps_6 σ x1 x2) FU (x4, x5) e hl ?_
  show Ev M_X11_keeps 210 210 _ 50 210 rho σ [(9, 0), (9, 0), (9, 0), (9, 0), (0, e), (9, 0)] []
  replace h : some e = some q := h
  refine ev_iload dX11_keeps_50 rfl ?_
  obtain rfl := Option.some.inj h
  exact ev_iret dX11_keeps_52 rfl rfl
set_option maxHeartbeats 4000000 in
set_option maxRecDepth 20000 in
theorem c_X11_keeps {σ : Mem} {x1 x2 x3 : Int}  {q : Int} (h : f_X11_keeps σ x1 x2 x3 = some q) : Ms yX11_keeps M_X11_keeps 210 210 [(2, (173 : Int)), (0, x1), (0, x2), (0, x3)] rho σ (some (0, q), rho, σ) := by
  refine Ms.of 2 (by decide +kernel) rfl (fun z => absurd z (by decide)) (fun _ _ _ => trivial) rfl rfl ?_
  unfold f_X11_keeps at h
  show Ev M_X11_keeps 210 210 _ 0 210 rho σ [(2, (173 : Int)), (0, x1), (0, x2), (0, x3), (9, 0), (9, 0)] []
  refine ev_iconst dX11_keeps_0 (by decide) ?_
  refine ev_istore dX11_keeps_1 rfl (by decide) ?_
  show Ev _ _ _ _ 3 _ _ _ [(2, (173 : Int)), (0, x1), (0, x2), (0, x3), (0, (0 : Int)), (9, 0)] _
  refine ev_iload_n dX11_keeps_3 rfl ?_
  refine ev_istore dX11_keeps_4 rfl (by decide) ?_
  show Ev _ _ _ _ 6 _ _ _ [(2, (173 : Int)), (0, x1), (0, x2), (0, x3), (0, (0 : Int)), (0, x3)] _
  exact ev_sub (L2 := [(2, (173 : Int)), (0, x1), (0, x2), (9, 0), (0, (0 : Int)), (0, x3)]) (e_X11_keeps_6 σ x1 x2 (0 : Int) x3 h) ⟨.inr rfl, .inr rfl, .inr rfl, .inl rfl, .inr rfl, .inr rfl, trivial⟩
def K_X11_tries_107 (x1 x2 x4 x5 : Int) (r : Option V × Mem × Mem) : (Int × Mem) ⊕ ((Mem)) → Prop := Sum.elim (fun a => Ev M_X11_tries 210 210 r 107 210 rho a.2 [(2, (173 : Int)), (0, x1), (0, x2), (9, 0), (0, x4), (0, x5), (9, 0), (9, 0), (0, a.1)] []) (fun e => Ev M_X11_tries 210 210 r 156 210 rho e [(2, (173 : Int)), (0, x1), (0, x2), (9, 0), (0, x4), (0, x5), (9, 0), (9, 0), (9, 0)] [])
def K_X11_tries_10 (x1 x2 x4 x5 : Int) (r : Option V × Mem × Mem) : (Int × Mem) ⊕ ((Mem)) → Prop := Sum.elim (fun a => Ev M_X11_tries 210 210 r 10 210 rho a.2 [(2, (173 : Int)), (0, x1), (0, x2), (9, 0), (0, x4), (0, x5), (0, a.1), (9, 0), (9, 0)] []) (fun e => Ev M_X11_tries 210 210 r 167 210 rho e [(9, 0), (9, 0), (9, 0), (9, 0), (9, 0), (9, 0), (9, 0), (9, 0), (9, 0)] [])
set_option maxHeartbeats 4000000 in
set_option maxRecDepth 20000 in
theorem e_X11_tries_156 (σ : Mem) (x1 x2 x4 x5 : Int)  {q : ((Int × Mem) ⊕ ((Mem)))} (h : f_X11_tries_156 σ x1 x2 x4 x5 = some q) {r : Option V × Mem × Mem} (K : K_X11_tries_10 x1 x2 x4 x5 r q) : Ev M_X11_tries 210 210 r 156 210 rho σ [(2, (173 : Int)), (0, x1), (0, x2), (9, 0), (0, x4), (0, x5), (9, 0), (9, 0), (9, 0)] [] := by
  unfold f_X11_tries_156 at h
  refine ev_aload_n dX11_tries_156 rfl (by decide) ?_
  refine ev_iload dX11_tries_157 rfl ?_
  obtain ⟨v8, hc9, h⟩ := bind_of h
  refine ev_invV_v (k := (173 : Int)) (av := [(0, x5)]) (st := []) (v := (0, v8.1)) (τ := v8.2) dX11_tries_159 ml_X11_283 mv_X11_next (T := TX11) (ci := 10) rfl sp173 (by decide) (by decide) rfl ⟨Nat.le_of_ble_eq_true rfl, Nat.le_of_ble_eq_true rfl⟩ (Nat.le_of_ble_eq_true rfl) (c_X11_next hc9) ?_
  refine ev_istoreG dX11_tries_162 h rfl (by decide) (fun v10 h => ?_)
  show Ev _ _ _ _ 164 _ _ _ [(2, (173 : Int)), (0, x1), (0, x2), (9, 0), (0, x4), (0, x5), (0, v10), (9, 0), (9, 0)] _
  refine ev_goto (tgt := 10) dX11_tries_164 rfl ?_
  obtain rfl := Option.some.inj h
  exact ev_sub (L2 := [(2, (173 : Int)), (0, x1), (0, x2), (9, 0), (0, x4), (0, x5), (0, v10), (9, 0), (9, 0)]) K ⟨.inr rfl, .inr rfl, .inr rfl, .inl rfl, .inr rfl, .inr rfl, .inr rfl, .inl rfl, .inl rfl, trivial⟩
set_option maxHeartbeats 4000000 in
set_option maxRecDepth 20000 in
theorem b_X11_tries_107 (x1 x2 x4 x5 : Int)  {r : Option V × Mem × Mem} : ∀ a x, f_X11_tries_107B x1 x2 x4 x5 a = some x → K_X11_tries_107 x1 x2 x4 x5 r x → K_X11_tries_107 x1 x2 x4 x5 r (.inl a) := by
  intro a x h K
  obtain ⟨x8, σ⟩ := a
  have h : f_X11_tries_107C x1 x2 x4 x5 x8 σ = some x := h
  unfold f_X11_tries_107C at h
  show Ev M_X11_tries 210 210 r 107 210 rho σ [(2, (173 : Int)), (0, x1), (0, x2), (9, 0), (0, x4), (0, x5), (9, 0), (9, 0), (0, x8)] []
  refine ev_iload dX11_tries_107 rfl ?_
  refine ev_iload dX11_tries_109 rfl ?_
  refine ev_icmp_ge (tgt := 156) dX11_tries_111 rfl h (fun cb h => ?_) (fun cb h => ?_)
  · obtain rfl := Option.some.inj h
    exact ev_sub (L2 := [(2, (173 : Int)), (0, x1), (0, x2), (9, 0), (0, x4), (0, x5), (9, 0), (9, 0), (9, 0)]) K ⟨.inr rfl, .inr rfl, .inr rfl, .inl rfl, .inr rfl, .inr rfl, .inl rfl, .inl rfl, .inl rfl, trivial⟩
  refine ev_aload_n dX11_tries_114 rfl (by decide) ?_
  refine ev_getf (j := 25) (t := 2) (x := (193 : Int)) dX11_tries_115 cf_X11 wf_X11_69 sp173 (by decide) (by decide) rfl (by decide) (rp173_25 _) ?_
  refine ev_iconst dX11_tries_118 (by decide) ?_
  refine ev_iload_n dX11_tries_119 rfl ?_
  refine ev_imul dX11_tries_120 ?_
  refine ev_iload dX11_tries_121 rfl ?_
  refine ev_iadd dX11_tries_123 ?_
  refine ev_aload_n dX11_tries_124 rfl (by decide) ?_
  refine ev_getf (j := 16) (t := 2) (x := (184 : Int)) dX11_tries_125 cf_X11 wf_X11_42 sp173 (by decide) (by decide) rfl (by decide) (rp173_16 _) ?_
  refine ev_iload dX11_tries_128 rfl ?_
  refine ev_iald dX11_tries_130 sp184 (by decide) (by decide) h (fun h => ?_)
  show Ev _ _ _ _ 131 _ _ _ _ _
  refine ev_iastG dX11_tries_131 sp193 (by decide) (by decide) h (fun σ15 h => ?_)
  refine ev_aload_n dX11_tries_132 rfl (by decide) ?_
  refine ev_getf (j := 26) (t := 2) (x := (194 : Int)) dX11_tries_133 cf_X11 wf_X11_72 sp173 (by decide) (by decide) rfl (by decide) (rp173_26 _) ?_
  refine ev_iconst dX11_tries_136 (by decide) ?_
  refine ev_iload_n dX11_tries_137 rfl ?_
  refine ev_imul dX11_tries_138 ?_
  refine ev_iload dX11_tries_139 rfl ?_
  refine ev_iadd dX11_tries_141 ?_
  refine ev_aload_n dX11_tries_142 rfl (by decide) ?_
  refine ev_getf (j := 17) (t := 2) (x := (185 : Int)) dX11_tries_143 cf_X11 wf_X11_45 sp173 (by decide) (by decide) rfl (by decide) (rp173_17 _) ?_
  refine ev_iload dX11_tries_146 rfl ?_
  refine ev_iald dX11_tries_148 sp185 (by decide) (by decide) h (fun h => ?_)
  show Ev _ _ _ _ 149 _ _ _ _ _
  refine ev_iastG dX11_tries_149 sp194 (by decide) (by decide) h (fun σ16 h => ?_)
  refine ev_iincG dX11_tries_150 rfl h rfl (fun v17 h => ?_)
  show Ev _ _ _ _ 153 _ _ _ [(2, (173 : Int)), (0, x1), (0, x2), (9, 0), (0, x4), (0, x5), (9, 0), (9, 0), (0, v17)] _
  refine ev_goto (tgt := 107) dX11_tries_153 rfl ?_
  obtain rfl := Option.some.inj h
  exact ev_sub (L2 := [(2, (173 : Int)), (0, x1), (0, x2), (9, 0), (0, x4), (0, x5), (9, 0), (9, 0), (0, v17)]) K ⟨.inr rfl, .inr rfl, .inr rfl, .inl rfl, .inr rfl, .inr rfl, .inl rfl, .inl rfl, .inr rfl, trivial⟩
set_option maxHeartbeats 4000000 in
set_option maxRecDepth 20000 in
theorem e_X11_tries_107 (σ : Mem) (x1 x2 x4 x5 x8 : Int)  {q : ((Int × Mem) ⊕ ((Mem)))} (h : f_X11_tries_107 σ x1 x2 x4 x5 x8 = some q) {r : Option V × Mem × Mem} (K : K_X11_tries_10 x1 x2 x4 x5 r q) : Ev M_X11_tries 210 210 r 107 210 rho σ [(2, (173 : Int)), (0, x1), (0, x2), (9, 0), (0, x4), (0, x5), (9, 0), (9, 0), (0, x8)] [] := by
  unfold f_X11_tries_107 at h
  obtain ⟨e, hl, h⟩ := bind_of h
  refine loop_ev (K := K_X11_tries_107 x1 x2 x4 x5 r) (b_X11_tries_107 x1 x2 x4 x5) FU (x8, σ) e hl ?_
  show Ev M_X11_tries 210 210 r 156 210 rho e [(2, (173 : Int)), (0, x1), (0, x2), (9, 0), (0, x4), (0, x5), (9, 0), (9, 0), (9, 0)] []
  replace h : f_X11_tries_156 e x1 x2 x4 x5 = some q := h
  exact ev_sub (L2 := [(2, (173 : Int)), (0, x1), (0, x2), (9, 0), (0, x4), (0, x5), (9, 0), (9, 0), (9, 0)]) (e_X11_tries_156 e x1 x2 x4 x5 h K) ⟨.inr rfl, .inr rfl, .inr rfl, .inl rfl, .inr rfl, .inr rfl, .inl rfl, .inl rfl, .inl rfl, trivial⟩
set_option maxHeartbeats 4000000 in
set_option maxRecDepth 20000 in
theorem e_X11_tries_73 (σ : Mem) (x1 x2 x4 x5 x7 : Int)  {q : ((Int × Mem) ⊕ ((Mem)))} (h : f_X11_tries_73 σ x1 x2 x4 x5 x7 = some q) {r : Option V × Mem × Mem} (K : K_X11_tries_10 x1 x2 x4 x5 r q) : Ev M_X11_tries 210 210 r 73 210 rho σ [(2, (173 : Int)), (0, x1), (0, x2), (9, 0), (0, x4), (0, x5), (9, 0), (0, x7), (9, 0)] [] := by
  unfold f_X11_tries_73 at h
  refine ev_aload_n dX11_tries_73 rfl (by decide) ?_
  refine ev_getf (j := 19) (t := 2) (x := (187 : Int)) dX11_tries_74 cf_X11 wf_X11_51 sp173 (by decide) (by decide) rfl (by decide) (rp173_19 _) ?_
  refine ev_iload_n dX11_tries_77 rfl ?_
  refine ev_iconst dX11_tries_78 (by decide) ?_
  refine ev_iastG dX11_tries_79 sp187 (by decide) (by decide) h (fun σ11 h => ?_)
  refine ev_aload_n dX11_tries_80 rfl (by decide) ?_
  refine ev_getf (j := 20) (t := 2) (x := (188 : Int)) dX11_tries_81 cf_X11 wf_X11_54 sp173 (by decide) (by decide) rfl (by decide) (rp173_20 _) ?_
  refine ev_iload_n dX11_tries_84 rfl ?_
  refine ev_iload dX11_tries_85 rfl ?_
  refine ev_iastG dX11_tries_87 sp188 (by decide) (by decide) h (fun σ12 h => ?_)
  refine ev_aload_n dX11_tries_88 rfl (by decide) ?_
  show Ev _ _ _ _ 89 _ _ _ _ _
  refine ev_getf (j := 21) (t := 2) (x := (189 : Int)) dX11_tries_89 cf_X11 wf_X11_57 sp173 (by decide) (by decide) rfl (by decide) (rp173_21 _) ?_
  refine ev_iload_n dX11_tries_92 rfl ?_
  refine ev_iload dX11_tries_93 rfl ?_
  refine ev_iastG dX11_tries_95 sp189 (by decide) (by decide) h (fun σ13 h => ?_)
  refine ev_aload_n dX11_tries_96 rfl (by decide) ?_
  refine ev_getf (j := 24) (t := 2) (x := (192 : Int)) dX11_tries_97 cf_X11 wf_X11_66 sp173 (by decide) (by decide) rfl (by decide) (rp173_24 _) ?_
  refine ev_iload_n dX11_tries_100 rfl ?_
  refine ev_iload dX11_tries_101 rfl ?_
  refine ev_iastG dX11_tries_103 sp192 (by decide) (by decide) h (fun σ14 h => ?_)
  refine ev_iconst dX11_tries_104 (by decide) ?_
  refine ev_istore dX11_tries_105 rfl (by decide) ?_
  show Ev _ _ _ _ 107 _ _ _ [(2, (173 : Int)), (0, x1), (0, x2), (9, 0), (0, x4), (0, x5), (9, 0), (0, x7), (0, (0 : Int))] _
  exact ev_sub (L2 := [(2, (173 : Int)), (0, x1), (0, x2), (9, 0), (0, x4), (0, x5), (9, 0), (9, 0), (0, (0 : Int))]) (e_X11_tries_107 σ14 x1 x2 x4 x5 (0 : Int) h K) ⟨.inr rfl, .inr rfl, .inr rfl, .inl rfl, .inr rfl, .inr rfl, .inl rfl, .inl rfl, .inr rfl, trivial⟩
set_option maxHeartbeats 4000000 in
set_option maxRecDepth 20000 in
theorem b_X11_tries_10 (x1 x2 x4 x5 : Int)  {r : Option V × Mem × Mem} : ∀ a x, f_X11_tries_10B x1 x2 x4 x5 a = some x → K_X11_tries_10 x1 x2 x4 x5 r x → K_X11_tries_10 x1 x2 x4 x5 r (.inl a) := by
  intro a x h K
  obtain ⟨x6, σ⟩ := a
  have h : f_X11_tries_10C x1 x2 x4 x5 x6 σ = some x := h
  unfold f_X11_tries_10C at h
  show Ev M_X11_tries 210 210 r 10 210 rho σ [(2, (173 : Int)), (0, x1), (0, x2), (9, 0), (0, x4), (0, x5), (0, x6), (9, 0), (9, 0)] []
  refine ev_iload dX11_tries_10 rfl ?_
  refine ev_if_eq (tgt := 167) dX11_tries_12 rfl h (fun cb h => ?_) (fun cb h => ?_)
  · obtain rfl := Option.some.inj h
    exact ev_sub (L2 := [(9, 0), (9, 0), (9, 0), (9, 0), (9, 0), (9, 0), (9, 0), (9, 0), (9, 0)]) K ⟨.inl rfl, .inl rfl, .inl rfl, .inl rfl, .inl rfl, .inl rfl, .inl rfl, .inl rfl, .inl rfl, trivial⟩
  refine ev_aload_n dX11_tries_15 rfl (by decide) ?_
  refine ev_iload_n dX11_tries_16 rfl ?_
  refine ev_iload dX11_tries_17 rfl ?_
  refine ev_aload_n dX11_tries_19 rfl (by decide) ?_
  refine ev_getf (j := 22) (t := 2) (x := (190 : Int)) dX11_tries_20 cf_X11 wf_X11_60 sp173 (by decide) (by decide) rfl (by decide) (rp173_22 _) ?_
  refine ev_iload_n dX11_tries_23 rfl ?_
  refine ev_iald dX11_tries_24 sp190 (by decide) (by decide) h (fun h => ?_)
  refine ev_aload_n dX11_tries_25 rfl (by decide) ?_
  refine ev_getf (j := 23) (t := 2) (x := (191 : Int)) dX11_tries_26 cf_X11 wf_X11_63 sp173 (by decide) (by decide) rfl (by decide) (rp173_23 _) ?_
  refine ev_iload_n dX11_tries_29 rfl ?_
  refine ev_iald dX11_tries_30 sp191 (by decide) (by decide) h (fun h => ?_)
  show Ev _ _ _ _ 31 _ _ _ _ _
  obtain ⟨v4, hc5, h⟩ := bind_of h
  refine ev_invV_v (k := (173 : Int)) (av := [(0, x1), (0, x5), (0, (σ (190 : Int) x2)), (0, (σ (191 : Int) x2))]) (st := []) (v := (0, v4.1)) (τ := v4.2) dX11_tries_31 ml_X11_276 mv_X11_isLaid (T := TX11) (ci := 10) rfl sp173 (by decide) (by decide) rfl ⟨Nat.le_of_ble_eq_true rfl, Nat.le_of_ble_eq_true rfl⟩ (Nat.le_of_ble_eq_true rfl) (c_X11_isLaid hc5) ?_
  refine ev_if_eq (tgt := 156) dX11_tries_34 rfl h (fun cb h => ?_) (fun cb h => ?_)
  · exact ev_sub (L2 := [(2, (173 : Int)), (0, x1), (0, x2), (9, 0), (0, x4), (0, x5), (9, 0), (9, 0), (9, 0)]) (e_X11_tries_156 v4.2 x1 x2 x4 x5 h K) ⟨.inr rfl, .inr rfl, .inr rfl, .inl rfl, .inr rfl, .inr rfl, .inl rfl, .inl rfl, .inl rfl, trivial⟩
  refine ev_aload_n dX11_tries_37 rfl (by decide) ?_
  refine ev_iload dX11_tries_38 rfl ?_
  refine ev_iload dX11_tries_40 rfl ?_
  refine ev_aload_n dX11_tries_42 rfl (by decide) ?_
  refine ev_getf (j := 23) (t := 2) (x := (191 : Int)) dX11_tries_43 cf_X11 wf_X11_63 sp173 (by decide) (by decide) rfl (by decide) (rp173_23 _) ?_
  refine ev_iload_n dX11_tries_46 rfl ?_
  refine ev_iald dX11_tries_47 sp191 (by decide) (by decide) h (fun h => ?_)
  obtain ⟨v6, hc7, h⟩ := bind_of h
  refine ev_invV_v (k := (173 : Int)) (av := [(0, x5), (0, x4), (0, (v4.2 (191 : Int) x2))]) (st := []) (v := (0, v6)) (τ := v4.2) dX11_tries_48 ml_X11_280 mv_X11_keeps (T := TX11) (ci := 10) rfl sp173 (by decide) (by decide) rfl ⟨Nat.le_of_ble_eq_true rfl, Nat.le_of_ble_eq_true rfl⟩ (Nat.le_of_ble_eq_true rfl) (c_X11_keeps hc7) ?_
  refine ev_istore dX11_tries_51 rfl (by decide) ?_
  show Ev _ _ _ _ 53 _ _ _ [(2, (173 : Int)), (0, x1), (0, x2), (9, 0), (0, x4), (0, x5), (0, x6), (0, v6), (9, 0)] _
  refine ev_aload_n dX11_tries_53 rfl (by decide) ?_
  refine ev_getf (j := 19) (t := 2) (x := (187 : Int)) dX11_tries_54 cf_X11 wf_X11_51 sp173 (by decide) (by decide) rfl (by decide) (rp173_19 _) ?_
  show Ev _ _ _ _ 57 _ _ _ _ _
  refine ev_iload_n dX11_tries_57 rfl ?_
  refine ev_iald dX11_tries_58 sp187 (by decide) (by decide) h (fun h => ?_)
  refine ev_if_eq (tgt := 73) dX11_tries_59 rfl h (fun cb h => ?_) (fun cb h => ?_)
  · exact ev_sub (L2 := [(2, (173 : Int)), (0, x1), (0, x2), (9, 0), (0, x4), (0, x5), (9, 0), (0, v6), (9, 0)]) (e_X11_tries_73 v4.2 x1 x2 x4 x5 v6 h K) ⟨.inr rfl, .inr rfl, .inr rfl, .inl rfl, .inr rfl, .inr rfl, .inl rfl, .inr rfl, .inl rfl, trivial⟩
  refine ev_iload dX11_tries_62 rfl ?_
  refine ev_aload_n dX11_tries_64 rfl (by decide) ?_
  refine ev_getf (j := 20) (t := 2) (x := (188 : Int)) dX11_tries_65 cf_X11 wf_X11_54 sp173 (by decide) (by decide) rfl (by decide) (rp173_20 _) ?_
  refine ev_iload_n dX11_tries_68 rfl ?_
  refine ev_iald dX11_tries_69 sp188 (by decide) (by decide) h (fun h => ?_)
  refine ev_icmp_ge (tgt := 156) dX11_tries_70 rfl h (fun cb h => ?_) (fun cb h => ?_)
  · exact ev_sub (L2 := [(2, (173 : Int)), (0, x1), (0, x2), (9, 0), (0, x4), (0, x5), (9, 0), (9, 0), (9, 0)]) (e_X11_tries_156 v4.2 x1 x2 x4 x5 h K) ⟨.inr rfl, .inr rfl, .inr rfl, .inl rfl, .inr rfl, .inr rfl, .inl rfl, .inl rfl, .inl rfl, trivial⟩
  exact ev_sub (L2 := [(2, (173 : Int)), (0, x1), (0, x2), (9, 0), (0, x4), (0, x5), (9, 0), (0, v6), (9, 0)]) (e_X11_tries_73 v4.2 x1 x2 x4 x5 v6 h K) ⟨.inr rfl, .inr rfl, .inr rfl, .inl rfl, .inr rfl, .inr rfl, .inl rfl, .inr rfl, .inl rfl, trivial⟩
set_option maxHeartbeats 4000000 in
set_option maxRecDepth 20000 in
theorem e_X11_tries_10 (σ : Mem) (x1 x2 x4 x5 x6 : Int)  {q : Mem} (h : f_X11_tries_10 σ x1 x2 x4 x5 x6 = some q) : Ev M_X11_tries 210 210 (none, rho, q) 10 210 rho σ [(2, (173 : Int)), (0, x1), (0, x2), (9, 0), (0, x4), (0, x5), (0, x6), (9, 0), (9, 0)] [] := by
  unfold f_X11_tries_10 at h
  obtain ⟨e, hl, h⟩ := bind_of h
  refine loop_ev (K := K_X11_tries_10 x1 x2 x4 x5 (none, rho, q)) (b_X11_tries_10 x1 x2 x4 x5) FU (x6, σ) e hl ?_
  show Ev M_X11_tries 210 210 _ 167 210 rho e [(9, 0), (9, 0), (9, 0), (9, 0), (9, 0), (9, 0), (9, 0), (9, 0), (9, 0)] []
  replace h : some e = some q := h
  obtain rfl := Option.some.inj h
  exact ev_vret dX11_tries_167 rfl rfl
set_option maxHeartbeats 4000000 in
set_option maxRecDepth 20000 in
theorem c_X11_tries {σ : Mem} {x1 x2 x3 x4 : Int}  {q : Mem} (h : f_X11_tries σ x1 x2 x3 x4 = some q) : Ms yX11_tries M_X11_tries 210 210 [(2, (173 : Int)), (0, x1), (0, x2), (0, x3), (0, x4)] rho σ (none, rho, q) := by
  refine Ms.of 4 (by decide +kernel) rfl (fun z => absurd z (by decide)) (fun _ _ _ => trivial) rfl rfl ?_
  unfold f_X11_tries at h
  show Ev M_X11_tries 210 210 _ 0 210 rho σ [(2, (173 : Int)), (0, x1), (0, x2), (0, x3), (0, x4), (9, 0), (9, 0), (9, 0), (9, 0)] []
  refine ev_aload_n dX11_tries_0 rfl (by decide) ?_
  refine ev_iload_n dX11_tries_1 rfl ?_
  obtain ⟨v1, hc2, h⟩ := bind_of h
  refine ev_invV_v (k := (173 : Int)) (av := [(0, x3)]) (st := []) (v := (0, v1.1)) (τ := v1.2) dX11_tries_2 ml_X11_273 mv_X11_rows (T := TX11) (ci := 10) rfl sp173 (by decide) (by decide) rfl ⟨Nat.le_of_ble_eq_true rfl, Nat.le_of_ble_eq_true rfl⟩ (Nat.le_of_ble_eq_true rfl) (c_X11_rows hc2) ?_
  refine ev_istoreG dX11_tries_5 h rfl (by decide) (fun v3 h => ?_)
  show Ev _ _ _ _ 7 _ _ _ [(2, (173 : Int)), (0, x1), (0, x2), (0, x3), (0, x4), (0, v3), (9, 0), (9, 0), (9, 0)] _
  refine ev_iconst dX11_tries_7 (by decide) ?_
  refine ev_istore dX11_tries_8 rfl (by decide) ?_
  show Ev _ _ _ _ 10 _ _ _ [(2, (173 : Int)), (0, x1), (0, x2), (0, x3), (0, x4), (0, v3), (0, (1 : Int)), (9, 0), (9, 0)] _
  exact ev_sub (L2 := [(2, (173 : Int)), (0, x1), (0, x2), (9, 0), (0, x4), (0, v3), (0, (1 : Int)), (9, 0), (9, 0)]) (e_X11_tries_10 v1.2 x1 x2 x4 v3 (1 : Int) h) ⟨.inr rfl, .inr rfl, .inr rfl, .inl rfl, .inr rfl, .inr rfl, .inr rfl, .inl rfl, .inl rfl, trivial⟩
