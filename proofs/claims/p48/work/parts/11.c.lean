def K_Y3_search_52 (x1 x2 : Int) (r : Option V × Mem × Mem) : (Int × Int × Mem) ⊕ ((Mem)) → Prop := Sum.elim (fun a => Ev M_X3_search 181 181 r 52 181 rho a.2.2 [(2, (45 : Int)), (0, x1), (1, x2), (9, 0), (0, a.1), (0, a.2.1), (9, 0)] []) (fun e => Ev M_X3_search 181 181 r 141 181 rho e [(2, (45 : Int)), (9, 0), (1, x2), (9, 0), (9, 0), (9, 0), (9, 0)] [])
def K_Y3_search_22 (x1 x2 : Int) (r : Option V × Mem × Mem) : (Int × Mem) ⊕ ((Mem)) → Prop := Sum.elim (fun a => Ev M_X3_search 181 181 r 22 181 rho a.2 [(2, (45 : Int)), (0, x1), (1, x2), (9, 0), (0, a.1), (9, 0), (9, 0)] []) (fun e => Ev M_X3_search 181 181 r 46 181 rho e [(2, (45 : Int)), (0, x1), (1, x2), (9, 0), (9, 0), (9, 0), (9, 0)] [])
set_option maxHeartbeats 4000000 in
set_option maxRecDepth 20000 in
theorem e_Y3_search_129 (σ : Mem) (x1 x2 x5 : Int)  {q : ((Int × Int × Mem) ⊕ ((Mem)))} (h : f_Y3_search_129 σ x1 x2 x5 = some q) {r : Option V × Mem × Mem} (K : K_Y3_search_52 x1 x2 r q) : Ev M_X3_search 181 181 r 129 181 rho σ [(2, (45 : Int)), (0, x1), (1, x2), (9, 0), (9, 0), (0, x5), (9, 0)] [] := by
  unfold f_Y3_search_129 at h
  refine ev_aload_n dX3_search_129 rfl (by decide) ?_
  obtain ⟨v9, hc10, h⟩ := bind_of h
  refine ev_invV_v (k := (45 : Int)) (av := []) (st := []) (v := (0, v9.1)) (τ := v9.2) dX3_search_130 ml_X3_96 mv_X3_nextRow (T := TX3) (ci := 2) rfl sp45 (by decide) (by decide) rfl ⟨Nat.le_of_ble_eq_true rfl, Nat.le_of_ble_eq_true rfl⟩ (Nat.le_of_ble_eq_true rfl) (c_Y3_nextRow hc10) ?_
  refine ev_istoreG dX3_search_133 h rfl (by decide) (fun v11 h => ?_)
  show Ev _ _ _ _ 135 _ _ _ [(2, (45 : Int)), (0, x1), (1, x2), (9, 0), (0, v11), (0, x5), (9, 0)] _
  refine ev_iincG dX3_search_135 rfl h rfl (fun v12 h => ?_)
  show Ev _ _ _ _ 138 _ _ _ [(2, (45 : Int)), (0, x1), (1, x2), (9, 0), (0, v11), (0, v12), (9, 0)] _
  refine ev_goto (tgt := 52) dX3_search_138 rfl ?_
  obtain rfl := Option.some.inj h
  exact ev_sub (L2 := [(2, (45 : Int)), (0, x1), (1, x2), (9, 0), (0, v11), (0, v12), (9, 0)]) K ⟨.inr rfl, .inr rfl, .inr rfl, .inl rfl, .inr rfl, .inr rfl, .inl rfl, trivial⟩
set_option maxHeartbeats 4000000 in
set_option maxRecDepth 20000 in
theorem e_Y3_search_119 (σ : Mem) (x1 x2 x5 : Int)  {q : ((Int × Int × Mem) ⊕ ((Mem)))} (h : f_Y3_search_119 σ x1 x2 x5 = some q) {r : Option V × Mem × Mem} (K : K_Y3_search_52 x1 x2 r q) : Ev M_X3_search 181 181 r 119 181 rho σ [(2, (45 : Int)), (0, x1), (1, x2), (9, 0), (9, 0), (0, x5), (9, 0)] [] := by
  unfold f_Y3_search_119 at h
  refine ev_aload_n dX3_search_119 rfl (by decide) ?_
  refine ev_dup dX3_search_120 (show (2 : Nat) ≠ 1 by decide) ?_
  refine ev_getf (j := 12) (t := 0) (x := (σ (45 : Int) 12)) dX3_search_121 cf_X3 wf_X3_34 sp45 (by decide) (by decide) rfl (by decide) rfl ?_
  refine ev_iconst dX3_search_124 (by decide) ?_
  refine ev_iadd dX3_search_125 ?_
  refine ev_putfG (j := 12) (t := 0) dX3_search_126 cf_X3 wf_X3_34 sp45 (by decide) (by decide) rfl (by decide) (by decide) rfl (fun z => absurd z (by decide +kernel)) h (fun σ15 h => ?_)
  exact ev_sub (L2 := [(2, (45 : Int)), (0, x1), (1, x2), (9, 0), (9, 0), (0, x5), (9, 0)]) (e_Y3_search_129 σ15 x1 x2 x5 h K) ⟨.inr rfl, .inr rfl, .inr rfl, .inl rfl, .inl rfl, .inr rfl, .inl rfl, trivial⟩
set_option maxHeartbeats 4000000 in
set_option maxRecDepth 20000 in
theorem e_Y3_search_99 (σ : Mem) (x1 x2 x5 x6 : Int)  {q : ((Int × Int × Mem) ⊕ ((Mem)))} (h : f_Y3_search_99 σ x1 x2 x5 x6 = some q) {r : Option V × Mem × Mem} (K : K_Y3_search_52 x1 x2 r q) : Ev M_X3_search 181 181 r 99 181 rho σ [(2, (45 : Int)), (0, x1), (1, x2), (9, 0), (9, 0), (0, x5), (0, x6)] [] := by
  unfold f_Y3_search_99 at h
  refine ev_aload_n dX3_search_99 rfl (by decide) ?_
  refine ev_iload dX3_search_100 rfl ?_
  refine ev_putfG (j := 13) (t := 0) dX3_search_102 cf_X3 wf_X3_37 sp45 (by decide) (by decide) rfl (by decide) (by decide) rfl (fun z => absurd z (by decide +kernel)) h (fun σ13 h => ?_)
  refine ev_aload_n dX3_search_105 rfl (by decide) ?_
  refine ev_getf (j := 3) (t := 2) (x := (49 : Int)) dX3_search_106 cf_X3 wf_X3_21 sp45 (by decide) (by decide) rfl (by decide) (rp45_3 _) ?_
  refine ev_iconst dX3_search_109 (by decide) ?_
  refine ev_aload_n dX3_search_110 rfl (by decide) ?_
  refine ev_getf (j := 4) (t := 2) (x := (50 : Int)) dX3_search_111 cf_X3 wf_X3_24 sp45 (by decide) (by decide) rfl (by decide) (rp45_4 _) ?_
  refine ev_iconst dX3_search_114 (by decide) ?_
  refine ev_iconst dX3_search_115 (by decide) ?_
  refine ev_copyiG dX3_search_116 wa_X3_90 wa_words sp49 (by decide) (by decide) sp50 (by decide) (by decide) (by decide) (Nat.le_of_ble_eq_true rfl) h (fun σ14 h => ?_)
  exact ev_sub (L2 := [(2, (45 : Int)), (0, x1), (1, x2), (9, 0), (9, 0), (0, x5), (9, 0)]) (e_Y3_search_119 σ14 x1 x2 x5 h K) ⟨.inr rfl, .inr rfl, .inr rfl, .inl rfl, .inl rfl, .inr rfl, .inl rfl, trivial⟩
set_option maxHeartbeats 4000000 in
set_option maxRecDepth 20000 in
theorem e_Y3_search_141 (σ : Mem) (x2 : Int)  {q : (Int × Mem)} (h : f_Y3_search_141 σ x2 = some q) : Ev M_X3_search 181 181 (some (0, q.1), rho, q.2) 141 181 rho σ [(2, (45 : Int)), (9, 0), (1, x2), (9, 0), (9, 0), (9, 0), (9, 0)] [] := by
  unfold f_Y3_search_141 at h
  refine ev_aload_n dX3_search_141 rfl (by decide) ?_
  refine ev_getf (j := 12) (t := 0) (x := (σ (45 : Int) 12)) dX3_search_142 cf_X3 wf_X3_34 sp45 (by decide) (by decide) rfl (by decide) rfl ?_
  refine ev_if_le (tgt := 164) dX3_search_145 rfl h (fun cb h => ?_) (fun cb h => ?_)
  · refine ev_iconst dX3_search_164 (by decide) ?_
    obtain rfl := Option.some.inj h
    exact ev_zret dX3_search_165 rfl (chk_pos (.inl rfl))
  refine ev_aload_n dX3_search_148 rfl (by decide) ?_
  refine ev_aload_n dX3_search_149 rfl (by decide) ?_
  refine ev_getf (j := 4) (t := 2) (x := (50 : Int)) dX3_search_150 cf_X3 wf_X3_24 sp45 (by decide) (by decide) rfl (by decide) (rp45_4 _) ?_
  refine ev_lload_n dX3_search_153 rfl ?_
  obtain ⟨v16, hc17, h⟩ := bind_of h
  refine ev_invV_v (k := (45 : Int)) (av := [(2, (50 : Int)), (1, x2)]) (st := []) (v := (0, v16.1)) (τ := v16.2) dX3_search_154 ml_X3_83 mv_X3_walk (T := TX3) (ci := 2) rfl sp45 (by decide) (by decide) rfl ⟨Nat.le_of_ble_eq_true rfl, Nat.le_of_ble_eq_true rfl⟩ (Nat.le_of_ble_eq_true rfl) (c_Y3_walk hA50 hc17) ?_
  refine ev_if_eq (tgt := 164) dX3_search_157 rfl h (fun cb h => ?_) (fun cb h => ?_)
  · refine ev_iconst dX3_search_164 (by decide) ?_
    obtain rfl := Option.some.inj h
    exact ev_zret dX3_search_165 rfl (chk_pos (.inl rfl))
  refine ev_iconst dX3_search_160 (by decide) ?_
  refine ev_goto (tgt := 165) dX3_search_161 rfl ?_
  obtain rfl := Option.some.inj h
  exact ev_zret dX3_search_165 rfl (chk_pos (.inr rfl))
set_option maxHeartbeats 4000000 in
set_option maxRecDepth 20000 in
theorem b_Y3_search_52 (x1 x2 : Int)  {r : Option V × Mem × Mem} : ∀ a x, f_Y3_search_52B x1 x2 a = some x → K_Y3_search_52 x1 x2 r x → K_Y3_search_52 x1 x2 r (.inl a) := by
  intro a x h K
  obtain ⟨x4, x5, σ⟩ := a
  have h : f_Y3_search_52C x1 x2 x4 x5 σ = some x := h
  unfold f_Y3_search_52C at h
  show Ev M_X3_search 181 181 r 52 181 rho σ [(2, (45 : Int)), (0, x1), (1, x2), (9, 0), (0, x4), (0, x5), (9, 0)] []
  refine ev_iload dX3_search_52 rfl ?_
  refine ev_bipush dX3_search_54 (by decide) (by decide) ?_
  refine ev_icmp_ge (tgt := 141) dX3_search_56 rfl h (fun cb h => ?_) (fun cb h => ?_)
  · obtain rfl := Option.some.inj h
    exact ev_sub (L2 := [(2, (45 : Int)), (9, 0), (1, x2), (9, 0), (9, 0), (9, 0), (9, 0)]) K ⟨.inr rfl, .inl rfl, .inr rfl, .inl rfl, .inl rfl, .inl rfl, .inl rfl, trivial⟩
  refine ev_iload dX3_search_59 rfl ?_
  refine ev_if_eq (tgt := 141) dX3_search_61 rfl h (fun cb h => ?_) (fun cb h => ?_)
  · obtain rfl := Option.some.inj h
    exact ev_sub (L2 := [(2, (45 : Int)), (9, 0), (1, x2), (9, 0), (9, 0), (9, 0), (9, 0)]) K ⟨.inr rfl, .inl rfl, .inr rfl, .inl rfl, .inl rfl, .inl rfl, .inl rfl, trivial⟩
  refine ev_aload_n dX3_search_64 rfl (by decide) ?_
  refine ev_aload_n dX3_search_65 rfl (by decide) ?_
  refine ev_getf (j := 3) (t := 2) (x := (49 : Int)) dX3_search_66 cf_X3 wf_X3_21 sp45 (by decide) (by decide) rfl (by decide) (rp45_3 _) ?_
  refine ev_lload_n dX3_search_69 rfl ?_
  obtain ⟨v5, hc6, h⟩ := bind_of h
  refine ev_invV_v (k := (45 : Int)) (av := [(2, (49 : Int)), (1, x2)]) (st := []) (v := (0, v5.1)) (τ := v5.2) dX3_search_70 ml_X3_83 mv_X3_walk (T := TX3) (ci := 2) rfl sp45 (by decide) (by decide) rfl ⟨Nat.le_of_ble_eq_true rfl, Nat.le_of_ble_eq_true rfl⟩ (Nat.le_of_ble_eq_true rfl) (c_Y3_walk hA49 hc6) ?_
  refine ev_if_eq (tgt := 129) dX3_search_73 rfl h (fun cb h => ?_) (fun cb h => ?_)
  · exact ev_sub (L2 := [(2, (45 : Int)), (0, x1), (1, x2), (9, 0), (9, 0), (0, x5), (9, 0)]) (e_Y3_search_129 v5.2 x1 x2 x5 h K) ⟨.inr rfl, .inr rfl, .inr rfl, .inl rfl, .inl rfl, .inr rfl, .inl rfl, trivial⟩
  refine ev_aload_n dX3_search_76 rfl (by decide) ?_
  refine ev_iload_n dX3_search_77 rfl ?_
  obtain ⟨v7, hc8, h⟩ := bind_of h
  refine ev_invV_v (k := (45 : Int)) (av := [(0, x1)]) (st := []) (v := (0, v7)) (τ := v5.2) dX3_search_78 ml_X3_87 mv_X3_measured (T := TX3) (ci := 2) rfl sp45 (by decide) (by decide) rfl ⟨Nat.le_of_ble_eq_true rfl, Nat.le_of_ble_eq_true rfl⟩ (Nat.le_of_ble_eq_true rfl) (c_Y3_measured hc8) ?_
  refine ev_istore dX3_search_81 rfl (by decide) ?_
  show Ev _ _ _ _ 83 _ _ _ [(2, (45 : Int)), (0, x1), (1, x2), (9, 0), (0, x4), (0, x5), (0, v7)] _
  refine ev_aload_n dX3_search_83 rfl (by decide) ?_
  refine ev_getf (j := 12) (t := 0) (x := (v5.2 (45 : Int) 12)) dX3_search_84 cf_X3 wf_X3_34 sp45 (by decide) (by decide) rfl (by decide) rfl ?_
  refine ev_if_eq (tgt := 99) dX3_search_87 rfl h (fun cb h => ?_) (fun cb h => ?_)
  · exact ev_sub (L2 := [(2, (45 : Int)), (0, x1), (1, x2), (9, 0), (9, 0), (0, x5), (0, v7)]) (e_Y3_search_99 v5.2 x1 x2 x5 v7 h K) ⟨.inr rfl, .inr rfl, .inr rfl, .inl rfl, .inl rfl, .inr rfl, .inr rfl, trivial⟩
  refine ev_iload dX3_search_90 rfl ?_
  refine ev_aload_n dX3_search_92 rfl (by decide) ?_
  refine ev_getf (j := 13) (t := 0) (x := (v5.2 (45 : Int) 13)) dX3_search_93 cf_X3 wf_X3_37 sp45 (by decide) (by decide) rfl (by decide) rfl ?_
  refine ev_icmp_ge (tgt := 119) dX3_search_96 rfl h (fun cb h => ?_) (fun cb h => ?_)
  · exact ev_sub (L2 := [(2, (45 : Int)), (0, x1), (1, x2), (9, 0), (9, 0), (0, x5), (9, 0)]) (e_Y3_search_119 v5.2 x1 x2 x5 h K) ⟨.inr rfl, .inr rfl, .inr rfl, .inl rfl, .inl rfl, .inr rfl, .inl rfl, trivial⟩
  exact ev_sub (L2 := [(2, (45 : Int)), (0, x1), (1, x2), (9, 0), (9, 0), (0, x5), (0, v7)]) (e_Y3_search_99 v5.2 x1 x2 x5 v7 h K) ⟨.inr rfl, .inr rfl, .inr rfl, .inl rfl, .inl rfl, .inr rfl, .inr rfl, trivial⟩
set_option maxHeartbeats 4000000 in
set_option maxRecDepth 20000 in
theorem e_Y3_search_52 (σ : Mem) (x1 x2 x4 x5 : Int)  {q : (Int × Mem)} (h : f_Y3_search_52 σ x1 x2 x4 x5 = some q) : Ev M_X3_search 181 181 (some (0, q.1), rho, q.2) 52 181 rho σ [(2, (45 : Int)), (0, x1), (1, x2), (9, 0), (0, x4), (0, x5), (9, 0)] [] := by
  unfold f_Y3_search_52 at h
  obtain ⟨e, hl, h⟩ := bind_of h
  refine loop_ev (K := K_Y3_search_52 x1 x2 (some (0, q.1), rho, q.2)) (b_Y3_search_52 x1 x2) FU (x4, x5, σ) e hl ?_
  show Ev M_X3_search 181 181 _ 141 181 rho e [(2, (45 : Int)), (9, 0), (1, x2), (9, 0), (9, 0), (9, 0), (9, 0)] []
  replace h : f_Y3_search_141 e x2 = some q := h
  exact ev_sub (L2 := [(2, (45 : Int)), (9, 0), (1, x2), (9, 0), (9, 0), (9, 0), (9, 0)]) (e_Y3_search_141 e x2 h) ⟨.inr rfl, .inl rfl, .inr rfl, .inl rfl, .inl rfl, .inl rfl, .inl rfl, trivial⟩
set_option maxHeartbeats 4000000 in
set_option maxRecDepth 20000 in
theorem e_Y3_search_46 (σ : Mem) (x1 x2 : Int)  {q : (Int × Mem)} (h : f_Y3_search_46 σ x1 x2 = some q) : Ev M_X3_search 181 181 (some (0, q.1), rho, q.2) 46 181 rho σ [(2, (45 : Int)), (0, x1), (1, x2), (9, 0), (9, 0), (9, 0), (9, 0)] [] := by
  unfold f_Y3_search_46 at h
  refine ev_iconst dX3_search_46 (by decide) ?_
  refine ev_istore dX3_search_47 rfl (by decide) ?_
  show Ev _ _ _ _ 49 _ _ _ [(2, (45 : Int)), (0, x1), (1, x2), (9, 0), (0, (1 : Int)), (9, 0), (9, 0)] _
  refine ev_iconst dX3_search_49 (by decide) ?_
  refine ev_istore dX3_search_50 rfl (by decide) ?_
  show Ev _ _ _ _ 52 _ _ _ [(2, (45 : Int)), (0, x1), (1, x2), (9, 0), (0, (1 : Int)), (0, (0 : Int)), (9, 0)] _
  exact ev_sub (L2 := [(2, (45 : Int)), (0, x1), (1, x2), (9, 0), (0, (1 : Int)), (0, (0 : Int)), (9, 0)]) (e_Y3_search_52 σ x1 x2 (1 : Int) (0 : Int) h) ⟨.inr rfl, .inr rfl, .inr rfl, .inl rfl, .inr rfl, .inr rfl, .inl rfl, trivial⟩
set_option maxHeartbeats 4000000 in
set_option maxRecDepth 20000 in
theorem b_Y3_search_22 (x1 x2 : Int)  {r : Option V × Mem × Mem} : ∀ a x, f_Y3_search_22B x1 x2 a = some x → K_Y3_search_22 x1 x2 r x → K_Y3_search_22 x1 x2 r (.inl a) := by
  intro a x h K
  obtain ⟨x4, σ⟩ := a
  have h : f_Y3_search_22C x1 x2 x4 σ = some x := h
  unfold f_Y3_search_22C at h
  show Ev M_X3_search 181 181 r 22 181 rho σ [(2, (45 : Int)), (0, x1), (1, x2), (9, 0), (0, x4), (9, 0), (9, 0)] []
  refine ev_iload dX3_search_22 rfl ?_
  refine ev_aload_n dX3_search_24 rfl (by decide) ?_
  refine ev_getf (j := 6) (t := 0) (x := (σ (45 : Int) 6)) dX3_search_25 cf_X3 wf_X3_30 sp45 (by decide) (by decide) rfl (by decide) rfl ?_
  refine ev_icmp_ge (tgt := 46) dX3_search_28 rfl h (fun cb h => ?_) (fun cb h => ?_)
  · obtain rfl := Option.some.inj h
    exact ev_sub (L2 := [(2, (45 : Int)), (0, x1), (1, x2), (9, 0), (9, 0), (9, 0), (9, 0)]) K ⟨.inr rfl, .inr rfl, .inr rfl, .inl rfl, .inl rfl, .inl rfl, .inl rfl, trivial⟩
  refine ev_aload_n dX3_search_31 rfl (by decide) ?_
  refine ev_getf (j := 3) (t := 2) (x := (49 : Int)) dX3_search_32 cf_X3 wf_X3_21 sp45 (by decide) (by decide) rfl (by decide) (rp45_3 _) ?_
  refine ev_iload dX3_search_35 rfl ?_
  refine ev_iload dX3_search_37 rfl ?_
  refine ev_iastG dX3_search_39 sp49 (by decide) (by decide) h (fun σ3 h => ?_)
  refine ev_iincG dX3_search_40 rfl h rfl (fun v4 h => ?_)
  show Ev _ _ _ _ 43 _ _ _ [(2, (45 : Int)), (0, x1), (1, x2), (9, 0), (0, v4), (9, 0), (9, 0)] _
  refine ev_goto (tgt := 22) dX3_search_43 rfl ?_
  obtain rfl := Option.some.inj h
  exact ev_sub (L2 := [(2, (45 : Int)), (0, x1), (1, x2), (9, 0), (0, v4), (9, 0), (9, 0)]) K ⟨.inr rfl, .inr rfl, .inr rfl, .inl rfl, .inr rfl, .inl rfl, .inl rfl, trivial⟩
set_option maxHeartbeats 4000000 in
set_option maxRecDepth 20000 in
theorem e_Y3_search_22 (σ : Mem) (x1 x2 x4 : Int)  {q : (Int × Mem)} (h : f_Y3_search_22 σ x1 x2 x4 = some q) : Ev M_X3_search 181 181 (some (0, q.1), rho, q.2) 22 181 rho σ [(2, (45 : Int)), (0, x1), (1, x2), (9, 0), (0, x4), (9, 0), (9, 0)] [] := by
  unfold f_Y3_search_22 at h
  obtain ⟨e, hl, h⟩ := bind_of h
  refine loop_ev (K := K_Y3_search_22 x1 x2 (some (0, q.1), rho, q.2)) (b_Y3_search_22 x1 x2) FU (x4, σ) e hl ?_
  show Ev M_X3_search 181 181 _ 46 181 rho e [(2, (45 : Int)), (0, x1), (1, x2), (9, 0), (9, 0), (9, 0), (9, 0)] []
  replace h : f_Y3_search_46 e x1 x2 = some q := h
  exact ev_sub (L2 := [(2, (45 : Int)), (0, x1), (1, x2), (9, 0), (9, 0), (9, 0), (9, 0)]) (e_Y3_search_46 e x1 x2 h) ⟨.inr rfl, .inr rfl, .inr rfl, .inl rfl, .inl rfl, .inl rfl, .inl rfl, trivial⟩
set_option maxHeartbeats 4000000 in
set_option maxRecDepth 20000 in
theorem c_Y3_search {σ : Mem} {x1 x2 : Int}  {q : (Int × Mem)} (h : f_Y3_search σ x1 x2 = some q) : Ms yX3_search M_X3_search 181 181 [(2, (45 : Int)), (0, x1), (1, x2)] rho σ (some (0, q.1), rho, q.2) := by
  refine Ms.of 3 (by decide +kernel) rfl (fun z => absurd z (by decide)) (fun _ _ _ => trivial) rfl rfl ?_
  unfold f_Y3_search at h
  show Ev M_X3_search 181 181 _ 0 181 rho σ [(2, (45 : Int)), (0, x1), (1, x2), (9, 0), (9, 0), (9, 0), (9, 0)] []
  refine ev_aload_n dX3_search_0 rfl (by decide) ?_
  refine ev_iconst dX3_search_1 (by decide) ?_
  refine ev_putfG (j := 12) (t := 0) dX3_search_2 cf_X3 wf_X3_34 sp45 (by decide) (by decide) rfl (by decide) (by decide) rfl (fun z => absurd z (by decide +kernel)) h (fun σ1 h => ?_)
  refine ev_aload_n dX3_search_5 rfl (by decide) ?_
  refine ev_iconst dX3_search_6 (by decide) ?_
  refine ev_putfG (j := 13) (t := 0) dX3_search_7 cf_X3 wf_X3_37 sp45 (by decide) (by decide) rfl (by decide) (by decide) rfl (fun z => absurd z (by decide +kernel)) h (fun σ2 h => ?_)
  refine ev_aload_n dX3_search_10 rfl (by decide) ?_
  refine ev_getf (j := 9) (t := 0) (x := (σ2 (45 : Int) 9)) dX3_search_11 cf_X3 wf_X3_59 sp45 (by decide) (by decide) rfl (by decide) rfl ?_
  refine ev_if_ge (tgt := 19) dX3_search_14 rfl h (fun cb h => ?_) (fun cb h => ?_)
  · refine ev_iconst dX3_search_19 (by decide) ?_
    refine ev_istore dX3_search_20 rfl (by decide) ?_
    show Ev _ _ _ _ 22 _ _ _ [(2, (45 : Int)), (0, x1), (1, x2), (9, 0), (0, (0 : Int)), (9, 0), (9, 0)] _
    exact ev_sub (L2 := [(2, (45 : Int)), (0, x1), (1, x2), (9, 0), (0, (0 : Int)), (9, 0), (9, 0)]) (e_Y3_search_22 σ2 x1 x2 (0 : Int) h) ⟨.inr rfl, .inr rfl, .inr rfl, .inl rfl, .inr rfl, .inl rfl, .inl rfl, trivial⟩
  refine ev_iconst dX3_search_17 (by decide) ?_
  obtain rfl := Option.some.inj h
  exact ev_zret dX3_search_18 rfl (chk_pos (.inl rfl))
set_option maxHeartbeats 4000000 in
set_option maxRecDepth 20000 in
theorem c_Y3_count {σ : Mem}  {q : Int} (h : f_Y3_count σ  = some q) : Ms yX3_count M_X3_count 181 181 [(2, (45 : Int))] rho σ (some (0, q), rho, σ) := by
  refine Ms.of 0 (by decide +kernel) rfl (fun z => absurd z (by decide)) (fun _ _ _ => trivial) rfl rfl ?_
  unfold f_Y3_count at h
  show Ev M_X3_count 181 181 _ 0 181 rho σ [(2, (45 : Int))] []
  refine ev_aload_n dX3_count_0 rfl (by decide) ?_
  refine ev_getf (j := 6) (t := 0) (x := (σ (45 : Int) 6)) dX3_count_1 cf_X3 wf_X3_30 sp45 (by decide) (by decide) rfl (by decide) rfl ?_
  obtain rfl := Option.some.inj h
  exact ev_iret dX3_count_4 rfl rfl
set_option maxHeartbeats 4000000 in
set_option maxRecDepth 20000 in
theorem c_Y3_keptSlots {σ : Mem}  {q : Int} (h : f_Y3_keptSlots σ  = some q) : Ms yX3_keptSlots M_X3_keptSlots 181 181 [(2, (45 : Int))] rho σ (some (1, q), rho, σ) := by
  refine Ms.of 0 (by decide +kernel) rfl (fun z => absurd z (by decide)) (fun _ _ _ => trivial) rfl rfl ?_
  unfold f_Y3_keptSlots at h
  show Ev M_X3_keptSlots 181 181 _ 0 181 rho σ [(2, (45 : Int))] []
  refine ev_aload_n dX3_keptSlots_0 rfl (by decide) ?_
  refine ev_getf (j := 11) (t := 1) (x := (σ (45 : Int) 11)) dX3_keptSlots_1 cf_X3 wf_X3_40 sp45 (by decide) (by decide) rfl (by decide) rfl ?_
  obtain rfl := Option.some.inj h
  exact ev_lret dX3_keptSlots_4 rfl rfl
set_option maxHeartbeats 4000000 in
set_option maxRecDepth 20000 in
theorem c_Y3_paperAt {σ : Mem} {x1 : Int}  {q : Int} (h : f_Y3_paperAt σ x1 = some q) : Ms yX3_paperAt M_X3_paperAt 181 181 [(2, (45 : Int)), (0, x1)] rho σ (some (0, q), rho, σ) := by
  refine Ms.of 0 (by decide +kernel) rfl (fun z => absurd z (by decide)) (fun _ _ _ => trivial) rfl rfl ?_
  unfold f_Y3_paperAt at h
  show Ev M_X3_paperAt 181 181 _ 0 181 rho σ [(2, (45 : Int)), (0, x1)] []
  refine ev_iload_n dX3_paperAt_0 rfl ?_
  refine ev_if_lt (tgt := 26) dX3_paperAt_1 rfl h (fun cb h => ?_) (fun cb h => ?_)
  · refine ev_iconst dX3_paperAt_26 (by decide) ?_
    obtain rfl := Option.some.inj h
    exact ev_iret dX3_paperAt_27 rfl rfl
  refine ev_iload_n dX3_paperAt_4 rfl ?_
  refine ev_aload_n dX3_paperAt_5 rfl (by decide) ?_
  refine ev_getf (j := 6) (t := 0) (x := (σ (45 : Int) 6)) dX3_paperAt_6 cf_X3 wf_X3_30 sp45 (by decide) (by decide) rfl (by decide) rfl ?_
  refine ev_icmp_ge (tgt := 26) dX3_paperAt_9 rfl h (fun cb h => ?_) (fun cb h => ?_)
  · refine ev_iconst dX3_paperAt_26 (by decide) ?_
    obtain rfl := Option.some.inj h
    exact ev_iret dX3_paperAt_27 rfl rfl
  refine ev_aload_n dX3_paperAt_12 rfl (by decide) ?_
  refine ev_getf (j := 0) (t := 2) (x := (46 : Int)) dX3_paperAt_13 cf_X3 wf_X3_9 sp45 (by decide) (by decide) rfl (by decide) (rp45_0 _) ?_
  refine ev_aload_n dX3_paperAt_16 rfl (by decide) ?_
  refine ev_getf (j := 4) (t := 2) (x := (50 : Int)) dX3_paperAt_17 cf_X3 wf_X3_24 sp45 (by decide) (by decide) rfl (by decide) (rp45_4 _) ?_
  refine ev_iload_n dX3_paperAt_20 rfl ?_
  refine ev_iald dX3_paperAt_21 sp50 (by decide) (by decide) h (fun h => ?_)
  refine ev_iald dX3_paperAt_22 sp46 (by decide) (by decide) h (fun h => ?_)
  refine ev_goto (tgt := 27) dX3_paperAt_23 rfl ?_
  obtain rfl := Option.some.inj h
  exact ev_iret dX3_paperAt_27 rfl rfl
set_option maxHeartbeats 4000000 in
set_option maxRecDepth 20000 in
theorem c_Y3_beginAt {σ : Mem} {x1 : Int}  {q : Int} (h : f_Y3_beginAt σ x1 = some q) : Ms yX3_beginAt M_X3_beginAt 181 181 [(2, (45 : Int)), (0, x1)] rho σ (some (0, q), rho, σ) := by
  refine Ms.of 0 (by decide +kernel) rfl (fun z => absurd z (by decide)) (fun _ _ _ => trivial) rfl rfl ?_
  unfold f_Y3_beginAt at h
  show Ev M_X3_beginAt 181 181 _ 0 181 rho σ [(2, (45 : Int)), (0, x1)] []
  refine ev_iload_n dX3_beginAt_0 rfl ?_
  refine ev_if_lt (tgt := 21) dX3_beginAt_1 rfl h (fun cb h => ?_) (fun cb h => ?_)
  · refine ev_iconst dX3_beginAt_21 (by decide) ?_
    obtain rfl := Option.some.inj h
    exact ev_iret dX3_beginAt_22 rfl rfl
  refine ev_iload_n dX3_beginAt_4 rfl ?_
  refine ev_aload_n dX3_beginAt_5 rfl (by decide) ?_
  refine ev_getf (j := 6) (t := 0) (x := (σ (45 : Int) 6)) dX3_beginAt_6 cf_X3 wf_X3_30 sp45 (by decide) (by decide) rfl (by decide) rfl ?_
  refine ev_icmp_ge (tgt := 21) dX3_beginAt_9 rfl h (fun cb h => ?_) (fun cb h => ?_)
  · refine ev_iconst dX3_beginAt_21 (by decide) ?_
    obtain rfl := Option.some.inj h
    exact ev_iret dX3_beginAt_22 rfl rfl
  refine ev_aload_n dX3_beginAt_12 rfl (by decide) ?_
  refine ev_getf (j := 5) (t := 2) (x := (51 : Int)) dX3_beginAt_13 cf_X3 wf_X3_27 sp45 (by decide) (by decide) rfl (by decide) (rp45_5 _) ?_
  refine ev_iload_n dX3_beginAt_16 rfl ?_
  refine ev_iald dX3_beginAt_17 sp51 (by decide) (by decide) h (fun h => ?_)
  refine ev_goto (tgt := 22) dX3_beginAt_18 rfl ?_
  obtain rfl := Option.some.inj h
  exact ev_iret dX3_beginAt_22 rfl rfl
set_option maxHeartbeats 4000000 in
set_option maxRecDepth 20000 in
theorem c_Y3_endAt {σ : Mem} {x1 : Int}  {q : Int} (h : f_Y3_endAt σ x1 = some q) : Ms yX3_endAt M_X3_endAt 181 181 [(2, (45 : Int)), (0, x1)] rho σ (some (0, q), rho, σ) := by
  refine Ms.of 0 (by decide +kernel) rfl (fun z => absurd z (by decide)) (fun _ _ _ => trivial) rfl rfl ?_
  unfold f_Y3_endAt at h
  show Ev M_X3_endAt 181 181 _ 0 181 rho σ [(2, (45 : Int)), (0, x1)] []
  refine ev_iload_n dX3_endAt_0 rfl ?_
  refine ev_if_lt (tgt := 33) dX3_endAt_1 rfl h (fun cb h => ?_) (fun cb h => ?_)
  · refine ev_iconst dX3_endAt_33 (by decide) ?_
    obtain rfl := Option.some.inj h
    exact ev_iret dX3_endAt_34 rfl rfl
  refine ev_iload_n dX3_endAt_4 rfl ?_
  refine ev_aload_n dX3_endAt_5 rfl (by decide) ?_
  refine ev_getf (j := 6) (t := 0) (x := (σ (45 : Int) 6)) dX3_endAt_6 cf_X3 wf_X3_30 sp45 (by decide) (by decide) rfl (by decide) rfl ?_
  refine ev_icmp_ge (tgt := 33) dX3_endAt_9 rfl h (fun cb h => ?_) (fun cb h => ?_)
  · refine ev_iconst dX3_endAt_33 (by decide) ?_
    obtain rfl := Option.some.inj h
    exact ev_iret dX3_endAt_34 rfl rfl
  refine ev_aload_n dX3_endAt_12 rfl (by decide) ?_
  refine ev_getf (j := 5) (t := 2) (x := (51 : Int)) dX3_endAt_13 cf_X3 wf_X3_27 sp45 (by decide) (by decide) rfl (by decide) (rp45_5 _) ?_
  refine ev_iload_n dX3_endAt_16 rfl ?_
  refine ev_iald dX3_endAt_17 sp51 (by decide) (by decide) h (fun h => ?_)
  refine ev_aload_n dX3_endAt_18 rfl (by decide) ?_
  refine ev_getf (j := 2) (t := 2) (x := (48 : Int)) dX3_endAt_19 cf_X3 wf_X3_18 sp45 (by decide) (by decide) rfl (by decide) (rp45_2 _) ?_
  refine ev_aload_n dX3_endAt_22 rfl (by decide) ?_
  refine ev_getf (j := 4) (t := 2) (x := (50 : Int)) dX3_endAt_23 cf_X3 wf_X3_24 sp45 (by decide) (by decide) rfl (by decide) (rp45_4 _) ?_
  refine ev_iload_n dX3_endAt_26 rfl ?_
  refine ev_iald dX3_endAt_27 sp50 (by decide) (by decide) h (fun h => ?_)
  refine ev_iald dX3_endAt_28 sp48 (by decide) (by decide) h (fun h => ?_)
  show Ev _ _ _ _ 29 _ _ _ _ _
  refine ev_iadd dX3_endAt_29 ?_
  refine ev_goto (tgt := 34) dX3_endAt_30 rfl ?_
  obtain rfl := Option.some.inj h
  exact ev_iret dX3_endAt_34 rfl rfl
def K_Y8_put_37 (x0 x1 : Int) (r : Option V × Mem × Mem) : (Int × Mem) ⊕ ((Mem)) → Prop := Sum.elim (fun a => Ev M_X8_put 181 181 r 37 181 rho a.2 [(2, x0), (0, x1), (2, (45 : Int)), (9, 0), (0, a.1), (9, 0)] []) (fun e => Ev M_X8_put 181 181 r 105 181 rho e [(9, 0), (9, 0), (9, 0), (9, 0), (9, 0), (9, 0)] [])
set_option maxHeartbeats 4000000 in
set_option maxRecDepth 20000 in
theorem b_Y8_put_37 (x0 x1 : Int) (hx0 : isW x0) {r : Option V × Mem × Mem} : ∀ a x, f_Y8_put_37B x0 x1 a = some x → K_Y8_put_37 x0 x1 r x → K_Y8_put_37 x0 x1 r (.inl a) := by
  intro a x h K
  obtain ⟨x4, σ⟩ := a
  have h : f_Y8_put_37C x0 x1 x4 σ = some x := h
  unfold f_Y8_put_37C at h
  show Ev M_X8_put 181 181 r 37 181 rho σ [(2, x0), (0, x1), (2, (45 : Int)), (9, 0), (0, x4), (9, 0)] []
  refine ev_iload dX8_put_37 rfl ?_
  refine ev_aload_n dX8_put_39 rfl (by decide) ?_
  obtain ⟨v9, hc10, h⟩ := bind_of h
  refine ev_invV_v (k := (45 : Int)) (av := []) (st := [(0, x4)]) (v := (0, v9)) (τ := σ) dX8_put_40 ml_X8_47 mv_X3_count (T := TX3) (ci := 2) rfl sp45 (by decide) (by decide) rfl ⟨Nat.le_of_ble_eq_true rfl, Nat.le_of_ble_eq_true rfl⟩ (Nat.le_of_ble_eq_true rfl) (c_Y3_count hc10) ?_
  refine ev_icmp_ge (tgt := 105) dX8_put_43 rfl h (fun cb h => ?_) (fun cb h => ?_)
  · obtain rfl := Option.some.inj h
    exact ev_sub (L2 := [(9, 0), (9, 0), (9, 0), (9, 0), (9, 0), (9, 0)]) K ⟨.inl rfl, .inl rfl, .inl rfl, .inl rfl, .inl rfl, .inl rfl, trivial⟩
  refine ev_iload dX8_put_46 rfl ?_
  refine ev_iconst dX8_put_48 (by decide) ?_
  refine ev_icmp_ge (tgt := 105) dX8_put_49 rfl h (fun cb h => ?_) (fun cb h => ?_)
  · obtain rfl := Option.some.inj h
    exact ev_sub (L2 := [(9, 0), (9, 0), (9, 0), (9, 0), (9, 0), (9, 0)]) K ⟨.inl rfl, .inl rfl, .inl rfl, .inl rfl, .inl rfl, .inl rfl, trivial⟩
  refine ev_iload_n dX8_put_52 rfl ?_
  refine ev_iconst dX8_put_53 (by decide) ?_
  refine ev_imul dX8_put_54 ?_
  refine ev_iload dX8_put_55 rfl ?_
  refine ev_iadd dX8_put_57 ?_
  refine ev_istoreG dX8_put_58 h rfl (by decide) (fun v11 h => ?_)
  show Ev _ _ _ _ 60 _ _ _ [(2, x0), (0, x1), (2, (45 : Int)), (9, 0), (0, x4), (0, v11)] _
  refine ev_aload_n dX8_put_60 rfl (pW hx0).1 ?_
  refine ev_getf (j := 6) (t := 2) (x := (x0 + 7)) dX8_put_61 cf_X8 wf_X8_32 (sW hx0) (pW hx0).1 (pW hx0).2 rfl (by decide) (rW6 _ hx0) ?_
  refine ev_iload dX8_put_64 rfl ?_
  refine ev_aload_n dX8_put_66 rfl (by decide) ?_
  refine ev_iload dX8_put_67 rfl ?_
  show Ev _ _ _ _ 69 _ _ _ _ _
  obtain ⟨v12, hc13, h⟩ := bind_of h
  refine ev_invV_v (k := (45 : Int)) (av := [(0, x4)]) (st := [(0, v11), (2, (x0 + 7))]) (v := (0, v12)) (τ := σ) dX8_put_69 ml_X8_56 mv_X3_paperAt (T := TX3) (ci := 2) rfl sp45 (by decide) (by decide) rfl ⟨Nat.le_of_ble_eq_true rfl, Nat.le_of_ble_eq_true rfl⟩ (Nat.le_of_ble_eq_true rfl) (c_Y3_paperAt hc13) ?_
  refine ev_iastG dX8_put_72 (sW6 hx0) (pW6 hx0).1 (pW6 hx0).2 h (fun σ14 h => ?_)
  refine ev_aload_n dX8_put_73 rfl (pW hx0).1 ?_
  refine ev_getf (j := 7) (t := 2) (x := (x0 + 8)) dX8_put_74 cf_X8 wf_X8_35 (sW hx0) (pW hx0).1 (pW hx0).2 rfl (by decide) (rW7 _ hx0) ?_
  refine ev_iload dX8_put_77 rfl ?_
  refine ev_aload_n dX8_put_79 rfl (by decide) ?_
  refine ev_iload dX8_put_80 rfl ?_
  obtain ⟨v15, hc16, h⟩ := bind_of h
  refine ev_invV_v (k := (45 : Int)) (av := [(0, x4)]) (st := [(0, v11), (2, (x0 + 8))]) (v := (0, v15)) (τ := σ14) dX8_put_82 ml_X8_60 mv_X3_beginAt (T := TX3) (ci := 2) rfl sp45 (by decide) (by decide) rfl ⟨Nat.le_of_ble_eq_true rfl, Nat.le_of_ble_eq_true rfl⟩ (Nat.le_of_ble_eq_true rfl) (c_Y3_beginAt hc16) ?_
  refine ev_iastG dX8_put_85 (sW7 hx0) (pW7 hx0).1 (pW7 hx0).2 h (fun σ17 h => ?_)
  refine ev_aload_n dX8_put_86 rfl (pW hx0).1 ?_
  refine ev_getf (j := 8) (t := 2) (x := (x0 + 9)) dX8_put_87 cf_X8 wf_X8_38 (sW hx0) (pW hx0).1 (pW hx0).2 rfl (by decide) (rW8 _ hx0) ?_
  refine ev_iload dX8_put_90 rfl ?_
  show Ev _ _ _ _ 92 _ _ _ _ _
  refine ev_aload_n dX8_put_92 rfl (by decide) ?_
  refine ev_iload dX8_put_93 rfl ?_
  obtain ⟨v18, hc19, h⟩ := bind_of h
  refine ev_invV_v (k := (45 : Int)) (av := [(0, x4)]) (st := [(0, v11), (2, (x0 + 9))]) (v := (0, v18)) (τ := σ17) dX8_put_95 ml_X8_63 mv_X3_endAt (T := TX3) (ci := 2) rfl sp45 (by decide) (by decide) rfl ⟨Nat.le_of_ble_eq_true rfl, Nat.le_of_ble_eq_true rfl⟩ (Nat.le_of_ble_eq_true rfl) (c_Y3_endAt hc19) ?_
  refine ev_iastG dX8_put_98 (sW8 hx0) (pW8 hx0).1 (pW8 hx0).2 h (fun σ20 h => ?_)
  refine ev_iincG dX8_put_99 rfl h rfl (fun v21 h => ?_)
  show Ev _ _ _ _ 102 _ _ _ [(2, x0), (0, x1), (2, (45 : Int)), (9, 0), (0, v21), (0, v11)] _
  refine ev_goto (tgt := 37) dX8_put_102 rfl ?_
  obtain rfl := Option.some.inj h
  exact ev_sub (L2 := [(2, x0), (0, x1), (2, (45 : Int)), (9, 0), (0, v21), (9, 0)]) K ⟨.inr rfl, .inr rfl, .inr rfl, .inl rfl, .inr rfl, .inl rfl, trivial⟩
set_option maxHeartbeats 4000000 in
set_option maxRecDepth 20000 in
theorem e_Y8_put_37 (σ : Mem) (x0 x1 x4 : Int) (hx0 : isW x0) {q : Mem} (h : f_Y8_put_37 σ x0 x1 x4 = some q) : Ev M_X8_put 181 181 (none, rho, q) 37 181 rho σ [(2, x0), (0, x1), (2, (45 : Int)), (9, 0), (0, x4), (9, 0)] [] := by
  unfold f_Y8_put_37 at h
  obtain ⟨e, hl, h⟩ := bind_of h
  refine loop_ev (K := K_Y8_put_37 x0 x1 (none, rho, q)) (b_Y8_put_37 x0 x1 hx0) FU (x4, σ) e hl ?_
  show Ev M_X8_put 181 181 _ 105 181 rho e [(9, 0), (9, 0), (9, 0), (9, 0), (9, 0), (9, 0)] []
  replace h : some e = some q := h
  obtain rfl := Option.some.inj h
  exact ev_vret dX8_put_105 rfl rfl
set_option maxHeartbeats 4000000 in
set_option maxRecDepth 20000 in
theorem c_Y8_put {σ : Mem} {x0 x1 x3 : Int} (hx0 : isW x0) {q : Mem} (h : f_Y8_put σ x0 x1 x3 = some q) : Ms yX8_put M_X8_put 181 181 [(2, x0), (0, x1), (2, (45 : Int)), (0, x3)] rho σ (none, rho, q) := by
  refine Ms.of 2 (by decide +kernel) rfl (fun z => absurd z (by decide)) (fun _ _ _ => trivial) rfl rfl ?_
  unfold f_Y8_put at h
  show Ev M_X8_put 181 181 _ 0 181 rho σ [(2, x0), (0, x1), (2, (45 : Int)), (0, x3), (9, 0), (9, 0)] []
  refine ev_aload_n dX8_put_0 rfl (pW hx0).1 ?_
  refine ev_getf (j := 0) (t := 2) (x := (x0 + 1)) dX8_put_1 cf_X8 wf_X8_9 (sW hx0) (pW hx0).1 (pW hx0).2 rfl (by decide) (rW0 _ hx0) ?_
  refine ev_iload_n dX8_put_4 rfl ?_
  refine ev_iconst dX8_put_5 (by decide) ?_
  refine ev_zastG dX8_put_6 (sW0 hx0) (pW0 hx0).1 (pW0 hx0).2 h (fun σ1 h => ?_)
  refine ev_aload_n dX8_put_7 rfl (pW hx0).1 ?_
  refine ev_getf (j := 1) (t := 2) (x := (x0 + 2)) dX8_put_8 cf_X8 wf_X8_15 (sW hx0) (pW hx0).1 (pW hx0).2 rfl (by decide) (rW1 _ hx0) ?_
  refine ev_iload_n dX8_put_11 rfl ?_
  refine ev_iload_n dX8_put_12 rfl ?_
  refine ev_iastG dX8_put_13 (sW1 hx0) (pW1 hx0).1 (pW1 hx0).2 h (fun σ2 h => ?_)
  refine ev_aload_n dX8_put_14 rfl (pW hx0).1 ?_
  show Ev _ _ _ _ 15 _ _ _ _ _
  refine ev_getf (j := 4) (t := 2) (x := (x0 + 5)) dX8_put_15 cf_X8 wf_X8_25 (sW hx0) (pW hx0).1 (pW hx0).2 rfl (by decide) (rW4 _ hx0) ?_
  refine ev_iload_n dX8_put_18 rfl ?_
  refine ev_aload_n dX8_put_19 rfl (by decide) ?_
  obtain ⟨v3, hc4, h⟩ := bind_of h
  refine ev_invV_v (k := (45 : Int)) (av := []) (st := [(0, x1), (2, (x0 + 5))]) (v := (0, v3)) (τ := σ2) dX8_put_20 ml_X8_47 mv_X3_count (T := TX3) (ci := 2) rfl sp45 (by decide) (by decide) rfl ⟨Nat.le_of_ble_eq_true rfl, Nat.le_of_ble_eq_true rfl⟩ (Nat.le_of_ble_eq_true rfl) (c_Y3_count hc4) ?_
  refine ev_iastG dX8_put_23 (sW4 hx0) (pW4 hx0).1 (pW4 hx0).2 h (fun σ5 h => ?_)
  refine ev_aload_n dX8_put_24 rfl (pW hx0).1 ?_
  refine ev_getf (j := 5) (t := 2) (x := (x0 + 6)) dX8_put_25 cf_X8 wf_X8_28 (sW hx0) (pW hx0).1 (pW hx0).2 rfl (by decide) (rW5 _ hx0) ?_
  refine ev_iload_n dX8_put_28 rfl ?_
  refine ev_aload_n dX8_put_29 rfl (by decide) ?_
  obtain ⟨v6, hc7, h⟩ := bind_of h
  refine ev_invV_v (k := (45 : Int)) (av := []) (st := [(0, x1), (2, (x0 + 6))]) (v := (1, v6)) (τ := σ5) dX8_put_30 ml_X8_52 mv_X3_keptSlots (T := TX3) (ci := 2) rfl sp45 (by decide) (by decide) rfl ⟨Nat.le_of_ble_eq_true rfl, Nat.le_of_ble_eq_true rfl⟩ (Nat.le_of_ble_eq_true rfl) (c_Y3_keptSlots hc7) ?_
  refine ev_lastG dX8_put_33 (sW5 hx0) (pW5 hx0).1 (pW5 hx0).2 h (fun σ8 h => ?_)
  refine ev_iconst dX8_put_34 (by decide) ?_
  show Ev _ _ _ _ 35 _ _ _ _ _
  refine ev_istore dX8_put_35 rfl (by decide) ?_
  show Ev _ _ _ _ 37 _ _ _ [(2, x0), (0, x1), (2, (45 : Int)), (0, x3), (0, (0 : Int)), (9, 0)] _
  exact ev_sub (L2 := [(2, x0), (0, x1), (2, (45 : Int)), (9, 0), (0, (0 : Int)), (9, 0)]) (e_Y8_put_37 σ8 x0 x1 (0 : Int) hx0 h) ⟨.inr rfl, .inr rfl, .inr rfl, .inl rfl, .inr rfl, .inl rfl, trivial⟩
set_option maxHeartbeats 4000000 in
set_option maxRecDepth 20000 in
theorem c_Y3_least {σ : Mem}  {q : Int} (h : f_Y3_least σ  = some q) : Ms yX3_least M_X3_least 181 181 [(2, (45 : Int))] rho σ (some (0, q), rho, σ) := by
  refine Ms.of 0 (by decide +kernel) rfl (fun z => absurd z (by decide)) (fun _ _ _ => trivial) rfl rfl ?_
  unfold f_Y3_least at h
  show Ev M_X3_least 181 181 _ 0 181 rho σ [(2, (45 : Int))] []
  refine ev_aload_n dX3_least_0 rfl (by decide) ?_
  refine ev_getf (j := 13) (t := 0) (x := (σ (45 : Int) 13)) dX3_least_1 cf_X3 wf_X3_37 sp45 (by decide) (by decide) rfl (by decide) rfl ?_
  obtain rfl := Option.some.inj h
  exact ev_iret dX3_least_4 rfl rfl
def K_Y4_planDay_131 (x1 x2 x3 x4 x6 x7 x8 : Int) (r : Option V × Mem × Mem) : (Int × Int × Mem) ⊕ ((Mem)) → Prop := Sum.elim (fun a => Ev M_X4_planDay 181 181 r 131 181 rho a.2.2 [(2, (44 : Int)), (2, x1), (0, x2), (0, x3), (2, x4), (9, 0), (0, x6), (0, x7), (0, x8), (0, a.1), (0, a.2.1), (9, 0)] []) (fun e => Ev M_X4_planDay 181 181 r 267 181 rho e [(9, 0), (9, 0), (9, 0), (9, 0), (9, 0), (9, 0), (9, 0), (9, 0), (9, 0), (9, 0), (9, 0), (9, 0)] [])
set_option maxHeartbeats 4000000 in
set_option maxRecDepth 20000 in
theorem e_Y4_planDay_261 (σ : Mem) (x1 x2 x3 x4 x6 x7 x8 x9 x10 : Int) (hx1 : isB x1) (hx4 : isW x4) {q : ((Int × Int × Mem) ⊕ ((Mem)))} (h : f_Y4_planDay_261 σ x1 x2 x3 x4 x6 x7 x8 x9 x10 = some q) {r : Option V × Mem × Mem} (K : K_Y4_planDay_131 x1 x2 x3 x4 x6 x7 x8 r q) : Ev M_X4_planDay 181 181 r 261 181 rho σ [(2, (44 : Int)), (2, x1), (0, x2), (0, x3), (2, x4), (9, 0), (0, x6), (0, x7), (0, x8), (0, x9), (0, x10), (9, 0)] [] := by
  unfold f_Y4_planDay_261 at h
  refine ev_iincG dX4_planDay_261 rfl h rfl (fun v31 h => ?_)
  show Ev _ _ _ _ 264 _ _ _ [(2, (44 : Int)), (2, x1), (0, x2), (0, x3), (2, x4), (9, 0), (0, x6), (0, x7), (0, x8), (0, x9), (0, v31), (9, 0)] _
  refine ev_goto (tgt := 131) dX4_planDay_264 rfl ?_
  obtain rfl := Option.some.inj h
  exact ev_sub (L2 := [(2, (44 : Int)), (2, x1), (0, x2), (0, x3), (2, x4), (9, 0), (0, x6), (0, x7), (0, x8), (0, x9), (0, v31), (9, 0)]) K ⟨.inr rfl, .inr rfl, .inr rfl, .inr rfl, .inr rfl, .inl rfl, .inr rfl, .inr rfl, .inr rfl, .inr rfl, .inr rfl, .inl rfl, trivial⟩
set_option maxHeartbeats 4000000 in
set_option maxRecDepth 20000 in
theorem e_Y4_planDay_240 (σ : Mem) (x1 x2 x3 x4 x6 x7 x8 x10 : Int) (hx1 : isB x1) (hx4 : isW x4) {q : ((Int × Int × Mem) ⊕ ((Mem)))} (h : f_Y4_planDay_240 σ x1 x2 x3 x4 x6 x7 x8 x10 = some q) {r : Option V × Mem × Mem} (K : K_Y4_planDay_131 x1 x2 x3 x4 x6 x7 x8 r q) : Ev M_X4_planDay 181 181 r 240 181 rho σ [(2, (44 : Int)), (2, x1), (0, x2), (0, x3), (2, x4), (9, 0), (0, x6), (0, x7), (0, x8), (9, 0), (0, x10), (9, 0)] [] := by
  unfold f_Y4_planDay_240 at h
  refine ev_aload_n dX4_planDay_240 rfl (by decide) ?_
  refine ev_getf (j := 0) (t := 2) (x := (45 : Int)) dX4_planDay_241 cf_X4 wf_X4_12 sp44 (by decide) (by decide) rfl (by decide) (rp44_0 _) ?_
  obtain ⟨v32, hc33, h⟩ := bind_of h
  refine ev_invV_v (k := (45 : Int)) (av := []) (st := []) (v := (0, v32)) (τ := σ) dX4_planDay_244 ml_X4_93 mv_X3_least (T := TX3) (ci := 2) rfl sp45 (by decide) (by decide) rfl ⟨Nat.le_of_ble_eq_true rfl, Nat.le_of_ble_eq_true rfl⟩ (Nat.le_of_ble_eq_true rfl) (c_Y3_least hc33) ?_
  refine ev_istore dX4_planDay_247 rfl (by decide) ?_
  show Ev _ _ _ _ 249 _ _ _ [(2, (44 : Int)), (2, x1), (0, x2), (0, x3), (2, x4), (9, 0), (0, x6), (0, x7), (0, x8), (0, v32), (0, x10), (9, 0)] _
  refine ev_aload dX4_planDay_249 rfl (pW hx4).1 ?_
  refine ev_iload_n dX4_planDay_251 rfl ?_
  refine ev_aload_n dX4_planDay_252 rfl (by decide) ?_
  refine ev_getf (j := 0) (t := 2) (x := (45 : Int)) dX4_planDay_253 cf_X4 wf_X4_12 sp44 (by decide) (by decide) rfl (by decide) (rp44_0 _) ?_
  refine ev_iload dX4_planDay_256 rfl ?_
  obtain ⟨σ34, hc35, h⟩ := bind_of h
  refine ev_invV_n (k := x4) (av := [(0, x3), (2, (45 : Int)), (0, x10)]) (st := []) (τ := σ34) dX4_planDay_258 ml_X4_59 mv_X8_put (T := TX8) (ci := 7) rfl (sW hx4) (pW hx4).1 (pW hx4).2 rfl ⟨Nat.le_of_ble_eq_true rfl, Nat.le_of_ble_eq_true rfl⟩ (Nat.le_of_ble_eq_true rfl) (c_Y8_put hx4 hc35) ?_
  exact ev_sub (L2 := [(2, (44 : Int)), (2, x1), (0, x2), (0, x3), (2, x4), (9, 0), (0, x6), (0, x7), (0, x8), (0, v32), (0, x10), (9, 0)]) (e_Y4_planDay_261 σ34 x1 x2 x3 x4 x6 x7 x8 v32 x10 hx1 hx4 h K) ⟨.inr rfl, .inr rfl, .inr rfl, .inr rfl, .inr rfl, .inl rfl, .inr rfl, .inr rfl, .inr rfl, .inr rfl, .inr rfl, .inl rfl, trivial⟩
set_option maxHeartbeats 4000000 in
set_option maxRecDepth 20000 in
theorem b_Y4_planDay_131 (x1 x2 x3 x4 x6 x7 x8 : Int) (hx1 : isB x1) (hx4 : isW x4) {r : Option V × Mem × Mem} : ∀ a x, f_Y4_planDay_131B x1 x2 x3 x4 x6 x7 x8 a = some x → K_Y4_planDay_131 x1 x2 x3 x4 x6 x7 x8 r x → K_Y4_planDay_131 x1 x2 x3 x4 x6 x7 x8 r (.inl a) := by
  intro a x h K
  obtain ⟨x9, x10, σ⟩ := a
  have h : f_Y4_planDay_131C x1 x2 x3 x4 x6 x7 x8 x9 x10 σ = some x := h
  unfold f_Y4_planDay_131C at h
  show Ev M_X4_planDay 181 181 r 131 181 rho σ [(2, (44 : Int)), (2, x1), (0, x2), (0, x3), (2, x4), (9, 0), (0, x6), (0, x7), (0, x8), (0, x9), (0, x10), (9, 0)] []
  refine ev_iload dX4_planDay_131 rfl ?_
  refine ev_aload_n dX4_planDay_133 rfl (pB hx1).1 ?_
  refine ev_getf (j := 8) (t := 0) (x := (σ x1 8)) dX4_planDay_134 cf_X0 wf_X4_66 (sB hx1) (pB hx1).1 (pB hx1).2 rfl (by decide) rfl ?_
  refine ev_icmp_ge (tgt := 267) dX4_planDay_137 rfl h (fun cb h => ?_) (fun cb h => ?_)
  · obtain rfl := Option.some.inj h
    exact ev_sub (L2 := [(9, 0), (9, 0), (9, 0), (9, 0), (9, 0), (9, 0), (9, 0), (9, 0), (9, 0), (9, 0), (9, 0), (9, 0)]) K ⟨.inl rfl, .inl rfl, .inl rfl, .inl rfl, .inl rfl, .inl rfl, .inl rfl, .inl rfl, .inl rfl, .inl rfl, .inl rfl, .inl rfl, trivial⟩
  refine ev_iload dX4_planDay_140 rfl ?_
  refine ev_iload dX4_planDay_142 rfl ?_
  obtain ⟨v18, hc19, h⟩ := bind_of h
  refine ev_invSN_v (av := [(0, x8), (0, x10)]) (st := []) (v := (0, v18)) (τ := σ) dX4_planDay_144 ml_X4_70 mt_X10_hasBit rfl ⟨Nat.le_of_ble_eq_true rfl, Nat.le_of_ble_eq_true rfl⟩ (Nat.le_of_ble_eq_true rfl) (c_X10_hasBit hc19) ?_
  refine ev_if_eq (tgt := 261) dX4_planDay_147 rfl h (fun cb h => ?_) (fun cb h => ?_)
  · exact ev_sub (L2 := [(2, (44 : Int)), (2, x1), (0, x2), (0, x3), (2, x4), (9, 0), (0, x6), (0, x7), (0, x8), (0, x9), (0, x10), (9, 0)]) (e_Y4_planDay_261 σ x1 x2 x3 x4 x6 x7 x8 x9 x10 hx1 hx4 h K) ⟨.inr rfl, .inr rfl, .inr rfl, .inr rfl, .inr rfl, .inl rfl, .inr rfl, .inr rfl, .inr rfl, .inr rfl, .inr rfl, .inl rfl, trivial⟩
  refine ev_aload_n dX4_planDay_150 rfl (pB hx1).1 ?_
  refine ev_iload_n dX4_planDay_151 rfl ?_
  refine ev_iload dX4_planDay_152 rfl ?_
  obtain ⟨v20, hc21, h⟩ := bind_of h
  refine ev_invV_v (k := x1) (av := [(0, x2), (0, x10)]) (st := []) (v := (0, v20)) (τ := σ) dX4_planDay_154 ml_X4_32 mv_X0_timeFor (T := TX0) (ci := 0) rfl (sB hx1) (pB hx1).1 (pB hx1).2 rfl ⟨Nat.le_of_ble_eq_true rfl, Nat.le_of_ble_eq_true rfl⟩ (Nat.le_of_ble_eq_true rfl) (c_X0_timeFor hx1 hc21) ?_
  refine ev_bipush dX4_planDay_157 (by decide) (by decide) ?_
  refine ev_aload_n dX4_planDay_159 rfl (pB hx1).1 ?_
  refine ev_getf (j := 11) (t := 0) (x := (σ x1 11)) dX4_planDay_160 cf_X0 wf_X4_74 (sB hx1) (pB hx1).1 (pB hx1).2 rfl (by decide) rfl ?_
  refine ev_mn dX4_planDay_163 wa_X4_77 wm_min (by decide) (Nat.le_of_ble_eq_true rfl) ?_
  refine ev_icmp_gt (tgt := 261) dX4_planDay_166 rfl h (fun cb h => ?_) (fun cb h => ?_)
  · exact ev_sub (L2 := [(2, (44 : Int)), (2, x1), (0, x2), (0, x3), (2, x4), (9, 0), (0, x6), (0, x7), (0, x8), (0, x9), (0, x10), (9, 0)]) (e_Y4_planDay_261 σ x1 x2 x3 x4 x6 x7 x8 x9 x10 hx1 hx4 h K) ⟨.inr rfl, .inr rfl, .inr rfl, .inr rfl, .inr rfl, .inl rfl, .inr rfl, .inr rfl, .inr rfl, .inr rfl, .inr rfl, .inl rfl, trivial⟩
  refine ev_aload_n dX4_planDay_169 rfl (by decide) ?_
  refine ev_getf (j := 0) (t := 2) (x := (45 : Int)) dX4_planDay_170 cf_X4 wf_X4_12 sp44 (by decide) (by decide) rfl (by decide) (rp44_0 _) ?_
  refine ev_aload_n dX4_planDay_173 rfl (pB hx1).1 ?_
  refine ev_iload_n dX4_planDay_174 rfl ?_
  refine ev_iload dX4_planDay_175 rfl ?_
  refine ev_iconst dX4_planDay_177 (by decide) ?_
  refine ev_iload dX4_planDay_178 rfl ?_
  refine ev_ishl dX4_planDay_180 ?_
  refine ev_iconst dX4_planDay_181 (by decide) ?_
  refine ev_ixor dX4_planDay_182 ?_
  refine ev_iand dX4_planDay_183 ?_
  show Ev _ _ _ _ 184 _ _ _ _ _
  refine ev_iload dX4_planDay_184 rfl ?_
  refine ev_iload dX4_planDay_186 rfl ?_
  obtain ⟨σ22, hc23, h⟩ := bind_of h
  refine ev_invV_n (k := (45 : Int)) (av := [(2, x1), (0, x2), (0, (jand x8 (jxor (jshl (1 : Int) x10) (-1 : Int)))), (0, x7), (0, x6)]) (st := []) (τ := σ22) dX4_planDay_188 ml_X4_51 mv_X3_gather (T := TX3) (ci := 2) rfl sp45 (by decide) (by decide) rfl ⟨Nat.le_of_ble_eq_true rfl, Nat.le_of_ble_eq_true rfl⟩ (Nat.le_of_ble_eq_true rfl) (c_Y3_gather hx1 hc23) ?_
  refine ev_aload_n dX4_planDay_191 rfl (by decide) ?_
  refine ev_getf (j := 0) (t := 2) (x := (45 : Int)) dX4_planDay_192 cf_X4 wf_X4_12 sp44 (by decide) (by decide) rfl (by decide) (rp44_0 _) ?_
  refine ev_iconst dX4_planDay_195 (by decide) ?_
  refine ev_aload_n dX4_planDay_196 rfl (pB hx1).1 ?_
  refine ev_getf (j := 1) (t := 2) (x := (x1 + 2)) dX4_planDay_197 cf_X0 wf_X4_82 (sB hx1) (pB hx1).1 (pB hx1).2 rfl (by decide) (rB1 _ hx1) ?_
  refine ev_iload dX4_planDay_200 rfl ?_
  refine ev_iald dX4_planDay_202 (sB1 hx1) (pB1 hx1).1 (pB1 hx1).2 h (fun h => ?_)
  refine ev_bipush dX4_planDay_203 (by decide) (by decide) ?_
  obtain ⟨v24, hc25, h⟩ := bind_of h
  refine ev_invSN_v (av := [(0, (σ22 (x1 + 2) x10)), (0, (48 : Int))]) (st := [(0, (0 : Int)), (2, (45 : Int))]) (v := (1, v24)) (τ := σ22) dX4_planDay_205 ml_X4_85 mt_X10_span rfl ⟨Nat.le_of_ble_eq_true rfl, Nat.le_of_ble_eq_true rfl⟩ (Nat.le_of_ble_eq_true rfl) (c_X10_span hc25) ?_
  show Ev _ _ _ _ 208 _ _ _ _ _
  obtain ⟨v26, hc27, h⟩ := bind_of h
  refine ev_invV_v (k := (45 : Int)) (av := [(0, (0 : Int)), (1, v24)]) (st := []) (v := (0, v26.1)) (τ := v26.2) dX4_planDay_208 ml_X4_55 mv_X3_search (T := TX3) (ci := 2) rfl sp45 (by decide) (by decide) rfl ⟨Nat.le_of_ble_eq_true rfl, Nat.le_of_ble_eq_true rfl⟩ (Nat.le_of_ble_eq_true rfl) (c_Y3_search hc27) ?_
  refine ev_istoreG dX4_planDay_211 h rfl (by decide) (fun v28 h => ?_)
  show Ev _ _ _ _ 213 _ _ _ [(2, (44 : Int)), (2, x1), (0, x2), (0, x3), (2, x4), (9, 0), (0, x6), (0, x7), (0, x8), (0, x9), (0, x10), (0, v28)] _
  refine ev_iload dX4_planDay_213 rfl ?_
  refine ev_if_eq (tgt := 261) dX4_planDay_215 rfl h (fun cb h => ?_) (fun cb h => ?_)
  · exact ev_sub (L2 := [(2, (44 : Int)), (2, x1), (0, x2), (0, x3), (2, x4), (9, 0), (0, x6), (0, x7), (0, x8), (0, x9), (0, x10), (9, 0)]) (e_Y4_planDay_261 v26.2 x1 x2 x3 x4 x6 x7 x8 x9 x10 hx1 hx4 h K) ⟨.inr rfl, .inr rfl, .inr rfl, .inr rfl, .inr rfl, .inl rfl, .inr rfl, .inr rfl, .inr rfl, .inr rfl, .inr rfl, .inl rfl, trivial⟩
  refine ev_aload dX4_planDay_218 rfl (pW hx4).1 ?_
  refine ev_getf (j := 0) (t := 2) (x := (x4 + 1)) dX4_planDay_220 cf_X8 wf_X4_89 (sW hx4) (pW hx4).1 (pW hx4).2 rfl (by decide) (rW0 _ hx4) ?_
  refine ev_iload_n dX4_planDay_223 rfl ?_
  refine ev_zald dX4_planDay_224 (sW0 hx4) (pW0 hx4).1 (pW0 hx4).2 h (fun h => ?_)
  refine ev_if_eq (tgt := 240) dX4_planDay_225 rfl h (fun cb h => ?_) (fun cb h => ?_)
  · exact ev_sub (L2 := [(2, (44 : Int)), (2, x1), (0, x2), (0, x3), (2, x4), (9, 0), (0, x6), (0, x7), (0, x8), (9, 0), (0, x10), (9, 0)]) (e_Y4_planDay_240 v26.2 x1 x2 x3 x4 x6 x7 x8 x10 hx1 hx4 h K) ⟨.inr rfl, .inr rfl, .inr rfl, .inr rfl, .inr rfl, .inl rfl, .inr rfl, .inr rfl, .inr rfl, .inl rfl, .inr rfl, .inl rfl, trivial⟩
  refine ev_aload_n dX4_planDay_228 rfl (by decide) ?_
  refine ev_getf (j := 0) (t := 2) (x := (45 : Int)) dX4_planDay_229 cf_X4 wf_X4_12 sp44 (by decide) (by decide) rfl (by decide) (rp44_0 _) ?_
  obtain ⟨v29, hc30, h⟩ := bind_of h
  refine ev_invV_v (k := (45 : Int)) (av := []) (st := []) (v := (0, v29)) (τ := v26.2) dX4_planDay_232 ml_X4_93 mv_X3_least (T := TX3) (ci := 2) rfl sp45 (by decide) (by decide) rfl ⟨Nat.le_of_ble_eq_true rfl, Nat.le_of_ble_eq_true rfl⟩ (Nat.le_of_ble_eq_true rfl) (c_Y3_least hc30) ?_
  refine ev_iload dX4_planDay_235 rfl ?_
  refine ev_icmp_ge (tgt := 261) dX4_planDay_237 rfl h (fun cb h => ?_) (fun cb h => ?_)
  · exact ev_sub (L2 := [(2, (44 : Int)), (2, x1), (0, x2), (0, x3), (2, x4), (9, 0), (0, x6), (0, x7), (0, x8), (0, x9), (0, x10), (9, 0)]) (e_Y4_planDay_261 v26.2 x1 x2 x3 x4 x6 x7 x8 x9 x10 hx1 hx4 h K) ⟨.inr rfl, .inr rfl, .inr rfl, .inr rfl, .inr rfl, .inl rfl, .inr rfl, .inr rfl, .inr rfl, .inr rfl, .inr rfl, .inl rfl, trivial⟩
  exact ev_sub (L2 := [(2, (44 : Int)), (2, x1), (0, x2), (0, x3), (2, x4), (9, 0), (0, x6), (0, x7), (0, x8), (9, 0), (0, x10), (9, 0)]) (e_Y4_planDay_240 v26.2 x1 x2 x3 x4 x6 x7 x8 x10 hx1 hx4 h K) ⟨.inr rfl, .inr rfl, .inr rfl, .inr rfl, .inr rfl, .inl rfl, .inr rfl, .inr rfl, .inr rfl, .inl rfl, .inr rfl, .inl rfl, trivial⟩
set_option maxHeartbeats 4000000 in
set_option maxRecDepth 20000 in
theorem e_Y4_planDay_131 (σ : Mem) (x1 x2 x3 x4 x6 x7 x8 x9 x10 : Int) (hx1 : isB x1) (hx4 : isW x4) {q : Mem} (h : f_Y4_planDay_131 σ x1 x2 x3 x4 x6 x7 x8 x9 x10 = some q) : Ev M_X4_planDay 181 181 (none, rho, q) 131 181 rho σ [(2, (44 : Int)), (2, x1), (0, x2), (0, x3), (2, x4), (9, 0), (0, x6), (0, x7), (0, x8), (0, x9), (0, x10), (9, 0)] [] := by
  unfold f_Y4_planDay_131 at h
  obtain ⟨e, hl, h⟩ := bind_of h
  refine loop_ev (K := K_Y4_planDay_131 x1 x2 x3 x4 x6 x7 x8 (none, rho, q)) (b_Y4_planDay_131 x1 x2 x3 x4 x6 x7 x8 hx1 hx4) FU (x9, x10, σ) e hl ?_
  show Ev M_X4_planDay 181 181 _ 267 181 rho e [(9, 0), (9, 0), (9, 0), (9, 0), (9, 0), (9, 0), (9, 0), (9, 0), (9, 0), (9, 0), (9, 0), (9, 0)] []
  replace h : some e = some q := h
  obtain rfl := Option.some.inj h
  exact ev_vret dX4_planDay_267 rfl rfl
set_option maxHeartbeats 4000000 in
set_option maxRecDepth 20000 in
theorem e_Y4_planDay_45 (σ : Mem) (x1 x2 x3 x4 x6 s0 : Int) (hx1 : isB x1) (hx4 : isW x4) {q : Mem} (h : f_Y4_planDay_45 σ x1 x2 x3 x4 x6 s0 = some q) : Ev M_X4_planDay 181 181 (none, rho, q) 45 181 rho σ [(2, (44 : Int)), (2, x1), (0, x2), (0, x3), (2, x4), (9, 0), (0, x6), (9, 0), (9, 0), (9, 0), (9, 0), (9, 0)] [(0, s0)] := by
  unfold f_Y4_planDay_45 at h
  refine ev_istore dX4_planDay_45 rfl (by decide) ?_
  show Ev _ _ _ _ 47 _ _ _ [(2, (44 : Int)), (2, x1), (0, x2), (0, x3), (2, x4), (9, 0), (0, x6), (0, s0), (9, 0), (9, 0), (9, 0), (9, 0)] _
  refine ev_aload dX4_planDay_47 rfl (pW hx4).1 ?_
  refine ev_iload_n dX4_planDay_49 rfl ?_
  refine ev_iload dX4_planDay_50 rfl ?_
  refine ev_iload dX4_planDay_52 rfl ?_
  obtain ⟨σ7, hc8, h⟩ := bind_of h
  refine ev_invV_n (k := x4) (av := [(0, x3), (0, s0), (0, x6)]) (st := []) (τ := σ7) dX4_planDay_54 ml_X4_41 mv_X8_open (T := TX8) (ci := 7) rfl (sW hx4) (pW hx4).1 (pW hx4).2 rfl ⟨Nat.le_of_ble_eq_true rfl, Nat.le_of_ble_eq_true rfl⟩ (Nat.le_of_ble_eq_true rfl) (c_X8_open hx4 hc8) ?_
  refine ev_aload_n dX4_planDay_57 rfl (pB hx1).1 ?_
  refine ev_getf (j := 6) (t := 2) (x := (x1 + 7)) dX4_planDay_58 cf_X0 wf_X4_45 (sB hx1) (pB hx1).1 (pB hx1).2 rfl (by decide) (rB6 _ hx1) ?_
  refine ev_iload_n dX4_planDay_61 rfl ?_
  refine ev_iald dX4_planDay_62 (sB6 hx1) (pB6 hx1).1 (pB6 hx1).2 h (fun h => ?_)
  refine ev_aload_n dX4_planDay_63 rfl (pB hx1).1 ?_
  show Ev _ _ _ _ 64 _ _ _ _ _
  refine ev_iload_n dX4_planDay_64 rfl ?_
  obtain ⟨v9, hc10, h⟩ := bind_of h
  refine ev_invV_v (k := x1) (av := [(0, x3)]) (st := [(0, (σ7 (x1 + 7) x2))]) (v := (0, v9)) (τ := σ7) dX4_planDay_65 ml_X4_48 mv_X0_papersOf (T := TX0) (ci := 0) rfl (sB hx1) (pB hx1).1 (pB hx1).2 rfl ⟨Nat.le_of_ble_eq_true rfl, Nat.le_of_ble_eq_true rfl⟩ (Nat.le_of_ble_eq_true rfl) (c_X0_papersOf hx1 hc10) ?_
  refine ev_iand dX4_planDay_68 ?_
  refine ev_istoreG dX4_planDay_69 h rfl (by decide) (fun v11 h => ?_)
  show Ev _ _ _ _ 71 _ _ _ [(2, (44 : Int)), (2, x1), (0, x2), (0, x3), (2, x4), (9, 0), (0, x6), (0, s0), (0, v11), (9, 0), (9, 0), (9, 0)] _
  refine ev_aload_n dX4_planDay_71 rfl (by decide) ?_
  refine ev_getf (j := 0) (t := 2) (x := (45 : Int)) dX4_planDay_72 cf_X4 wf_X4_12 sp44 (by decide) (by decide) rfl (by decide) (rp44_0 _) ?_
  refine ev_aload_n dX4_planDay_75 rfl (pB hx1).1 ?_
  refine ev_iload_n dX4_planDay_76 rfl ?_
  refine ev_iload dX4_planDay_77 rfl ?_
  refine ev_iload dX4_planDay_79 rfl ?_
  refine ev_iload dX4_planDay_81 rfl ?_
  obtain ⟨σ12, hc13, h⟩ := bind_of h
  refine ev_invV_n (k := (45 : Int)) (av := [(2, x1), (0, x2), (0, v11), (0, s0), (0, x6)]) (st := []) (τ := σ12) dX4_planDay_83 ml_X4_51 mv_X3_gather (T := TX3) (ci := 2) rfl sp45 (by decide) (by decide) rfl ⟨Nat.le_of_ble_eq_true rfl, Nat.le_of_ble_eq_true rfl⟩ (Nat.le_of_ble_eq_true rfl) (c_Y3_gather hx1 hc13) ?_
  show Ev _ _ _ _ 86 _ _ _ _ _
  refine ev_aload_n dX4_planDay_86 rfl (by decide) ?_
  refine ev_getf (j := 0) (t := 2) (x := (45 : Int)) dX4_planDay_87 cf_X4 wf_X4_12 sp44 (by decide) (by decide) rfl (by decide) (rp44_0 _) ?_
  refine ev_iconst dX4_planDay_90 (by decide) ?_
  refine ev_lconst (x := (0 : Int)) dX4_planDay_91 (by decide) (by decide) ?_
  obtain ⟨v14, hc15, h⟩ := bind_of h
  refine ev_invV_v (k := (45 : Int)) (av := [(0, (0 : Int)), (1, (0 : Int))]) (st := []) (v := (0, v14.1)) (τ := v14.2) dX4_planDay_92 ml_X4_55 mv_X3_search (T := TX3) (ci := 2) rfl sp45 (by decide) (by decide) rfl ⟨Nat.le_of_ble_eq_true rfl, Nat.le_of_ble_eq_true rfl⟩ (Nat.le_of_ble_eq_true rfl) (c_Y3_search hc15) ?_
  refine ev_if_eq (tgt := 110) dX4_planDay_95 rfl h (fun cb h => ?_) (fun cb h => ?_)
  · refine ev_aload_n dX4_planDay_110 rfl (pB hx1).1 ?_
    refine ev_getf (j := 5) (t := 2) (x := (x1 + 6)) dX4_planDay_111 cf_X0 wf_X4_63 (sB hx1) (pB hx1).1 (pB hx1).2 rfl (by decide) (rB5 _ hx1) ?_
    refine ev_iload_n dX4_planDay_114 rfl ?_
    refine ev_iald dX4_planDay_115 (sB5 hx1) (pB5 hx1).1 (pB5 hx1).2 h (fun h => ?_)
    refine ev_if_eq (tgt := 124) dX4_planDay_116 rfl h (fun cb h => ?_) (fun cb h => ?_)
    · obtain rfl := Option.some.inj h
      exact ev_vret dX4_planDay_124 rfl rfl
    refine ev_iload_n dX4_planDay_119 rfl ?_
    refine ev_iconst dX4_planDay_120 (by decide) ?_
    refine ev_icmp_ne (tgt := 125) dX4_planDay_121 rfl h (fun cb h => ?_) (fun cb h => ?_)
    · refine ev_iconst dX4_planDay_125 (by decide) ?_
      refine ev_istore dX4_planDay_126 rfl (by decide) ?_
      show Ev _ _ _ _ 128 _ _ _ [(2, (44 : Int)), (2, x1), (0, x2), (0, x3), (2, x4), (9, 0), (0, x6), (0, s0), (0, v11), (0, (0 : Int)), (9, 0), (9, 0)] _
      refine ev_iconst dX4_planDay_128 (by decide) ?_
      refine ev_istore dX4_planDay_129 rfl (by decide) ?_
      show Ev _ _ _ _ 131 _ _ _ [(2, (44 : Int)), (2, x1), (0, x2), (0, x3), (2, x4), (9, 0), (0, x6), (0, s0), (0, v11), (0, (0 : Int)), (0, (0 : Int)), (9, 0)] _
      exact ev_sub (L2 := [(2, (44 : Int)), (2, x1), (0, x2), (0, x3), (2, x4), (9, 0), (0, x6), (0, s0), (0, v11), (0, (0 : Int)), (0, (0 : Int)), (9, 0)]) (e_Y4_planDay_131 v14.2 x1 x2 x3 x4 x6 s0 v11 (0 : Int) (0 : Int) hx1 hx4 h) ⟨.inr rfl, .inr rfl, .inr rfl, .inr rfl, .inr rfl, .inl rfl, .inr rfl, .inr rfl, .inr rfl, .inr rfl, .inr rfl, .inl rfl, trivial⟩
    obtain rfl := Option.some.inj h
    exact ev_vret dX4_planDay_124 rfl rfl
  refine ev_aload dX4_planDay_98 rfl (pW hx4).1 ?_
  refine ev_iload_n dX4_planDay_100 rfl ?_
  refine ev_aload_n dX4_planDay_101 rfl (by decide) ?_
  refine ev_getf (j := 0) (t := 2) (x := (45 : Int)) dX4_planDay_102 cf_X4 wf_X4_12 sp44 (by decide) (by decide) rfl (by decide) (rp44_0 _) ?_
  refine ev_iconst dX4_planDay_105 (by decide) ?_
  obtain ⟨σ16, hc17, h⟩ := bind_of h
  refine ev_invV_n (k := x4) (av := [(0, x3), (2, (45 : Int)), (0, (-1 : Int))]) (st := []) (τ := σ16) dX4_planDay_106 ml_X4_59 mv_X8_put (T := TX8) (ci := 7) rfl (sW hx4) (pW hx4).1 (pW hx4).2 rfl ⟨Nat.le_of_ble_eq_true rfl, Nat.le_of_ble_eq_true rfl⟩ (Nat.le_of_ble_eq_true rfl) (c_Y8_put hx4 hc17) ?_
  obtain rfl := Option.some.inj h
  exact ev_vret dX4_planDay_109 rfl rfl
set_option maxHeartbeats 4000000 in
set_option maxRecDepth 20000 in
theorem e_Y4_planDay_25 (σ : Mem) (x1 x2 x3 x4 x5 s0 : Int) (hx1 : isB x1) (hx4 : isW x4) {q : Mem} (h : f_Y4_planDay_25 σ x1 x2 x3 x4 x5 s0 = some q) : Ev M_X4_planDay 181 181 (none, rho, q) 25 181 rho σ [(2, (44 : Int)), (2, x1), (0, x2), (0, x3), (2, x4), (0, x5), (9, 0), (9, 0), (9, 0), (9, 0), (9, 0), (9, 0)] [(0, s0)] := by
  unfold f_Y4_planDay_25 at h
  refine ev_istore dX4_planDay_25 rfl (by decide) ?_
  show Ev _ _ _ _ 27 _ _ _ [(2, (44 : Int)), (2, x1), (0, x2), (0, x3), (2, x4), (0, x5), (0, s0), (9, 0), (9, 0), (9, 0), (9, 0), (9, 0)] _
  refine ev_iload dX4_planDay_27 rfl ?_
  refine ev_iconst dX4_planDay_29 (by decide) ?_
  refine ev_icmp_ne (tgt := 37) dX4_planDay_30 rfl h (fun cb h => ?_) (fun cb h => ?_)
  · refine ev_iload dX4_planDay_37 rfl ?_
    refine ev_aload_n dX4_planDay_39 rfl (pB hx1).1 ?_
    refine ev_iload_n dX4_planDay_40 rfl ?_
    obtain ⟨v5, hc6, h⟩ := bind_of h
    refine ev_invV_v (k := x1) (av := [(0, x2)]) (st := [(0, s0)]) (v := (0, v5)) (τ := σ) dX4_planDay_41 ml_X4_38 mv_X0_restFor (T := TX0) (ci := 0) rfl (sB hx1) (pB hx1).1 (pB hx1).2 rfl ⟨Nat.le_of_ble_eq_true rfl, Nat.le_of_ble_eq_true rfl⟩ (Nat.le_of_ble_eq_true rfl) (c_X0_restFor hx1 hc6) ?_
    refine ev_iadd dX4_planDay_44 ?_
    exact ev_sub (L2 := [(2, (44 : Int)), (2, x1), (0, x2), (0, x3), (2, x4), (9, 0), (0, s0), (9, 0), (9, 0), (9, 0), (9, 0), (9, 0)]) (e_Y4_planDay_45 σ x1 x2 x3 x4 s0 (jadd s0 v5) hx1 hx4 h) ⟨.inr rfl, .inr rfl, .inr rfl, .inr rfl, .inr rfl, .inl rfl, .inr rfl, .inl rfl, .inl rfl, .inl rfl, .inl rfl, .inl rfl, trivial⟩
  refine ev_iconst dX4_planDay_33 (by decide) ?_
  refine ev_goto (tgt := 45) dX4_planDay_34 rfl ?_
  exact ev_sub (L2 := [(2, (44 : Int)), (2, x1), (0, x2), (0, x3), (2, x4), (9, 0), (0, s0), (9, 0), (9, 0), (9, 0), (9, 0), (9, 0)]) (e_Y4_planDay_45 σ x1 x2 x3 x4 s0 (0 : Int) hx1 hx4 h) ⟨.inr rfl, .inr rfl, .inr rfl, .inr rfl, .inr rfl, .inl rfl, .inr rfl, .inl rfl, .inl rfl, .inl rfl, .inl rfl, .inl rfl, trivial⟩
set_option maxHeartbeats 4000000 in
set_option maxRecDepth 20000 in
theorem c_Y4_planDay {σ : Mem} {x1 x2 x3 x4 : Int} (hx1 : isB x1) (hx4 : isW x4) {q : Mem} (h : f_Y4_planDay σ x1 x2 x3 x4 = some q) : Ms yX4_planDay M_X4_planDay 181 181 [(2, (44 : Int)), (2, x1), (0, x2), (0, x3), (2, x4)] rho σ (none, rho, q) := by
  refine Ms.of 7 (by decide +kernel) rfl (fun z => absurd z (by decide)) (fun _ _ _ => trivial) rfl rfl ?_
  unfold f_Y4_planDay at h
  show Ev M_X4_planDay 181 181 _ 0 181 rho σ [(2, (44 : Int)), (2, x1), (0, x2), (0, x3), (2, x4), (9, 0), (9, 0), (9, 0), (9, 0), (9, 0), (9, 0), (9, 0)] []
  refine ev_aload dX4_planDay_0 rfl (pW hx4).1 ?_
  refine ev_iload_n dX4_planDay_2 rfl ?_
  obtain ⟨v1, hc2, h⟩ := bind_of h
  refine ev_invV_v (k := x4) (av := [(0, x3)]) (st := []) (v := (0, v1)) (τ := σ) dX4_planDay_3 ml_X4_28 mv_X8_cameTo (T := TX8) (ci := 7) rfl (sW hx4) (pW hx4).1 (pW hx4).2 rfl ⟨Nat.le_of_ble_eq_true rfl, Nat.le_of_ble_eq_true rfl⟩ (Nat.le_of_ble_eq_true rfl) (c_X8_cameTo hx4 hc2) ?_
  refine ev_istore dX4_planDay_6 rfl (by decide) ?_
  show Ev _ _ _ _ 8 _ _ _ [(2, (44 : Int)), (2, x1), (0, x2), (0, x3), (2, x4), (0, v1), (9, 0), (9, 0), (9, 0), (9, 0), (9, 0), (9, 0)] _
  refine ev_iload dX4_planDay_8 rfl ?_
  refine ev_iconst dX4_planDay_10 (by decide) ?_
  refine ev_icmp_ne (tgt := 18) dX4_planDay_11 rfl h (fun cb h => ?_) (fun cb h => ?_)
  · refine ev_aload_n dX4_planDay_18 rfl (pB hx1).1 ?_
    refine ev_iload_n dX4_planDay_19 rfl ?_
    refine ev_iload dX4_planDay_20 rfl ?_
    obtain ⟨v3, hc4, h⟩ := bind_of h
    refine ev_invV_v (k := x1) (av := [(0, x2), (0, v1)]) (st := []) (v := (0, v3)) (τ := σ) dX4_planDay_22 ml_X4_32 mv_X0_timeFor (T := TX0) (ci := 0) rfl (sB hx1) (pB hx1).1 (pB hx1).2 rfl ⟨Nat.le_of_ble_eq_true rfl, Nat.le_of_ble_eq_true rfl⟩ (Nat.le_of_ble_eq_true rfl) (c_X0_timeFor hx1 hc4) ?_
    exact ev_sub (L2 := [(2, (44 : Int)), (2, x1), (0, x2), (0, x3), (2, x4), (0, v1), (9, 0), (9, 0), (9, 0), (9, 0), (9, 0), (9, 0)]) (e_Y4_planDay_25 σ x1 x2 x3 x4 v1 v3 hx1 hx4 h) ⟨.inr rfl, .inr rfl, .inr rfl, .inr rfl, .inr rfl, .inr rfl, .inl rfl, .inl rfl, .inl rfl, .inl rfl, .inl rfl, .inl rfl, trivial⟩
  refine ev_iconst dX4_planDay_14 (by decide) ?_
  refine ev_goto (tgt := 25) dX4_planDay_15 rfl ?_
  exact ev_sub (L2 := [(2, (44 : Int)), (2, x1), (0, x2), (0, x3), (2, x4), (0, v1), (9, 0), (9, 0), (9, 0), (9, 0), (9, 0), (9, 0)]) (e_Y4_planDay_25 σ x1 x2 x3 x4 v1 (0 : Int) hx1 hx4 h) ⟨.inr rfl, .inr rfl, .inr rfl, .inr rfl, .inr rfl, .inr rfl, .inl rfl, .inl rfl, .inl rfl, .inl rfl, .inl rfl, .inl rfl, trivial⟩
def K_X9_of_19 (x2 x3 : Int) (r : Option V × Mem × Mem) : (Int × Mem) ⊕ ((Mem)) → Prop := Sum.elim (fun a => Ev M_X9_of 181 181 r 19 181 rho a.2 [(2, (43 : Int)), (2, (1 : Int)), (0, x2), (2, x3), (0, a.1)] []) (fun e => Ev M_X9_of 181 181 r 43 181 rho e [(2, (43 : Int)), (9, 0), (0, x2), (2, x3), (9, 0)] [])
set_option maxHeartbeats 4000000 in
set_option maxRecDepth 20000 in
theorem e_X9_of_50 (σ : Mem) (x3 : Int) (hx3 : isW x3) {q : (Int × Mem)} (h : f_X9_of_50 σ x3 = some q) : Ev M_X9_of 181 181 (some (2, q.1), rho, q.2) 50 181 rho σ [(9, 0), (9, 0), (9, 0), (2, x3), (9, 0)] [] := by
  unfold f_X9_of_50 at h
  refine ev_aload_n dX9_of_50 rfl (pW hx3).1 ?_
  obtain rfl := Option.some.inj h
  exact ev_aret (cn := "ClashDays$Week") dX9_of_51 rfl rfl
set_option maxHeartbeats 4000000 in
set_option maxRecDepth 20000 in
theorem e_X9_of_43 (σ : Mem) (x2 x3 : Int) (hx3 : isW x3) {q : (Int × Mem)} (h : f_X9_of_43 σ x2 x3 = some q) : Ev M_X9_of 181 181 (some (2, q.1), rho, q.2) 43 181 rho σ [(2, (43 : Int)), (9, 0), (0, x2), (2, x3), (9, 0)] [] := by
  unfold f_X9_of_43 at h
  refine ev_aload_n dX9_of_43 rfl (by decide) ?_
  refine ev_getf (j := 2) (t := 2) (x := (53 : Int)) dX9_of_44 cf_X9 wf_X9_24 sp43 (by decide) (by decide) rfl (by decide) (rp43_2 _) ?_
  refine ev_iload_n dX9_of_47 rfl ?_
  refine ev_iconst dX9_of_48 (by decide) ?_
  refine ev_zastG dX9_of_49 sp53 (by decide) (by decide) h (fun σ5 h => ?_)
  exact ev_sub (L2 := [(9, 0), (9, 0), (9, 0), (2, x3), (9, 0)]) (e_X9_of_50 σ5 x3 hx3 h) ⟨.inl rfl, .inl rfl, .inl rfl, .inr rfl, .inl rfl, trivial⟩
set_option maxHeartbeats 4000000 in
set_option maxRecDepth 20000 in
theorem b_X9_of_19 (x2 x3 : Int) (hx3 : isW x3) {r : Option V × Mem × Mem} : ∀ a x, f_X9_of_19B x2 x3 a = some x → K_X9_of_19 x2 x3 r x → K_X9_of_19 x2 x3 r (.inl a) := by
  intro a x h K
  obtain ⟨x4, σ⟩ := a
  have h : f_X9_of_19C x2 x3 x4 σ = some x := h
  unfold f_X9_of_19C at h
  show Ev M_X9_of 181 181 r 19 181 rho σ [(2, (43 : Int)), (2, (1 : Int)), (0, x2), (2, x3), (0, x4)] []
  refine ev_iload dX9_of_19 rfl ?_
  refine ev_iconst dX9_of_21 (by decide) ?_
  refine ev_icmp_ge (tgt := 43) dX9_of_22 rfl h (fun cb h => ?_) (fun cb h => ?_)
  · obtain rfl := Option.some.inj h
    exact ev_sub (L2 := [(2, (43 : Int)), (9, 0), (0, x2), (2, x3), (9, 0)]) K ⟨.inr rfl, .inl rfl, .inr rfl, .inr rfl, .inl rfl, trivial⟩
  refine ev_aload_n dX9_of_25 rfl (by decide) ?_
  refine ev_getf (j := 0) (t := 2) (x := (44 : Int)) dX9_of_26 cf_X9 wf_X9_12 sp43 (by decide) (by decide) rfl (by decide) (rp43_0 _) ?_
  refine ev_aload_n dX9_of_29 rfl (by decide) ?_
  refine ev_iload_n dX9_of_30 rfl ?_
  refine ev_iload dX9_of_31 rfl ?_
  refine ev_aload_n dX9_of_33 rfl (pW hx3).1 ?_
  obtain ⟨σ2, hc3, h⟩ := bind_of h
  refine ev_invV_n (k := (44 : Int)) (av := [(2, (1 : Int)), (0, x2), (0, x4), (2, x3)]) (st := []) (τ := σ2) dX9_of_34 ml_X9_33 mv_X4_planDay (T := TX4) (ci := 3) rfl sp44 (by decide) (by decide) rfl ⟨Nat.le_of_ble_eq_true rfl, Nat.le_of_ble_eq_true rfl⟩ (Nat.le_of_ble_eq_true rfl) (c_Y4_planDay hB1 hx3 hc3) ?_
  refine ev_iincG dX9_of_37 rfl h rfl (fun v4 h => ?_)
  show Ev _ _ _ _ 40 _ _ _ [(2, (43 : Int)), (2, (1 : Int)), (0, x2), (2, x3), (0, v4)] _
  refine ev_goto (tgt := 19) dX9_of_40 rfl ?_
  obtain rfl := Option.some.inj h
  exact ev_sub (L2 := [(2, (43 : Int)), (2, (1 : Int)), (0, x2), (2, x3), (0, v4)]) K ⟨.inr rfl, .inr rfl, .inr rfl, .inr rfl, .inr rfl, trivial⟩
set_option maxHeartbeats 4000000 in
set_option maxRecDepth 20000 in
theorem e_X9_of_19 (σ : Mem) (x2 x3 x4 : Int) (hx3 : isW x3) {q : (Int × Mem)} (h : f_X9_of_19 σ x2 x3 x4 = some q) : Ev M_X9_of 181 181 (some (2, q.1), rho, q.2) 19 181 rho σ [(2, (43 : Int)), (2, (1 : Int)), (0, x2), (2, x3), (0, x4)] [] := by
  unfold f_X9_of_19 at h
  obtain ⟨e, hl, h⟩ := bind_of h
  refine loop_ev (K := K_X9_of_19 x2 x3 (some (2, q.1), rho, q.2)) (b_X9_of_19 x2 x3 hx3) FU (x4, σ) e hl ?_
  show Ev M_X9_of 181 181 _ 43 181 rho e [(2, (43 : Int)), (9, 0), (0, x2), (2, x3), (9, 0)] []
  replace h : f_X9_of_43 e x2 x3 = some q := h
  exact ev_sub (L2 := [(2, (43 : Int)), (9, 0), (0, x2), (2, x3), (9, 0)]) (e_X9_of_43 e x2 x3 hx3 h) ⟨.inr rfl, .inl rfl, .inr rfl, .inr rfl, .inl rfl, trivial⟩
set_option maxHeartbeats 4000000 in
set_option maxRecDepth 20000 in
theorem c_X9_of {σ : Mem} {x2 : Int}  {q : (Int × Mem)} (h : f_X9_of σ x2 = some q) : Ms yX9_of M_X9_of 181 181 [(2, (43 : Int)), (2, (1 : Int)), (0, x2)] rho σ (some (2, q.1), rho, q.2) := by
  refine Ms.of 2 (by decide +kernel) rfl (fun z => absurd z (by decide)) (fun _ _ _ => trivial) rfl rfl ?_
  unfold f_X9_of at h
  show Ev M_X9_of 181 181 _ 0 181 rho σ [(2, (43 : Int)), (2, (1 : Int)), (0, x2), (9, 0), (9, 0)] []
  refine ev_aload_n dX9_of_0 rfl (by decide) ?_
  refine ev_getf (j := 1) (t := 2) (x := (52 : Int)) dX9_of_1 cf_X9 wf_X9_20 sp43 (by decide) (by decide) rfl (by decide) (rp43_1 _) ?_
  refine ev_iload_n dX9_of_4 rfl ?_
  have hw1 := (chk_of h).1
  refine ev_aald (x := (54 + 10 * x2)) dX9_of_5 sp52 (by decide) (by decide) h (rho52 hw1) (fun h => ?_)
  refine ev_astore_n dX9_of_6 rfl (by decide) (pW (isW_at hw1)).1 ?_
  show Ev _ _ _ _ 7 _ _ _ [(2, (43 : Int)), (2, (1 : Int)), (0, x2), (2, (54 + 10 * x2)), (9, 0)] _
  refine ev_aload_n dX9_of_7 rfl (by decide) ?_
  refine ev_getf (j := 2) (t := 2) (x := (53 : Int)) dX9_of_8 cf_X9 wf_X9_24 sp43 (by decide) (by decide) rfl (by decide) (rp43_2 _) ?_
  refine ev_iload_n dX9_of_11 rfl ?_
  refine ev_zald dX9_of_12 sp53 (by decide) (by decide) h (fun h => ?_)
  refine ev_if_ne (tgt := 50) dX9_of_13 rfl h (fun cb h => ?_) (fun cb h => ?_)
  · exact ev_sub (L2 := [(9, 0), (9, 0), (9, 0), (2, (54 + 10 * x2)), (9, 0)]) (e_X9_of_50 σ (54 + 10 * x2) (isW_at hw1) h) ⟨.inl rfl, .inl rfl, .inl rfl, .inr rfl, .inl rfl, trivial⟩
  refine ev_iconst dX9_of_16 (by decide) ?_
  refine ev_istore dX9_of_17 rfl (by decide) ?_
  show Ev _ _ _ _ 19 _ _ _ [(2, (43 : Int)), (2, (1 : Int)), (0, x2), (2, (54 + 10 * x2)), (0, (0 : Int))] _
  exact ev_sub (L2 := [(2, (43 : Int)), (2, (1 : Int)), (0, x2), (2, (54 + 10 * x2)), (0, (0 : Int))]) (e_X9_of_19 σ x2 (54 + 10 * x2) (0 : Int) (isW_at hw1) h) ⟨.inr rfl, .inr rfl, .inr rfl, .inr rfl, .inr rfl, trivial⟩
theorem w_X9_of {σ : Mem} {x2 : Int} {q : Int × Mem} (h : f_X9_of σ x2 = some q) : isW q.1 := by
  unfold f_X9_of at h
  obtain ⟨hc, h⟩ := chk_of h
  obtain ⟨-, h⟩ := chk_of h
  have hw : isW (54 + 10 * x2) := isW_at hc
  split at h
  · unfold f_X9_of_50 at h
    obtain rfl := Option.some.inj h
    exact hw
  · unfold f_X9_of_19 at h
    obtain ⟨e, -, h⟩ := bind_of h
    unfold f_X9_of_43 at h
    obtain ⟨-, h⟩ := chk_of h
    obtain ⟨s, -, h⟩ := bind_of h
    unfold f_X9_of_50 at h
    obtain rfl := Option.some.inj h
    exact hw

set_option maxHeartbeats 4000000 in
set_option maxRecDepth 20000 in
theorem c_X10_hasSlot {σ : Mem} {x0 x2 : Int}  {q : Int} (h : f_X10_hasSlot σ x0 x2 = some q) : Ms yX10_hasSlot M_X10_hasSlot 181 181 [(1, x0), (0, x2)] rho σ (some (0, q), rho, σ) := by
  refine Ms.of 0 (by decide +kernel) rfl (fun z => absurd z (by decide)) (fun _ _ _ => trivial) rfl rfl ?_
  unfold f_X10_hasSlot at h
  show Ev M_X10_hasSlot 181 181 _ 0 181 rho σ [(1, x0), (9, 0), (0, x2)] []
  refine ev_lload_n dX10_hasSlot_0 rfl ?_
  refine ev_iload_n dX10_hasSlot_1 rfl ?_
  refine ev_lshr dX10_hasSlot_2 ?_
  refine ev_lconst (x := (1 : Int)) dX10_hasSlot_3 (by decide) (by decide) ?_
  refine ev_land dX10_hasSlot_4 ?_
  refine ev_lconst (x := (0 : Int)) dX10_hasSlot_5 (by decide) (by decide) ?_
  refine ev_lc_eq (tgt := 14) dX10_hasSlot_6 dX10_hasSlot_7 rfl h (fun cb h => ?_) (fun cb h => ?_)
  · refine ev_iconst dX10_hasSlot_14 (by decide) ?_
    obtain rfl := Option.some.inj h
    exact ev_zret dX10_hasSlot_15 rfl (chk_pos (.inl rfl))
  refine ev_iconst dX10_hasSlot_10 (by decide) ?_
  refine ev_goto (tgt := 15) dX10_hasSlot_11 rfl ?_
  obtain rfl := Option.some.inj h
  exact ev_zret dX10_hasSlot_15 rfl (chk_pos (.inr rfl))
def K_X8_dutyFrom_26 (σ : Mem) (x0 x1 : Int) (r : Option V × Mem × Mem) : (Int × Int) ⊕ ((Int)) → Prop := Sum.elim (fun a => Ev M_X8_dutyFrom 181 181 r 26 181 rho σ [(2, x0), (0, x1), (9, 0), (0, a.1), (0, a.2)] []) (fun e => Ev M_X8_dutyFrom 181 181 r 56 181 rho σ [(9, 0), (9, 0), (9, 0), (0, e), (9, 0)] [])
set_option maxHeartbeats 4000000 in
set_option maxRecDepth 20000 in
theorem b_X8_dutyFrom_26 (σ : Mem) (x0 x1 : Int) (hx0 : isW x0) {r : Option V × Mem × Mem} : ∀ a x, f_X8_dutyFrom_26B σ x0 x1 a = some x → K_X8_dutyFrom_26 σ x0 x1 r x → K_X8_dutyFrom_26 σ x0 x1 r (.inl a) := by
  intro a x h K
  obtain ⟨x3, x4⟩ := a
  have h : f_X8_dutyFrom_26C σ x0 x1 x3 x4 = some x := h
  unfold f_X8_dutyFrom_26C at h
  show Ev M_X8_dutyFrom 181 181 r 26 181 rho σ [(2, x0), (0, x1), (9, 0), (0, x3), (0, x4)] []
  refine ev_iload dX8_dutyFrom_26 rfl ?_
  refine ev_bipush dX8_dutyFrom_28 (by decide) (by decide) ?_
  refine ev_icmp_ge (tgt := 56) dX8_dutyFrom_30 rfl h (fun cb h => ?_) (fun cb h => ?_)
  · obtain rfl := Option.some.inj h
    exact ev_sub (L2 := [(9, 0), (9, 0), (9, 0), (0, x3), (9, 0)]) K ⟨.inl rfl, .inl rfl, .inl rfl, .inr rfl, .inl rfl, trivial⟩
  refine ev_aload_n dX8_dutyFrom_33 rfl (pW hx0).1 ?_
  refine ev_getf (j := 5) (t := 2) (x := (x0 + 6)) dX8_dutyFrom_34 cf_X8 wf_X8_28 (sW hx0) (pW hx0).1 (pW hx0).2 rfl (by decide) (rW5 _ hx0) ?_
  refine ev_iload_n dX8_dutyFrom_37 rfl ?_
  refine ev_lald dX8_dutyFrom_38 (sW5 hx0) (pW5 hx0).1 (pW5 hx0).2 h (fun h => ?_)
  refine ev_iload dX8_dutyFrom_39 rfl ?_
  obtain ⟨v3, hc4, h⟩ := bind_of h
  refine ev_invSN_v (av := [(1, (σ (x0 + 6) x1)), (0, x4)]) (st := []) (v := (0, v3)) (τ := σ) dX8_dutyFrom_41 ml_X8_75 mt_X10_hasSlot rfl ⟨Nat.le_of_ble_eq_true rfl, Nat.le_of_ble_eq_true rfl⟩ (Nat.le_of_ble_eq_true rfl) (c_X10_hasSlot hc4) ?_
  refine ev_if_eq (tgt := 56) dX8_dutyFrom_44 rfl h (fun cb h => ?_) (fun cb h => ?_)
  · obtain rfl := Option.some.inj h
    exact ev_sub (L2 := [(9, 0), (9, 0), (9, 0), (0, x3), (9, 0)]) K ⟨.inl rfl, .inl rfl, .inl rfl, .inr rfl, .inl rfl, trivial⟩
  refine ev_iincG dX8_dutyFrom_47 rfl h rfl (fun v5 h => ?_)
  show Ev _ _ _ _ 50 _ _ _ [(2, x0), (0, x1), (9, 0), (0, v5), (0, x4)] _
  refine ev_iincG dX8_dutyFrom_50 rfl h rfl (fun v6 h => ?_)
  show Ev _ _ _ _ 53 _ _ _ [(2, x0), (0, x1), (9, 0), (0, v5), (0, v6)] _
  refine ev_goto (tgt := 26) dX8_dutyFrom_53 rfl ?_
  obtain rfl := Option.some.inj h
  exact ev_sub (L2 := [(2, x0), (0, x1), (9, 0), (0, v5), (0, v6)]) K ⟨.inr rfl, .inr rfl, .inl rfl, .inr rfl, .inr rfl, trivial⟩
set_option maxHeartbeats 4000000 in
set_option maxRecDepth 20000 in
theorem e_X8_dutyFrom_26 (σ : Mem) (x0 x1 x3 x4 : Int) (hx0 : isW x0) {q : Int} (h : f_X8_dutyFrom_26 σ x0 x1 x3 x4 = some q) : Ev M_X8_dutyFrom 181 181 (some (0, q), rho, σ) 26 181 rho σ [(2, x0), (0, x1), (9, 0), (0, x3), (0, x4)] [] := by
  unfold f_X8_dutyFrom_26 at h
  obtain ⟨e, hl, h⟩ := bind_of h
  refine loop_ev (K := K_X8_dutyFrom_26 σ x0 x1 (some (0, q), rho, σ)) (b_X8_dutyFrom_26 σ x0 x1 hx0) FU (x3, x4) e hl ?_
  show Ev M_X8_dutyFrom 181 181 _ 56 181 rho σ [(9, 0), (9, 0), (9, 0), (0, e), (9, 0)] []
  replace h : some e = some q := h
  refine ev_iload_n dX8_dutyFrom_56 rfl ?_
  obtain rfl := Option.some.inj h
  exact ev_iret dX8_dutyFrom_57 rfl rfl
set_option maxHeartbeats 4000000 in
set_option maxRecDepth 20000 in
theorem e_X8_dutyFrom_21 (σ : Mem) (x0 x1 x2 : Int) (hx0 : isW x0) {q : Int} (h : f_X8_dutyFrom_21 σ x0 x1 x2 = some q) : Ev M_X8_dutyFrom 181 181 (some (0, q), rho, σ) 21 181 rho σ [(2, x0), (0, x1), (0, x2), (9, 0), (9, 0)] [] := by
  unfold f_X8_dutyFrom_21 at h
  refine ev_iconst dX8_dutyFrom_21 (by decide) ?_
  refine ev_istore_n dX8_dutyFrom_22 rfl (by decide) ?_
  show Ev _ _ _ _ 23 _ _ _ [(2, x0), (0, x1), (0, x2), (0, (0 : Int)), (9, 0)] _
  refine ev_iload_n dX8_dutyFrom_23 rfl ?_
  refine ev_istore dX8_dutyFrom_24 rfl (by decide) ?_
  show Ev _ _ _ _ 26 _ _ _ [(2, x0), (0, x1), (0, x2), (0, (0 : Int)), (0, x2)] _
  exact ev_sub (L2 := [(2, x0), (0, x1), (9, 0), (0, (0 : Int)), (0, x2)]) (e_X8_dutyFrom_26 σ x0 x1 (0 : Int) x2 hx0 h) ⟨.inr rfl, .inr rfl, .inl rfl, .inr rfl, .inr rfl, trivial⟩
set_option maxHeartbeats 4000000 in
set_option maxRecDepth 20000 in
theorem c_X8_dutyFrom {σ : Mem} {x0 x1 x2 : Int} (hx0 : isW x0) {q : Int} (h : f_X8_dutyFrom σ x0 x1 x2 = some q) : Ms yX8_dutyFrom M_X8_dutyFrom 181 181 [(2, x0), (0, x1), (0, x2)] rho σ (some (0, q), rho, σ) := by
  refine Ms.of 2 (by decide +kernel) rfl (fun z => absurd z (by decide)) (fun _ _ _ => trivial) rfl rfl ?_
  unfold f_X8_dutyFrom at h
  show Ev M_X8_dutyFrom 181 181 _ 0 181 rho σ [(2, x0), (0, x1), (0, x2), (9, 0), (9, 0)] []
  refine ev_iload_n dX8_dutyFrom_0 rfl ?_
  refine ev_if_le (tgt := 21) dX8_dutyFrom_1 rfl h (fun cb h => ?_) (fun cb h => ?_)
  · exact ev_sub (L2 := [(2, x0), (0, x1), (0, x2), (9, 0), (9, 0)]) (e_X8_dutyFrom_21 σ x0 x1 x2 hx0 h) ⟨.inr rfl, .inr rfl, .inr rfl, .inl rfl, .inl rfl, trivial⟩
  refine ev_aload_n dX8_dutyFrom_4 rfl (pW hx0).1 ?_
  refine ev_getf (j := 5) (t := 2) (x := (x0 + 6)) dX8_dutyFrom_5 cf_X8 wf_X8_28 (sW hx0) (pW hx0).1 (pW hx0).2 rfl (by decide) (rW5 _ hx0) ?_
  refine ev_iload_n dX8_dutyFrom_8 rfl ?_
  refine ev_lald dX8_dutyFrom_9 (sW5 hx0) (pW5 hx0).1 (pW5 hx0).2 h (fun h => ?_)
  refine ev_iload_n dX8_dutyFrom_10 rfl ?_
  refine ev_iconst dX8_dutyFrom_11 (by decide) ?_
  refine ev_isub dX8_dutyFrom_12 ?_
  obtain ⟨v1, hc2, h⟩ := bind_of h
  refine ev_invSN_v (av := [(1, (σ (x0 + 6) x1)), (0, (jsub x2 (1 : Int)))]) (st := []) (v := (0, v1)) (τ := σ) dX8_dutyFrom_13 ml_X8_75 mt_X10_hasSlot rfl ⟨Nat.le_of_ble_eq_true rfl, Nat.le_of_ble_eq_true rfl⟩ (Nat.le_of_ble_eq_true rfl) (c_X10_hasSlot hc2) ?_
  refine ev_if_eq (tgt := 21) dX8_dutyFrom_16 rfl h (fun cb h => ?_) (fun cb h => ?_)
  · exact ev_sub (L2 := [(2, x0), (0, x1), (0, x2), (9, 0), (9, 0)]) (e_X8_dutyFrom_21 σ x0 x1 x2 hx0 h) ⟨.inr rfl, .inr rfl, .inr rfl, .inl rfl, .inl rfl, trivial⟩
  refine ev_iconst dX8_dutyFrom_19 (by decide) ?_
  obtain rfl := Option.some.inj h
  exact ev_iret dX8_dutyFrom_20 rfl rfl
set_option maxHeartbeats 4000000 in
set_option maxRecDepth 20000 in
theorem c_X1_add {σ : Mem} {x1 x2 x3 x4 : Int}  {q : Mem} (h : f_X1_add σ x1 x2 x3 x4 = some q) : Ms yX1_add M_X1_add 181 181 [(2, (164 : Int)), (0, x1), (0, x2), (0, x3), (0, x4)] rho σ (none, rho, q) := by
  refine Ms.of 0 (by decide +kernel) rfl (fun z => absurd z (by decide)) (fun _ _ _ => trivial) rfl rfl ?_
  unfold f_X1_add at h
  show Ev M_X1_add 181 181 _ 0 181 rho σ [(2, (164 : Int)), (0, x1), (0, x2), (0, x3), (0, x4)] []
  refine ev_iload dX1_add_0 rfl ?_
  refine ev_if_le (tgt := 66) dX1_add_2 rfl h (fun cb h => ?_) (fun cb h => ?_)
  · obtain rfl := Option.some.inj h
    exact ev_vret dX1_add_66 rfl rfl
  refine ev_aload_n dX1_add_5 rfl (by decide) ?_
  refine ev_getf (j := 6) (t := 0) (x := (σ (164 : Int) 6)) dX1_add_6 cf_X1 wf_X1_30 sp164 (by decide) (by decide) rfl (by decide) rfl ?_
  refine ev_sipush dX1_add_9 (by decide) (by decide) ?_
  refine ev_icmp_ge (tgt := 66) dX1_add_12 rfl h (fun cb h => ?_) (fun cb h => ?_)
  · obtain rfl := Option.some.inj h
    exact ev_vret dX1_add_66 rfl rfl
  refine ev_aload_n dX1_add_15 rfl (by decide) ?_
  refine ev_getf (j := 0) (t := 2) (x := (165 : Int)) dX1_add_16 cf_X1 wf_X1_9 sp164 (by decide) (by decide) rfl (by decide) (rp164_0 _) ?_
  refine ev_aload_n dX1_add_19 rfl (by decide) ?_
  refine ev_getf (j := 6) (t := 0) (x := (σ (164 : Int) 6)) dX1_add_20 cf_X1 wf_X1_30 sp164 (by decide) (by decide) rfl (by decide) rfl ?_
  refine ev_iload_n dX1_add_23 rfl ?_
  refine ev_iastG dX1_add_24 sp165 (by decide) (by decide) h (fun σ1 h => ?_)
  refine ev_aload_n dX1_add_25 rfl (by decide) ?_
  refine ev_getf (j := 1) (t := 2) (x := (166 : Int)) dX1_add_26 cf_X1 wf_X1_15 sp164 (by decide) (by decide) rfl (by decide) (rp164_1 _) ?_
  refine ev_aload_n dX1_add_29 rfl (by decide) ?_
  refine ev_getf (j := 6) (t := 0) (x := (σ1 (164 : Int) 6)) dX1_add_30 cf_X1 wf_X1_30 sp164 (by decide) (by decide) rfl (by decide) rfl ?_
  refine ev_iload_n dX1_add_33 rfl ?_
  show Ev _ _ _ _ 34 _ _ _ _ _
  refine ev_iastG dX1_add_34 sp166 (by decide) (by decide) h (fun σ2 h => ?_)
  refine ev_aload_n dX1_add_35 rfl (by decide) ?_
  refine ev_getf (j := 2) (t := 2) (x := (167 : Int)) dX1_add_36 cf_X1 wf_X1_18 sp164 (by decide) (by decide) rfl (by decide) (rp164_2 _) ?_
  refine ev_aload_n dX1_add_39 rfl (by decide) ?_
  refine ev_getf (j := 6) (t := 0) (x := (σ2 (164 : Int) 6)) dX1_add_40 cf_X1 wf_X1_30 sp164 (by decide) (by decide) rfl (by decide) rfl ?_
  refine ev_iload_n dX1_add_43 rfl ?_
  refine ev_iastG dX1_add_44 sp167 (by decide) (by decide) h (fun σ3 h => ?_)
  refine ev_aload_n dX1_add_45 rfl (by decide) ?_
  refine ev_getf (j := 3) (t := 2) (x := (168 : Int)) dX1_add_46 cf_X1 wf_X1_21 sp164 (by decide) (by decide) rfl (by decide) (rp164_3 _) ?_
  refine ev_aload_n dX1_add_49 rfl (by decide) ?_
  refine ev_getf (j := 6) (t := 0) (x := (σ3 (164 : Int) 6)) dX1_add_50 cf_X1 wf_X1_30 sp164 (by decide) (by decide) rfl (by decide) rfl ?_
  refine ev_iload dX1_add_53 rfl ?_
  show Ev _ _ _ _ 55 _ _ _ _ _
  refine ev_iastG dX1_add_55 sp168 (by decide) (by decide) h (fun σ4 h => ?_)
  refine ev_aload_n dX1_add_56 rfl (by decide) ?_
  refine ev_dup dX1_add_57 (show (2 : Nat) ≠ 1 by decide) ?_
  refine ev_getf (j := 6) (t := 0) (x := (σ4 (164 : Int) 6)) dX1_add_58 cf_X1 wf_X1_30 sp164 (by decide) (by decide) rfl (by decide) rfl ?_
  refine ev_iconst dX1_add_61 (by decide) ?_
  refine ev_iadd dX1_add_62 ?_
  refine ev_putfG (j := 6) (t := 0) dX1_add_63 cf_X1 wf_X1_30 sp164 (by decide) (by decide) rfl (by decide) (by decide) rfl (fun z => absurd z (by decide +kernel)) h (fun σ5 h => ?_)
  obtain rfl := Option.some.inj h
  exact ev_vret dX1_add_66 rfl rfl
set_option maxHeartbeats 4000000 in
set_option maxRecDepth 20000 in
theorem c_X1_beginOf {σ : Mem} {x1 : Int}  {q : Int} (h : f_X1_beginOf σ x1 = some q) : Ms yX1_beginOf M_X1_beginOf 181 181 [(2, (164 : Int)), (0, x1)] rho σ (some (0, q), rho, σ) := by
  refine Ms.of 0 (by decide +kernel) rfl (fun z => absurd z (by decide)) (fun _ _ _ => trivial) rfl rfl ?_
  unfold f_X1_beginOf at h
  show Ev M_X1_beginOf 181 181 _ 0 181 rho σ [(2, (164 : Int)), (0, x1)] []
  refine ev_aload_n dX1_beginOf_0 rfl (by decide) ?_
  refine ev_getf (j := 1) (t := 2) (x := (166 : Int)) dX1_beginOf_1 cf_X1 wf_X1_15 sp164 (by decide) (by decide) rfl (by decide) (rp164_1 _) ?_
  refine ev_iload_n dX1_beginOf_4 rfl ?_
  refine ev_iald dX1_beginOf_5 sp166 (by decide) (by decide) h (fun h => ?_)
  refine ev_bipush dX1_beginOf_6 (by decide) (by decide) ?_
  refine ev_imul dX1_beginOf_8 ?_
  refine ev_aload_n dX1_beginOf_9 rfl (by decide) ?_
  refine ev_getf (j := 2) (t := 2) (x := (167 : Int)) dX1_beginOf_10 cf_X1 wf_X1_18 sp164 (by decide) (by decide) rfl (by decide) (rp164_2 _) ?_
  refine ev_iload_n dX1_beginOf_13 rfl ?_
  refine ev_iald dX1_beginOf_14 sp167 (by decide) (by decide) h (fun h => ?_)
  refine ev_iadd dX1_beginOf_15 ?_
  show Ev _ _ _ _ 16 _ _ _ _ _
  obtain rfl := Option.some.inj h
  exact ev_iret dX1_beginOf_16 rfl rfl
def K_X1_watcherAt_4 (σ : Mem) (x1 : Int) (r : Option V × Mem × Mem) : (Int × Int) ⊕ ((Int)) → Prop := Sum.elim (fun a => Ev M_X1_watcherAt 181 181 r 4 181 rho σ [(2, (164 : Int)), (0, x1), (0, a.1), (0, a.2)] []) (fun e => Ev M_X1_watcherAt 181 181 r 50 181 rho σ [(2, (164 : Int)), (9, 0), (0, e), (9, 0)] [])
set_option maxHeartbeats 4000000 in
set_option maxRecDepth 20000 in
theorem e_X1_watcherAt_44 (σ : Mem) (x1 x2 x3 : Int)  {q : ((Int × Int) ⊕ ((Int)))} (h : f_X1_watcherAt_44 σ x1 x2 x3 = some q) {r : Option V × Mem × Mem} (K : K_X1_watcherAt_4 σ x1 r q) : Ev M_X1_watcherAt 181 181 r 44 181 rho σ [(2, (164 : Int)), (0, x1), (0, x2), (0, x3)] [] := by
  unfold f_X1_watcherAt_44 at h
  refine ev_iincG dX1_watcherAt_44 rfl h rfl (fun v1 h => ?_)
  show Ev _ _ _ _ 47 _ _ _ [(2, (164 : Int)), (0, x1), (0, x2), (0, v1)] _
  refine ev_goto (tgt := 4) dX1_watcherAt_47 rfl ?_
  obtain rfl := Option.some.inj h
  exact ev_sub (L2 := [(2, (164 : Int)), (0, x1), (0, x2), (0, v1)]) K ⟨.inr rfl, .inr rfl, .inr rfl, .inr rfl, trivial⟩
set_option maxHeartbeats 4000000 in
set_option maxRecDepth 20000 in
theorem e_X1_watcherAt_42 (σ : Mem) (x1 x3 : Int)  {q : ((Int × Int) ⊕ ((Int)))} (h : f_X1_watcherAt_42 σ x1 x3 = some q) {r : Option V × Mem × Mem} (K : K_X1_watcherAt_4 σ x1 r q) : Ev M_X1_watcherAt 181 181 r 42 181 rho σ [(2, (164 : Int)), (0, x1), (9, 0), (0, x3)] [] := by
  unfold f_X1_watcherAt_42 at h
  refine ev_iload_n dX1_watcherAt_42 rfl ?_
  refine ev_istore_n dX1_watcherAt_43 rfl (by decide) ?_
  show Ev _ _ _ _ 44 _ _ _ [(2, (164 : Int)), (0, x1), (0, x3), (0, x3)] _
  exact ev_sub (L2 := [(2, (164 : Int)), (0, x1), (0, x3), (0, x3)]) (e_X1_watcherAt_44 σ x1 x3 x3 h K) ⟨.inr rfl, .inr rfl, .inr rfl, .inr rfl, trivial⟩
set_option maxHeartbeats 4000000 in
set_option maxRecDepth 20000 in
theorem e_X1_watcherAt_50 (σ : Mem) (x2 : Int)  {q : (Int × Mem)} (h : f_X1_watcherAt_50 σ x2 = some q) : Ev M_X1_watcherAt 181 181 (some (0, q.1), rho, q.2) 50 181 rho σ [(2, (164 : Int)), (9, 0), (0, x2), (9, 0)] [] := by
  unfold f_X1_watcherAt_50 at h
  refine ev_iload_n dX1_watcherAt_50 rfl ?_
  refine ev_iconst dX1_watcherAt_51 (by decide) ?_
  refine ev_icmp_ne (tgt := 80) dX1_watcherAt_52 rfl h (fun cb h => ?_) (fun cb h => ?_)
  · refine ev_iload_n dX1_watcherAt_80 rfl ?_
    obtain rfl := Option.some.inj h
    dsimp only
    exact ev_iret dX1_watcherAt_81 rfl rfl
  refine ev_aload_n dX1_watcherAt_55 rfl (by decide) ?_
  refine ev_getf (j := 7) (t := 0) (x := (σ (164 : Int) 7)) dX1_watcherAt_56 cf_X1 wf_X1_34 sp164 (by decide) (by decide) rfl (by decide) rfl ?_
  refine ev_sipush dX1_watcherAt_59 (by decide) (by decide) ?_
  refine ev_icmp_ge (tgt := 80) dX1_watcherAt_62 rfl h (fun cb h => ?_) (fun cb h => ?_)
  · refine ev_iload_n dX1_watcherAt_80 rfl ?_
    obtain rfl := Option.some.inj h
    dsimp only
    exact ev_iret dX1_watcherAt_81 rfl rfl
  refine ev_aload_n dX1_watcherAt_65 rfl (by decide) ?_
  refine ev_getf (j := 7) (t := 0) (x := (σ (164 : Int) 7)) dX1_watcherAt_66 cf_X1 wf_X1_34 sp164 (by decide) (by decide) rfl (by decide) rfl ?_
  refine ev_istore_nG dX1_watcherAt_69 h rfl (by decide) (fun v2 h => ?_)
  show Ev _ _ _ _ 70 _ _ _ [(2, (164 : Int)), (9, 0), (0, v2), (9, 0)] _
  refine ev_aload_n dX1_watcherAt_70 rfl (by decide) ?_
  refine ev_dup dX1_watcherAt_71 (show (2 : Nat) ≠ 1 by decide) ?_
  refine ev_getf (j := 7) (t := 0) (x := (σ (164 : Int) 7)) dX1_watcherAt_72 cf_X1 wf_X1_34 sp164 (by decide) (by decide) rfl (by decide) rfl ?_
  refine ev_iconst dX1_watcherAt_75 (by decide) ?_
  refine ev_iadd dX1_watcherAt_76 ?_
  refine ev_putfG (j := 7) (t := 0) dX1_watcherAt_77 cf_X1 wf_X1_34 sp164 (by decide) (by decide) rfl (by decide) (by decide) rfl (fun z => absurd z (by decide +kernel)) h (fun σ3 h => ?_)
  refine ev_iload_n dX1_watcherAt_80 rfl ?_
  obtain rfl := Option.some.inj h
  dsimp only
  exact ev_iret dX1_watcherAt_81 rfl rfl
set_option maxHeartbeats 4000000 in
set_option maxRecDepth 20000 in
theorem b_X1_watcherAt_4 (σ : Mem) (x1 : Int)  {r : Option V × Mem × Mem} : ∀ a x, f_X1_watcherAt_4B σ x1 a = some x → K_X1_watcherAt_4 σ x1 r x → K_X1_watcherAt_4 σ x1 r (.inl a) := by
  intro a x h K
  obtain ⟨x2, x3⟩ := a
  have h : f_X1_watcherAt_4C σ x1 x2 x3 = some x := h
  unfold f_X1_watcherAt_4C at h
  show Ev M_X1_watcherAt 181 181 r 4 181 rho σ [(2, (164 : Int)), (0, x1), (0, x2), (0, x3)] []
  refine ev_iload_n dX1_watcherAt_4 rfl ?_
  refine ev_aload_n dX1_watcherAt_5 rfl (by decide) ?_
  refine ev_getf (j := 7) (t := 0) (x := (σ (164 : Int) 7)) dX1_watcherAt_6 cf_X1 wf_X1_34 sp164 (by decide) (by decide) rfl (by decide) rfl ?_
  refine ev_icmp_ge (tgt := 50) dX1_watcherAt_9 rfl h (fun cb h => ?_) (fun cb h => ?_)
  · obtain rfl := Option.some.inj h
    exact ev_sub (L2 := [(2, (164 : Int)), (9, 0), (0, x2), (9, 0)]) K ⟨.inr rfl, .inl rfl, .inr rfl, .inl rfl, trivial⟩
  refine ev_aload_n dX1_watcherAt_12 rfl (by decide) ?_
  refine ev_getf (j := 5) (t := 2) (x := (170 : Int)) dX1_watcherAt_13 cf_X1 wf_X1_27 sp164 (by decide) (by decide) rfl (by decide) (rp164_5 _) ?_
  refine ev_iload_n dX1_watcherAt_16 rfl ?_
  refine ev_iald dX1_watcherAt_17 sp170 (by decide) (by decide) h (fun h => ?_)
  refine ev_iload_n dX1_watcherAt_18 rfl ?_
  refine ev_icmp_gt (tgt := 44) dX1_watcherAt_19 rfl h (fun cb h => ?_) (fun cb h => ?_)
  · exact ev_sub (L2 := [(2, (164 : Int)), (0, x1), (0, x2), (0, x3)]) (e_X1_watcherAt_44 σ x1 x2 x3 h K) ⟨.inr rfl, .inr rfl, .inr rfl, .inr rfl, trivial⟩
  refine ev_iload_n dX1_watcherAt_22 rfl ?_
  refine ev_iconst dX1_watcherAt_23 (by decide) ?_
  refine ev_icmp_eq (tgt := 42) dX1_watcherAt_24 rfl h (fun cb h => ?_) (fun cb h => ?_)
  · exact ev_sub (L2 := [(2, (164 : Int)), (0, x1), (9, 0), (0, x3)]) (e_X1_watcherAt_42 σ x1 x3 h K) ⟨.inr rfl, .inr rfl, .inl rfl, .inr rfl, trivial⟩
  refine ev_aload_n dX1_watcherAt_27 rfl (by decide) ?_
  refine ev_getf (j := 5) (t := 2) (x := (170 : Int)) dX1_watcherAt_28 cf_X1 wf_X1_27 sp164 (by decide) (by decide) rfl (by decide) (rp164_5 _) ?_
  refine ev_iload_n dX1_watcherAt_31 rfl ?_
  refine ev_iald dX1_watcherAt_32 sp170 (by decide) (by decide) h (fun h => ?_)
  refine ev_aload_n dX1_watcherAt_33 rfl (by decide) ?_
  refine ev_getf (j := 5) (t := 2) (x := (170 : Int)) dX1_watcherAt_34 cf_X1 wf_X1_27 sp164 (by decide) (by decide) rfl (by decide) (rp164_5 _) ?_
  refine ev_iload_n dX1_watcherAt_37 rfl ?_
  refine ev_iald dX1_watcherAt_38 sp170 (by decide) (by decide) h (fun h => ?_)
  refine ev_icmp_le (tgt := 44) dX1_watcherAt_39 rfl h (fun cb h => ?_) (fun cb h => ?_)
  · exact ev_sub (L2 := [(2, (164 : Int)), (0, x1), (0, x2), (0, x3)]) (e_X1_watcherAt_44 σ x1 x2 x3 h K) ⟨.inr rfl, .inr rfl, .inr rfl, .inr rfl, trivial⟩
  exact ev_sub (L2 := [(2, (164 : Int)), (0, x1), (9, 0), (0, x3)]) (e_X1_watcherAt_42 σ x1 x3 h K) ⟨.inr rfl, .inr rfl, .inl rfl, .inr rfl, trivial⟩
set_option maxHeartbeats 4000000 in
set_option maxRecDepth 20000 in
theorem e_X1_watcherAt_4 (σ : Mem) (x1 x2 x3 : Int)  {q : (Int × Mem)} (h : f_X1_watcherAt_4 σ x1 x2 x3 = some q) : Ev M_X1_watcherAt 181 181 (some (0, q.1), rho, q.2) 4 181 rho σ [(2, (164 : Int)), (0, x1), (0, x2), (0, x3)] [] := by
  unfold f_X1_watcherAt_4 at h
  obtain ⟨e, hl, h⟩ := bind_of h
  refine loop_ev (K := K_X1_watcherAt_4 σ x1 (some (0, q.1), rho, q.2)) (b_X1_watcherAt_4 σ x1) FU (x2, x3) e hl ?_
  show Ev M_X1_watcherAt 181 181 _ 50 181 rho σ [(2, (164 : Int)), (9, 0), (0, e), (9, 0)] []
  replace h : f_X1_watcherAt_50 σ e = some q := h
  exact ev_sub (L2 := [(2, (164 : Int)), (9, 0), (0, e), (9, 0)]) (e_X1_watcherAt_50 σ e h) ⟨.inr rfl, .inl rfl, .inr rfl, .inl rfl, trivial⟩
set_option maxHeartbeats 4000000 in
set_option maxRecDepth 20000 in
theorem c_X1_watcherAt {σ : Mem} {x1 : Int}  {q : (Int × Mem)} (h : f_X1_watcherAt σ x1 = some q) : Ms yX1_watcherAt M_X1_watcherAt 181 181 [(2, (164 : Int)), (0, x1)] rho σ (some (0, q.1), rho, q.2) := by
  refine Ms.of 2 (by decide +kernel) rfl (fun z => absurd z (by decide)) (fun _ _ _ => trivial) rfl rfl ?_
  unfold f_X1_watcherAt at h
  show Ev M_X1_watcherAt 181 181 _ 0 181 rho σ [(2, (164 : Int)), (0, x1), (9, 0), (9, 0)] []
  refine ev_iconst dX1_watcherAt_0 (by decide) ?_
  refine ev_istore_n dX1_watcherAt_1 rfl (by decide) ?_
  show Ev _ _ _ _ 2 _ _ _ [(2, (164 : Int)), (0, x1), (0, (-1 : Int)), (9, 0)] _
  refine ev_iconst dX1_watcherAt_2 (by decide) ?_
  refine ev_istore_n dX1_watcherAt_3 rfl (by decide) ?_
  show Ev _ _ _ _ 4 _ _ _ [(2, (164 : Int)), (0, x1), (0, (-1 : Int)), (0, (0 : Int))] _
  exact ev_sub (L2 := [(2, (164 : Int)), (0, x1), (0, (-1 : Int)), (0, (0 : Int))]) (e_X1_watcherAt_4 σ x1 (-1 : Int) (0 : Int) h) ⟨.inr rfl, .inr rfl, .inr rfl, .inr rfl, trivial⟩
def K_X1_giveOut_7 (x1 : Int) (r : Option V × Mem × Mem) : (Int × Mem) ⊕ ((Mem)) → Prop := Sum.elim (fun a => Ev M_X1_giveOut 181 181 r 7 181 rho a.2 [(2, (164 : Int)), (0, x1), (0, a.1), (9, 0)] []) (fun e => Ev M_X1_giveOut 181 181 r 63 181 rho e [(9, 0), (9, 0), (9, 0), (9, 0)] [])
set_option maxHeartbeats 4000000 in
set_option maxRecDepth 20000 in
theorem e_X1_giveOut_57 (σ : Mem) (x1 x2 : Int)  {q : ((Int × Mem) ⊕ ((Mem)))} (h : f_X1_giveOut_57 σ x1 x2 = some q) {r : Option V × Mem × Mem} (K : K_X1_giveOut_7 x1 r q) : Ev M_X1_giveOut 181 181 r 57 181 rho σ [(2, (164 : Int)), (0, x1), (0, x2), (9, 0)] [] := by
  unfold f_X1_giveOut_57 at h
  refine ev_iincG dX1_giveOut_57 rfl h rfl (fun v11 h => ?_)
  show Ev _ _ _ _ 60 _ _ _ [(2, (164 : Int)), (0, x1), (0, v11), (9, 0)] _
  refine ev_goto (tgt := 7) dX1_giveOut_60 rfl ?_
  obtain rfl := Option.some.inj h
  exact ev_sub (L2 := [(2, (164 : Int)), (0, x1), (0, v11), (9, 0)]) K ⟨.inr rfl, .inr rfl, .inr rfl, .inl rfl, trivial⟩
set_option maxHeartbeats 4000000 in
set_option maxRecDepth 20000 in
theorem b_X1_giveOut_7 (x1 : Int)  {r : Option V × Mem × Mem} : ∀ a x, f_X1_giveOut_7B x1 a = some x → K_X1_giveOut_7 x1 r x → K_X1_giveOut_7 x1 r (.inl a) := by
  intro a x h K
  obtain ⟨x2, σ⟩ := a
  have h : f_X1_giveOut_7C x1 x2 σ = some x := h
  unfold f_X1_giveOut_7C at h
  show Ev M_X1_giveOut 181 181 r 7 181 rho σ [(2, (164 : Int)), (0, x1), (0, x2), (9, 0)] []
  refine ev_iload_n dX1_giveOut_7 rfl ?_
  refine ev_aload_n dX1_giveOut_8 rfl (by decide) ?_
  refine ev_getf (j := 6) (t := 0) (x := (σ (164 : Int) 6)) dX1_giveOut_9 cf_X1 wf_X1_30 sp164 (by decide) (by decide) rfl (by decide) rfl ?_
  refine ev_icmp_ge (tgt := 63) dX1_giveOut_12 rfl h (fun cb h => ?_) (fun cb h => ?_)
  · obtain rfl := Option.some.inj h
    exact ev_sub (L2 := [(9, 0), (9, 0), (9, 0), (9, 0)]) K ⟨.inl rfl, .inl rfl, .inl rfl, .inl rfl, trivial⟩
  refine ev_aload_n dX1_giveOut_15 rfl (by decide) ?_
  refine ev_aload_n dX1_giveOut_16 rfl (by decide) ?_
  refine ev_iload_n dX1_giveOut_17 rfl ?_
  obtain ⟨v2, hc3, h⟩ := bind_of h
  refine ev_invV_v (k := (164 : Int)) (av := [(0, x2)]) (st := [(2, (164 : Int))]) (v := (0, v2)) (τ := σ) dX1_giveOut_18 ml_X1_77 mv_X1_beginOf (T := TX1) (ci := 1) rfl sp164 (by decide) (by decide) rfl ⟨Nat.le_of_ble_eq_true rfl, Nat.le_of_ble_eq_true rfl⟩ (Nat.le_of_ble_eq_true rfl) (c_X1_beginOf hc3) ?_
  obtain ⟨v4, hc5, h⟩ := bind_of h
  refine ev_invV_v (k := (164 : Int)) (av := [(0, v2)]) (st := []) (v := (0, v4.1)) (τ := v4.2) dX1_giveOut_21 ml_X1_81 mv_X1_watcherAt (T := TX1) (ci := 1) rfl sp164 (by decide) (by decide) rfl ⟨Nat.le_of_ble_eq_true rfl, Nat.le_of_ble_eq_true rfl⟩ (Nat.le_of_ble_eq_true rfl) (c_X1_watcherAt hc5) ?_
  refine ev_istore_nG dX1_giveOut_24 h rfl (by decide) (fun v6 h => ?_)
  show Ev _ _ _ _ 25 _ _ _ [(2, (164 : Int)), (0, x1), (0, x2), (0, v6)] _
  refine ev_aload_n dX1_giveOut_25 rfl (by decide) ?_
  refine ev_getf (j := 4) (t := 2) (x := (169 : Int)) dX1_giveOut_26 cf_X1 wf_X1_24 sp164 (by decide) (by decide) rfl (by decide) (rp164_4 _) ?_
  refine ev_iload_n dX1_giveOut_29 rfl ?_
  refine ev_iload_n dX1_giveOut_30 rfl ?_
  refine ev_iastG dX1_giveOut_31 sp169 (by decide) (by decide) h (fun σ7 h => ?_)
  show Ev _ _ _ _ 32 _ _ _ _ _
  refine ev_iload_n dX1_giveOut_32 rfl ?_
  refine ev_iconst dX1_giveOut_33 (by decide) ?_
  refine ev_icmp_eq (tgt := 57) dX1_giveOut_34 rfl h (fun cb h => ?_) (fun cb h => ?_)
  · exact ev_sub (L2 := [(2, (164 : Int)), (0, x1), (0, x2), (9, 0)]) (e_X1_giveOut_57 σ7 x1 x2 h K) ⟨.inr rfl, .inr rfl, .inr rfl, .inl rfl, trivial⟩
  refine ev_aload_n dX1_giveOut_37 rfl (by decide) ?_
  refine ev_getf (j := 5) (t := 2) (x := (170 : Int)) dX1_giveOut_38 cf_X1 wf_X1_27 sp164 (by decide) (by decide) rfl (by decide) (rp164_5 _) ?_
  refine ev_iload_n dX1_giveOut_41 rfl ?_
  refine ev_aload_n dX1_giveOut_42 rfl (by decide) ?_
  refine ev_iload_n dX1_giveOut_43 rfl ?_
  obtain ⟨v8, hc9, h⟩ := bind_of h
  refine ev_invV_v (k := (164 : Int)) (av := [(0, x2)]) (st := [(0, v6), (2, (170 : Int))]) (v := (0, v8)) (τ := σ7) dX1_giveOut_44 ml_X1_77 mv_X1_beginOf (T := TX1) (ci := 1) rfl sp164 (by decide) (by decide) rfl ⟨Nat.le_of_ble_eq_true rfl, Nat.le_of_ble_eq_true rfl⟩ (Nat.le_of_ble_eq_true rfl) (c_X1_beginOf hc9) ?_
  refine ev_aload_n dX1_giveOut_47 rfl (by decide) ?_
  refine ev_getf (j := 3) (t := 2) (x := (168 : Int)) dX1_giveOut_48 cf_X1 wf_X1_21 sp164 (by decide) (by decide) rfl (by decide) (rp164_3 _) ?_
  refine ev_iload_n dX1_giveOut_51 rfl ?_
  refine ev_iald dX1_giveOut_52 sp168 (by decide) (by decide) h (fun h => ?_)
  refine ev_iadd dX1_giveOut_53 ?_
  show Ev _ _ _ _ 54 _ _ _ _ _
  refine ev_iload_n dX1_giveOut_54 rfl ?_
  refine ev_iadd dX1_giveOut_55 ?_
  refine ev_iastG dX1_giveOut_56 sp170 (by decide) (by decide) h (fun σ10 h => ?_)
  exact ev_sub (L2 := [(2, (164 : Int)), (0, x1), (0, x2), (9, 0)]) (e_X1_giveOut_57 σ10 x1 x2 h K) ⟨.inr rfl, .inr rfl, .inr rfl, .inl rfl, trivial⟩
set_option maxHeartbeats 4000000 in
set_option maxRecDepth 20000 in
theorem e_X1_giveOut_7 (σ : Mem) (x1 x2 : Int)  {q : Mem} (h : f_X1_giveOut_7 σ x1 x2 = some q) : Ev M_X1_giveOut 181 181 (none, rho, q) 7 181 rho σ [(2, (164 : Int)), (0, x1), (0, x2), (9, 0)] [] := by
  unfold f_X1_giveOut_7 at h
  obtain ⟨e, hl, h⟩ := bind_of h
  refine loop_ev (K := K_X1_giveOut_7 x1 (none, rho, q)) (b_X1_giveOut_7 x1) FU (x2, σ) e hl ?_
  show Ev M_X1_giveOut 181 181 _ 63 181 rho e [(9, 0), (9, 0), (9, 0), (9, 0)] []
  replace h : some e = some q := h
  obtain rfl := Option.some.inj h
  exact ev_vret dX1_giveOut_63 rfl rfl
set_option maxHeartbeats 4000000 in
set_option maxRecDepth 20000 in
theorem c_X1_giveOut {σ : Mem} {x1 : Int}  {q : Mem} (h : f_X1_giveOut σ x1 = some q) : Ms yX1_giveOut M_X1_giveOut 181 181 [(2, (164 : Int)), (0, x1)] rho σ (none, rho, q) := by
  refine Ms.of 2 (by decide +kernel) rfl (fun z => absurd z (by decide)) (fun _ _ _ => trivial) rfl rfl ?_
  unfold f_X1_giveOut at h
  show Ev M_X1_giveOut 181 181 _ 0 181 rho σ [(2, (164 : Int)), (0, x1), (9, 0), (9, 0)] []
  refine ev_aload_n dX1_giveOut_0 rfl (by decide) ?_
  refine ev_iconst dX1_giveOut_1 (by decide) ?_
  refine ev_putfG (j := 7) (t := 0) dX1_giveOut_2 cf_X1 wf_X1_34 sp164 (by decide) (by decide) rfl (by decide) (by decide) rfl (fun z => absurd z (by decide +kernel)) h (fun σ1 h => ?_)
  refine ev_iconst dX1_giveOut_5 (by decide) ?_
  refine ev_istore_n dX1_giveOut_6 rfl (by decide) ?_
  show Ev _ _ _ _ 7 _ _ _ [(2, (164 : Int)), (0, x1), (0, (0 : Int)), (9, 0)] _
  exact ev_sub (L2 := [(2, (164 : Int)), (0, x1), (0, (0 : Int)), (9, 0)]) (e_X1_giveOut_7 σ1 x1 (0 : Int) h) ⟨.inr rfl, .inr rfl, .inr rfl, .inl rfl, trivial⟩
def K_X1_countAtOnce_20 (σ : Mem) (x1 x2 : Int) (r : Option V × Mem × Mem) : (Int × Int) ⊕ ((Int)) → Prop := Sum.elim (fun a => Ev M_X1_countAtOnce 181 181 r 20 181 rho σ [(2, (164 : Int)), (0, x1), (0, x2), (0, a.1), (0, a.2)] []) (fun e => Ev M_X1_countAtOnce 181 181 r 76 181 rho σ [(2, (164 : Int)), (0, x1), (0, x2), (0, e), (9, 0)] [])
def K_X1_countAtOnce_7 (x1 : Int) (r : Option V × Mem × Mem) : (Int × Mem) ⊕ ((Mem)) → Prop := Sum.elim (fun a => Ev M_X1_countAtOnce 181 181 r 7 181 rho a.2 [(2, (164 : Int)), (0, x1), (0, a.1), (9, 0), (9, 0)] []) (fun e => Ev M_X1_countAtOnce 181 181 r 94 181 rho e [(9, 0), (9, 0), (9, 0), (9, 0), (9, 0)] [])
set_option maxHeartbeats 4000000 in
set_option maxRecDepth 20000 in
theorem e_X1_countAtOnce_70 (σ : Mem) (x1 x2 x3 x4 : Int)  {q : ((Int × Int) ⊕ ((Int)))} (h : f_X1_countAtOnce_70 σ x1 x2 x3 x4 = some q) {r : Option V × Mem × Mem} (K : K_X1_countAtOnce_20 σ x1 x2 r q) : Ev M_X1_countAtOnce 181 181 r 70 181 rho σ [(2, (164 : Int)), (0, x1), (0, x2), (0, x3), (0, x4)] [] := by
  unfold f_X1_countAtOnce_70 at h
  refine ev_iincG dX1_countAtOnce_70 rfl h rfl (fun v11 h => ?_)
  show Ev _ _ _ _ 73 _ _ _ [(2, (164 : Int)), (0, x1), (0, x2), (0, x3), (0, v11)] _
  refine ev_goto (tgt := 20) dX1_countAtOnce_73 rfl ?_
  obtain rfl := Option.some.inj h
  exact ev_sub (L2 := [(2, (164 : Int)), (0, x1), (0, x2), (0, x3), (0, v11)]) K ⟨.inr rfl, .inr rfl, .inr rfl, .inr rfl, .inr rfl, trivial⟩
set_option maxHeartbeats 4000000 in
set_option maxRecDepth 20000 in
theorem e_X1_countAtOnce_76 (σ : Mem) (x1 x2 x3 : Int)  {q : ((Int × Mem) ⊕ ((Mem)))} (h : f_X1_countAtOnce_76 σ x1 x2 x3 = some q) {r : Option V × Mem × Mem} (K : K_X1_countAtOnce_7 x1 r q) : Ev M_X1_countAtOnce 181 181 r 76 181 rho σ [(2, (164 : Int)), (0, x1), (0, x2), (0, x3), (9, 0)] [] := by
  unfold f_X1_countAtOnce_76 at h
  refine ev_aload_n dX1_countAtOnce_76 rfl (by decide) ?_
  refine ev_aload_n dX1_countAtOnce_77 rfl (by decide) ?_
  refine ev_getf (j := 8) (t := 0) (x := (σ (164 : Int) 8)) dX1_countAtOnce_78 cf_X1 wf_X1_37 sp164 (by decide) (by decide) rfl (by decide) rfl ?_
  refine ev_iload_n dX1_countAtOnce_81 rfl ?_
  refine ev_mx dX1_countAtOnce_82 wa_X1_84 wm_max (by decide) (Nat.le_of_ble_eq_true rfl) ?_
  refine ev_putfG (j := 8) (t := 0) dX1_countAtOnce_85 cf_X1 wf_X1_37 sp164 (by decide) (by decide) rfl (by decide) (by decide) rfl (fun z => absurd z (by decide +kernel)) h (fun σ12 h => ?_)
  refine ev_iincG dX1_countAtOnce_88 rfl h rfl (fun v13 h => ?_)
  show Ev _ _ _ _ 91 _ _ _ [(2, (164 : Int)), (0, x1), (0, v13), (0, x3), (9, 0)] _
  refine ev_goto (tgt := 7) dX1_countAtOnce_91 rfl ?_
  obtain rfl := Option.some.inj h
  exact ev_sub (L2 := [(2, (164 : Int)), (0, x1), (0, v13), (9, 0), (9, 0)]) K ⟨.inr rfl, .inr rfl, .inr rfl, .inl rfl, .inl rfl, trivial⟩
set_option maxHeartbeats 4000000 in
set_option maxRecDepth 20000 in
theorem b_X1_countAtOnce_20 (σ : Mem) (x1 x2 : Int)  {r : Option V × Mem × Mem} : ∀ a x, f_X1_countAtOnce_20B σ x1 x2 a = some x → K_X1_countAtOnce_20 σ x1 x2 r x → K_X1_countAtOnce_20 σ x1 x2 r (.inl a) := by
  intro a x h K
  obtain ⟨x3, x4⟩ := a
  have h : f_X1_countAtOnce_20C σ x1 x2 x3 x4 = some x := h
  unfold f_X1_countAtOnce_20C at h
  show Ev M_X1_countAtOnce 181 181 r 20 181 rho σ [(2, (164 : Int)), (0, x1), (0, x2), (0, x3), (0, x4)] []
  refine ev_iload dX1_countAtOnce_20 rfl ?_
  refine ev_aload_n dX1_countAtOnce_22 rfl (by decide) ?_
  refine ev_getf (j := 6) (t := 0) (x := (σ (164 : Int) 6)) dX1_countAtOnce_23 cf_X1 wf_X1_30 sp164 (by decide) (by decide) rfl (by decide) rfl ?_
  refine ev_icmp_ge (tgt := 76) dX1_countAtOnce_26 rfl h (fun cb h => ?_) (fun cb h => ?_)
  · obtain rfl := Option.some.inj h
    exact ev_sub (L2 := [(2, (164 : Int)), (0, x1), (0, x2), (0, x3), (9, 0)]) K ⟨.inr rfl, .inr rfl, .inr rfl, .inr rfl, .inl rfl, trivial⟩
  refine ev_aload_n dX1_countAtOnce_29 rfl (by decide) ?_
  refine ev_iload dX1_countAtOnce_30 rfl ?_
  obtain ⟨v2, hc3, h⟩ := bind_of h
  refine ev_invV_v (k := (164 : Int)) (av := [(0, x4)]) (st := []) (v := (0, v2)) (τ := σ) dX1_countAtOnce_32 ml_X1_77 mv_X1_beginOf (T := TX1) (ci := 1) rfl sp164 (by decide) (by decide) rfl ⟨Nat.le_of_ble_eq_true rfl, Nat.le_of_ble_eq_true rfl⟩ (Nat.le_of_ble_eq_true rfl) (c_X1_beginOf hc3) ?_
  refine ev_aload_n dX1_countAtOnce_35 rfl (by decide) ?_
  refine ev_iload_n dX1_countAtOnce_36 rfl ?_
  obtain ⟨v4, hc5, h⟩ := bind_of h
  refine ev_invV_v (k := (164 : Int)) (av := [(0, x2)]) (st := [(0, v2)]) (v := (0, v4)) (τ := σ) dX1_countAtOnce_37 ml_X1_77 mv_X1_beginOf (T := TX1) (ci := 1) rfl sp164 (by decide) (by decide) rfl ⟨Nat.le_of_ble_eq_true rfl, Nat.le_of_ble_eq_true rfl⟩ (Nat.le_of_ble_eq_true rfl) (c_X1_beginOf hc5) ?_
  refine ev_icmp_gt (tgt := 70) dX1_countAtOnce_40 rfl h (fun cb h => ?_) (fun cb h => ?_)
  · exact ev_sub (L2 := [(2, (164 : Int)), (0, x1), (0, x2), (0, x3), (0, x4)]) (e_X1_countAtOnce_70 σ x1 x2 x3 x4 h K) ⟨.inr rfl, .inr rfl, .inr rfl, .inr rfl, .inr rfl, trivial⟩
  refine ev_aload_n dX1_countAtOnce_43 rfl (by decide) ?_
  refine ev_iload_n dX1_countAtOnce_44 rfl ?_
  obtain ⟨v6, hc7, h⟩ := bind_of h
  refine ev_invV_v (k := (164 : Int)) (av := [(0, x2)]) (st := []) (v := (0, v6)) (τ := σ) dX1_countAtOnce_45 ml_X1_77 mv_X1_beginOf (T := TX1) (ci := 1) rfl sp164 (by decide) (by decide) rfl ⟨Nat.le_of_ble_eq_true rfl, Nat.le_of_ble_eq_true rfl⟩ (Nat.le_of_ble_eq_true rfl) (c_X1_beginOf hc7) ?_
  refine ev_aload_n dX1_countAtOnce_48 rfl (by decide) ?_
  refine ev_iload dX1_countAtOnce_49 rfl ?_
  obtain ⟨v8, hc9, h⟩ := bind_of h
  refine ev_invV_v (k := (164 : Int)) (av := [(0, x4)]) (st := [(0, v6)]) (v := (0, v8)) (τ := σ) dX1_countAtOnce_51 ml_X1_77 mv_X1_beginOf (T := TX1) (ci := 1) rfl sp164 (by decide) (by decide) rfl ⟨Nat.le_of_ble_eq_true rfl, Nat.le_of_ble_eq_true rfl⟩ (Nat.le_of_ble_eq_true rfl) (c_X1_beginOf hc9) ?_
  refine ev_aload_n dX1_countAtOnce_54 rfl (by decide) ?_
  refine ev_getf (j := 3) (t := 2) (x := (168 : Int)) dX1_countAtOnce_55 cf_X1 wf_X1_21 sp164 (by decide) (by decide) rfl (by decide) (rp164_3 _) ?_
  refine ev_iload dX1_countAtOnce_58 rfl ?_
  refine ev_iald dX1_countAtOnce_60 sp168 (by decide) (by decide) h (fun h => ?_)
  refine ev_iadd dX1_countAtOnce_61 ?_
  show Ev _ _ _ _ 62 _ _ _ _ _
  refine ev_iload_n dX1_countAtOnce_62 rfl ?_
  refine ev_iadd dX1_countAtOnce_63 ?_
  refine ev_icmp_ge (tgt := 70) dX1_countAtOnce_64 rfl h (fun cb h => ?_) (fun cb h => ?_)
  · exact ev_sub (L2 := [(2, (164 : Int)), (0, x1), (0, x2), (0, x3), (0, x4)]) (e_X1_countAtOnce_70 σ x1 x2 x3 x4 h K) ⟨.inr rfl, .inr rfl, .inr rfl, .inr rfl, .inr rfl, trivial⟩
  refine ev_iincG dX1_countAtOnce_67 rfl h rfl (fun v10 h => ?_)
  show Ev _ _ _ _ 70 _ _ _ [(2, (164 : Int)), (0, x1), (0, x2), (0, v10), (0, x4)] _
  exact ev_sub (L2 := [(2, (164 : Int)), (0, x1), (0, x2), (0, v10), (0, x4)]) (e_X1_countAtOnce_70 σ x1 x2 v10 x4 h K) ⟨.inr rfl, .inr rfl, .inr rfl, .inr rfl, .inr rfl, trivial⟩
set_option maxHeartbeats 4000000 in
set_option maxRecDepth 20000 in
theorem e_X1_countAtOnce_20 (σ : Mem) (x1 x2 x3 x4 : Int)  {q : ((Int × Mem) ⊕ ((Mem)))} (h : f_X1_countAtOnce_20 σ x1 x2 x3 x4 = some q) {r : Option V × Mem × Mem} (K : K_X1_countAtOnce_7 x1 r q) : Ev M_X1_countAtOnce 181 181 r 20 181 rho σ [(2, (164 : Int)), (0, x1), (0, x2), (0, x3), (0, x4)] [] := by
  unfold f_X1_countAtOnce_20 at h
  obtain ⟨e, hl, h⟩ := bind_of h
  refine loop_ev (K := K_X1_countAtOnce_20 σ x1 x2 r) (b_X1_countAtOnce_20 σ x1 x2) FU (x3, x4) e hl ?_
  show Ev M_X1_countAtOnce 181 181 r 76 181 rho σ [(2, (164 : Int)), (0, x1), (0, x2), (0, e), (9, 0)] []
  replace h : f_X1_countAtOnce_76 σ x1 x2 e = some q := h
  exact ev_sub (L2 := [(2, (164 : Int)), (0, x1), (0, x2), (0, e), (9, 0)]) (e_X1_countAtOnce_76 σ x1 x2 e h K) ⟨.inr rfl, .inr rfl, .inr rfl, .inr rfl, .inl rfl, trivial⟩
set_option maxHeartbeats 4000000 in
set_option maxRecDepth 20000 in
theorem b_X1_countAtOnce_7 (x1 : Int)  {r : Option V × Mem × Mem} : ∀ a x, f_X1_countAtOnce_7B x1 a = some x → K_X1_countAtOnce_7 x1 r x → K_X1_countAtOnce_7 x1 r (.inl a) := by
  intro a x h K
  obtain ⟨x2, σ⟩ := a
  have h : f_X1_countAtOnce_7C x1 x2 σ = some x := h
  unfold f_X1_countAtOnce_7C at h
  show Ev M_X1_countAtOnce 181 181 r 7 181 rho σ [(2, (164 : Int)), (0, x1), (0, x2), (9, 0), (9, 0)] []
  refine ev_iload_n dX1_countAtOnce_7 rfl ?_
  refine ev_aload_n dX1_countAtOnce_8 rfl (by decide) ?_
  refine ev_getf (j := 6) (t := 0) (x := (σ (164 : Int) 6)) dX1_countAtOnce_9 cf_X1 wf_X1_30 sp164 (by decide) (by decide) rfl (by decide) rfl ?_
  refine ev_icmp_ge (tgt := 94) dX1_countAtOnce_12 rfl h (fun cb h => ?_) (fun cb h => ?_)
  · obtain rfl := Option.some.inj h
    exact ev_sub (L2 := [(9, 0), (9, 0), (9, 0), (9, 0), (9, 0)]) K ⟨.inl rfl, .inl rfl, .inl rfl, .inl rfl, .inl rfl, trivial⟩
  refine ev_iconst dX1_countAtOnce_15 (by decide) ?_
  refine ev_istore_n dX1_countAtOnce_16 rfl (by decide) ?_
  show Ev _ _ _ _ 17 _ _ _ [(2, (164 : Int)), (0, x1), (0, x2), (0, (0 : Int)), (9, 0)] _
  refine ev_iconst dX1_countAtOnce_17 (by decide) ?_
  refine ev_istore dX1_countAtOnce_18 rfl (by decide) ?_
  show Ev _ _ _ _ 20 _ _ _ [(2, (164 : Int)), (0, x1), (0, x2), (0, (0 : Int)), (0, (0 : Int))] _
  exact ev_sub (L2 := [(2, (164 : Int)), (0, x1), (0, x2), (0, (0 : Int)), (0, (0 : Int))]) (e_X1_countAtOnce_20 σ x1 x2 (0 : Int) (0 : Int) h K) ⟨.inr rfl, .inr rfl, .inr rfl, .inr rfl, .inr rfl, trivial⟩
set_option maxHeartbeats 4000000 in
set_option maxRecDepth 20000 in
theorem e_X1_countAtOnce_7 (σ : Mem) (x1 x2 : Int)  {q : Mem} (h : f_X1_countAtOnce_7 σ x1 x2 = some q) : Ev M_X1_countAtOnce 181 181 (none, rho, q) 7 181 rho σ [(2, (164 : Int)), (0, x1), (0, x2), (9, 0), (9, 0)] [] := by
  unfold f_X1_countAtOnce_7 at h
  obtain ⟨e, hl, h⟩ := bind_of h
  refine loop_ev (K := K_X1_countAtOnce_7 x1 (none, rho, q)) (b_X1_countAtOnce_7 x1) FU (x2, σ) e hl ?_
  show Ev M_X1_countAtOnce 181 181 _ 94 181 rho e [(9, 0), (9, 0), (9, 0), (9, 0), (9, 0)] []
  replace h : some e = some q := h
  obtain rfl := Option.some.inj h
  exact ev_vret dX1_countAtOnce_94 rfl rfl
set_option maxHeartbeats 4000000 in
set_option maxRecDepth 20000 in
theorem c_X1_countAtOnce {σ : Mem} {x1 : Int}  {q : Mem} (h : f_X1_countAtOnce σ x1 = some q) : Ms yX1_countAtOnce M_X1_countAtOnce 181 181 [(2, (164 : Int)), (0, x1)] rho σ (none, rho, q) := by
  refine Ms.of 3 (by decide +kernel) rfl (fun z => absurd z (by decide)) (fun _ _ _ => trivial) rfl rfl ?_
  unfold f_X1_countAtOnce at h
  show Ev M_X1_countAtOnce 181 181 _ 0 181 rho σ [(2, (164 : Int)), (0, x1), (9, 0), (9, 0), (9, 0)] []
  refine ev_aload_n dX1_countAtOnce_0 rfl (by decide) ?_
  refine ev_iconst dX1_countAtOnce_1 (by decide) ?_
  refine ev_putfG (j := 8) (t := 0) dX1_countAtOnce_2 cf_X1 wf_X1_37 sp164 (by decide) (by decide) rfl (by decide) (by decide) rfl (fun z => absurd z (by decide +kernel)) h (fun σ1 h => ?_)
  refine ev_iconst dX1_countAtOnce_5 (by decide) ?_
  refine ev_istore_n dX1_countAtOnce_6 rfl (by decide) ?_
  show Ev _ _ _ _ 7 _ _ _ [(2, (164 : Int)), (0, x1), (0, (0 : Int)), (9, 0), (9, 0)] _
  exact ev_sub (L2 := [(2, (164 : Int)), (0, x1), (0, (0 : Int)), (9, 0), (9, 0)]) (e_X1_countAtOnce_7 σ1 x1 (0 : Int) h) ⟨.inr rfl, .inr rfl, .inr rfl, .inl rfl, .inl rfl, trivial⟩
def K_X1_gather_45 (x3 x4 : Int) (r : Option V × Mem × Mem) : (Int × Mem) ⊕ ((Mem)) → Prop := Sum.elim (fun a => Ev M_X1_gather 181 181 r 45 181 rho a.2 [(2, (164 : Int)), (2, (1 : Int)), (2, (43 : Int)), (0, x3), (0, x4), (0, a.1)] []) (fun e => Ev M_X1_gather 181 181 r 82 181 rho e [(2, (164 : Int)), (2, (1 : Int)), (2, (43 : Int)), (0, x3), (0, x4), (9, 0)] [])
def K_X1_gather_35 (x3 : Int) (r : Option V × Mem × Mem) : (Int × Mem) ⊕ ((Mem)) → Prop := Sum.elim (fun a => Ev M_X1_gather 181 181 r 35 181 rho a.2 [(2, (164 : Int)), (2, (1 : Int)), (2, (43 : Int)), (0, x3), (0, a.1), (9, 0)] []) (fun e => Ev M_X1_gather 181 181 r 88 181 rho e [(2, (164 : Int)), (2, (1 : Int)), (2, (43 : Int)), (0, x3), (9, 0), (9, 0)] [])
def K_X1_gather_27 (r : Option V × Mem × Mem) : (Int × Mem) ⊕ ((Mem)) → Prop := Sum.elim (fun a => Ev M_X1_gather 181 181 r 27 181 rho a.2 [(2, (164 : Int)), (2, (1 : Int)), (2, (43 : Int)), (0, a.1), (9, 0), (9, 0)] []) (fun e => Ev M_X1_gather 181 181 r 94 181 rho e [(2, (164 : Int)), (2, (1 : Int)), (9, 0), (9, 0), (9, 0), (9, 0)] [])
set_option maxHeartbeats 4000000 in
set_option maxRecDepth 20000 in
theorem e_X1_gather_82 (σ : Mem) (x3 x4 : Int)  {q : ((Int × Mem) ⊕ ((Mem)))} (h : f_X1_gather_82 σ x3 x4 = some q) {r : Option V × Mem × Mem} (K : K_X1_gather_35 x3 r q) : Ev M_X1_gather 181 181 r 82 181 rho σ [(2, (164 : Int)), (2, (1 : Int)), (2, (43 : Int)), (0, x3), (0, x4), (9, 0)] [] := by
  unfold f_X1_gather_82 at h
  refine ev_iincG dX1_gather_82 rfl h rfl (fun v20 h => ?_)
  show Ev _ _ _ _ 85 _ _ _ [(2, (164 : Int)), (2, (1 : Int)), (2, (43 : Int)), (0, x3), (0, v20), (9, 0)] _
  refine ev_goto (tgt := 35) dX1_gather_85 rfl ?_
  obtain rfl := Option.some.inj h
  exact ev_sub (L2 := [(2, (164 : Int)), (2, (1 : Int)), (2, (43 : Int)), (0, x3), (0, v20), (9, 0)]) K ⟨.inr rfl, .inr rfl, .inr rfl, .inr rfl, .inr rfl, .inl rfl, trivial⟩
set_option maxHeartbeats 4000000 in
set_option maxRecDepth 20000 in
theorem b_X1_gather_45 (x3 x4 : Int)  {r : Option V × Mem × Mem} : ∀ a x, f_X1_gather_45B x3 x4 a = some x → K_X1_gather_45 x3 x4 r x → K_X1_gather_45 x3 x4 r (.inl a) := by
  intro a x h K
  obtain ⟨x5, σ⟩ := a
  have h : f_X1_gather_45C x3 x4 x5 σ = some x := h
  unfold f_X1_gather_45C at h
  show Ev M_X1_gather 181 181 r 45 181 rho σ [(2, (164 : Int)), (2, (1 : Int)), (2, (43 : Int)), (0, x3), (0, x4), (0, x5)] []
  refine ev_iload dX1_gather_45 rfl ?_
  refine ev_aload_n dX1_gather_47 rfl (by decide) ?_
  refine ev_getf (j := 9) (t := 0) (x := (σ (1 : Int) 9)) dX1_gather_48 cf_X0 wf_X1_48 sp1 (by decide) (by decide) rfl (by decide) rfl ?_
  refine ev_icmp_ge (tgt := 82) dX1_gather_51 rfl h (fun cb h => ?_) (fun cb h => ?_)
  · obtain rfl := Option.some.inj h
    exact ev_sub (L2 := [(2, (164 : Int)), (2, (1 : Int)), (2, (43 : Int)), (0, x3), (0, x4), (9, 0)]) K ⟨.inr rfl, .inr rfl, .inr rfl, .inr rfl, .inr rfl, .inl rfl, trivial⟩
  refine ev_aload_n dX1_gather_54 rfl (by decide) ?_
  refine ev_iload dX1_gather_55 rfl ?_
  refine ev_iload_n dX1_gather_57 rfl ?_
  refine ev_iload dX1_gather_58 rfl ?_
  refine ev_aload_n dX1_gather_60 rfl (by decide) ?_
  refine ev_aload_n dX1_gather_61 rfl (by decide) ?_
  refine ev_iload dX1_gather_62 rfl ?_
  obtain ⟨v11, hc12, h⟩ := bind_of h
  refine ev_invV_v (k := (43 : Int)) (av := [(2, (1 : Int)), (0, x5)]) (st := [(0, x4), (0, x3), (0, x5), (2, (164 : Int))]) (v := (2, v11.1)) (τ := v11.2) dX1_gather_64 ml_X1_53 mv_X9_of (T := TX9) (ci := 8) rfl sp43 (by decide) (by decide) rfl ⟨Nat.le_of_ble_eq_true rfl, Nat.le_of_ble_eq_true rfl⟩ (Nat.le_of_ble_eq_true rfl) (c_X9_of hc12) ?_
  have hw13 := w_X9_of hc12
  refine ev_iload_n dX1_gather_67 rfl ?_
  refine ev_iload dX1_gather_68 rfl ?_
  obtain ⟨v14, hc15, h⟩ := bind_of h
  refine ev_invV_v (k := v11.1) (av := [(0, x3), (0, x4)]) (st := [(0, x4), (0, x3), (0, x5), (2, (164 : Int))]) (v := (0, v14)) (τ := v11.2) dX1_gather_70 ml_X1_57 mv_X8_dutyFrom (T := TX8) (ci := 7) rfl (sW hw13) (pW hw13).1 (pW hw13).2 rfl ⟨Nat.le_of_ble_eq_true rfl, Nat.le_of_ble_eq_true rfl⟩ (Nat.le_of_ble_eq_true rfl) (c_X8_dutyFrom hw13 hc15) ?_
  show Ev _ _ _ _ 73 _ _ _ _ _
  obtain ⟨σ16, hc17, h⟩ := bind_of h
  refine ev_invV_n (k := (164 : Int)) (av := [(0, x5), (0, x3), (0, x4), (0, v14)]) (st := []) (τ := σ16) dX1_gather_73 ml_X1_63 mv_X1_add (T := TX1) (ci := 1) rfl sp164 (by decide) (by decide) rfl ⟨Nat.le_of_ble_eq_true rfl, Nat.le_of_ble_eq_true rfl⟩ (Nat.le_of_ble_eq_true rfl) (c_X1_add hc17) ?_
  refine ev_iincG dX1_gather_76 rfl h rfl (fun v18 h => ?_)
  show Ev _ _ _ _ 79 _ _ _ [(2, (164 : Int)), (2, (1 : Int)), (2, (43 : Int)), (0, x3), (0, x4), (0, v18)] _
  refine ev_goto (tgt := 45) dX1_gather_79 rfl ?_
  obtain rfl := Option.some.inj h
  exact ev_sub (L2 := [(2, (164 : Int)), (2, (1 : Int)), (2, (43 : Int)), (0, x3), (0, x4), (0, v18)]) K ⟨.inr rfl, .inr rfl, .inr rfl, .inr rfl, .inr rfl, .inr rfl, trivial⟩
set_option maxHeartbeats 4000000 in
set_option maxRecDepth 20000 in
theorem e_X1_gather_45 (σ : Mem) (x3 x4 x5 : Int)  {q : ((Int × Mem) ⊕ ((Mem)))} (h : f_X1_gather_45 σ x3 x4 x5 = some q) {r : Option V × Mem × Mem} (K : K_X1_gather_35 x3 r q) : Ev M_X1_gather 181 181 r 45 181 rho σ [(2, (164 : Int)), (2, (1 : Int)), (2, (43 : Int)), (0, x3), (0, x4), (0, x5)] [] := by
  unfold f_X1_gather_45 at h
  obtain ⟨e, hl, h⟩ := bind_of h
  refine loop_ev (K := K_X1_gather_45 x3 x4 r) (b_X1_gather_45 x3 x4) FU (x5, σ) e hl ?_
  show Ev M_X1_gather 181 181 r 82 181 rho e [(2, (164 : Int)), (2, (1 : Int)), (2, (43 : Int)), (0, x3), (0, x4), (9, 0)] []
  replace h : f_X1_gather_82 e x3 x4 = some q := h
  exact ev_sub (L2 := [(2, (164 : Int)), (2, (1 : Int)), (2, (43 : Int)), (0, x3), (0, x4), (9, 0)]) (e_X1_gather_82 e x3 x4 h K) ⟨.inr rfl, .inr rfl, .inr rfl, .inr rfl, .inr rfl, .inl rfl, trivial⟩
set_option maxHeartbeats 4000000 in
set_option maxRecDepth 20000 in
theorem e_X1_gather_88 (σ : Mem) (x3 : Int)  {q : ((Int × Mem) ⊕ ((Mem)))} (h : f_X1_gather_88 σ x3 = some q) {r : Option V × Mem × Mem} (K : K_X1_gather_27  r q) : Ev M_X1_gather 181 181 r 88 181 rho σ [(2, (164 : Int)), (2, (1 : Int)), (2, (43 : Int)), (0, x3), (9, 0), (9, 0)] [] := by
  unfold f_X1_gather_88 at h
  refine ev_iincG dX1_gather_88 rfl h rfl (fun v19 h => ?_)
  show Ev _ _ _ _ 91 _ _ _ [(2, (164 : Int)), (2, (1 : Int)), (2, (43 : Int)), (0, v19), (9, 0), (9, 0)] _
  refine ev_goto (tgt := 27) dX1_gather_91 rfl ?_
  obtain rfl := Option.some.inj h
  exact ev_sub (L2 := [(2, (164 : Int)), (2, (1 : Int)), (2, (43 : Int)), (0, v19), (9, 0), (9, 0)]) K ⟨.inr rfl, .inr rfl, .inr rfl, .inr rfl, .inl rfl, .inl rfl, trivial⟩
set_option maxHeartbeats 4000000 in
set_option maxRecDepth 20000 in
theorem b_X1_gather_35 (x3 : Int)  {r : Option V × Mem × Mem} : ∀ a x, f_X1_gather_35B x3 a = some x → K_X1_gather_35 x3 r x → K_X1_gather_35 x3 r (.inl a) := by
  intro a x h K
  obtain ⟨x4, σ⟩ := a
  have h : f_X1_gather_35C x3 x4 σ = some x := h
  unfold f_X1_gather_35C at h
  show Ev M_X1_gather 181 181 r 35 181 rho σ [(2, (164 : Int)), (2, (1 : Int)), (2, (43 : Int)), (0, x3), (0, x4), (9, 0)] []
  refine ev_iload dX1_gather_35 rfl ?_
  refine ev_bipush dX1_gather_37 (by decide) (by decide) ?_
  refine ev_icmp_ge (tgt := 88) dX1_gather_39 rfl h (fun cb h => ?_) (fun cb h => ?_)
  · obtain rfl := Option.some.inj h
    exact ev_sub (L2 := [(2, (164 : Int)), (2, (1 : Int)), (2, (43 : Int)), (0, x3), (9, 0), (9, 0)]) K ⟨.inr rfl, .inr rfl, .inr rfl, .inr rfl, .inl rfl, .inl rfl, trivial⟩
  refine ev_iconst dX1_gather_42 (by decide) ?_
  refine ev_istore dX1_gather_43 rfl (by decide) ?_
  show Ev _ _ _ _ 45 _ _ _ [(2, (164 : Int)), (2, (1 : Int)), (2, (43 : Int)), (0, x3), (0, x4), (0, (0 : Int))] _
  exact ev_sub (L2 := [(2, (164 : Int)), (2, (1 : Int)), (2, (43 : Int)), (0, x3), (0, x4), (0, (0 : Int))]) (e_X1_gather_45 σ x3 x4 (0 : Int) h K) ⟨.inr rfl, .inr rfl, .inr rfl, .inr rfl, .inr rfl, .inr rfl, trivial⟩
set_option maxHeartbeats 4000000 in
set_option maxRecDepth 20000 in
theorem e_X1_gather_35 (σ : Mem) (x3 x4 : Int)  {q : ((Int × Mem) ⊕ ((Mem)))} (h : f_X1_gather_35 σ x3 x4 = some q) {r : Option V × Mem × Mem} (K : K_X1_gather_27  r q) : Ev M_X1_gather 181 181 r 35 181 rho σ [(2, (164 : Int)), (2, (1 : Int)), (2, (43 : Int)), (0, x3), (0, x4), (9, 0)] [] := by
  unfold f_X1_gather_35 at h
  obtain ⟨e, hl, h⟩ := bind_of h
  refine loop_ev (K := K_X1_gather_35 x3 r) (b_X1_gather_35 x3) FU (x4, σ) e hl ?_
  show Ev M_X1_gather 181 181 r 88 181 rho e [(2, (164 : Int)), (2, (1 : Int)), (2, (43 : Int)), (0, x3), (9, 0), (9, 0)] []
  replace h : f_X1_gather_88 e x3 = some q := h
  exact ev_sub (L2 := [(2, (164 : Int)), (2, (1 : Int)), (2, (43 : Int)), (0, x3), (9, 0), (9, 0)]) (e_X1_gather_88 e x3 h K) ⟨.inr rfl, .inr rfl, .inr rfl, .inr rfl, .inl rfl, .inl rfl, trivial⟩
set_option maxHeartbeats 4000000 in
set_option maxRecDepth 20000 in
theorem e_X1_gather_94 (σ : Mem)  {q : Mem} (h : f_X1_gather_94 σ  = some q) : Ev M_X1_gather 181 181 (none, rho, q) 94 181 rho σ [(2, (164 : Int)), (2, (1 : Int)), (9, 0), (9, 0), (9, 0), (9, 0)] [] := by
  unfold f_X1_gather_94 at h
  refine ev_aload_n dX1_gather_94 rfl (by decide) ?_
  refine ev_aload_n dX1_gather_95 rfl (by decide) ?_
  refine ev_getf (j := 12) (t := 0) (x := (σ (1 : Int) 12)) dX1_gather_96 cf_X0 wf_X1_67 sp1 (by decide) (by decide) rfl (by decide) rfl ?_
  obtain ⟨σ7, hc8, h⟩ := bind_of h
  refine ev_invV_n (k := (164 : Int)) (av := [(0, (σ (1 : Int) 12))]) (st := []) (τ := σ7) dX1_gather_99 ml_X1_70 mv_X1_giveOut (T := TX1) (ci := 1) rfl sp164 (by decide) (by decide) rfl ⟨Nat.le_of_ble_eq_true rfl, Nat.le_of_ble_eq_true rfl⟩ (Nat.le_of_ble_eq_true rfl) (c_X1_giveOut hc8) ?_
  refine ev_aload_n dX1_gather_102 rfl (by decide) ?_
  refine ev_aload_n dX1_gather_103 rfl (by decide) ?_
  refine ev_getf (j := 12) (t := 0) (x := (σ7 (1 : Int) 12)) dX1_gather_104 cf_X0 wf_X1_67 sp1 (by decide) (by decide) rfl (by decide) rfl ?_
  obtain ⟨σ9, hc10, h⟩ := bind_of h
  refine ev_invV_n (k := (164 : Int)) (av := [(0, (σ7 (1 : Int) 12))]) (st := []) (τ := σ9) dX1_gather_107 ml_X1_74 mv_X1_countAtOnce (T := TX1) (ci := 1) rfl sp164 (by decide) (by decide) rfl ⟨Nat.le_of_ble_eq_true rfl, Nat.le_of_ble_eq_true rfl⟩ (Nat.le_of_ble_eq_true rfl) (c_X1_countAtOnce hc10) ?_
  obtain rfl := Option.some.inj h
  exact ev_vret dX1_gather_110 rfl rfl
set_option maxHeartbeats 4000000 in
set_option maxRecDepth 20000 in
theorem b_X1_gather_27  {r : Option V × Mem × Mem} : ∀ a x, f_X1_gather_27B  a = some x → K_X1_gather_27  r x → K_X1_gather_27  r (.inl a) := by
  intro a x h K
  obtain ⟨x3, σ⟩ := a
  have h : f_X1_gather_27C  x3 σ = some x := h
  unfold f_X1_gather_27C at h
  show Ev M_X1_gather 181 181 r 27 181 rho σ [(2, (164 : Int)), (2, (1 : Int)), (2, (43 : Int)), (0, x3), (9, 0), (9, 0)] []
  refine ev_iload_n dX1_gather_27 rfl ?_
  refine ev_iconst dX1_gather_28 (by decide) ?_
  refine ev_icmp_ge (tgt := 94) dX1_gather_29 rfl h (fun cb h => ?_) (fun cb h => ?_)
  · obtain rfl := Option.some.inj h
    exact ev_sub (L2 := [(2, (164 : Int)), (2, (1 : Int)), (9, 0), (9, 0), (9, 0), (9, 0)]) K ⟨.inr rfl, .inr rfl, .inl rfl, .inl rfl, .inl rfl, .inl rfl, trivial⟩
  refine ev_iconst dX1_gather_32 (by decide) ?_
  refine ev_istore dX1_gather_33 rfl (by decide) ?_
  show Ev _ _ _ _ 35 _ _ _ [(2, (164 : Int)), (2, (1 : Int)), (2, (43 : Int)), (0, x3), (0, (0 : Int)), (9, 0)] _
  exact ev_sub (L2 := [(2, (164 : Int)), (2, (1 : Int)), (2, (43 : Int)), (0, x3), (0, (0 : Int)), (9, 0)]) (e_X1_gather_35 σ x3 (0 : Int) h K) ⟨.inr rfl, .inr rfl, .inr rfl, .inr rfl, .inr rfl, .inl rfl, trivial⟩
set_option maxHeartbeats 4000000 in
set_option maxRecDepth 20000 in
theorem e_X1_gather_27 (σ : Mem) (x3 : Int)  {q : Mem} (h : f_X1_gather_27 σ x3 = some q) : Ev M_X1_gather 181 181 (none, rho, q) 27 181 rho σ [(2, (164 : Int)), (2, (1 : Int)), (2, (43 : Int)), (0, x3), (9, 0), (9, 0)] [] := by
  unfold f_X1_gather_27 at h
  obtain ⟨e, hl, h⟩ := bind_of h
  refine loop_ev (K := K_X1_gather_27  (none, rho, q)) (b_X1_gather_27 ) FU (x3, σ) e hl ?_
  show Ev M_X1_gather 181 181 _ 94 181 rho e [(2, (164 : Int)), (2, (1 : Int)), (9, 0), (9, 0), (9, 0), (9, 0)] []
  replace h : f_X1_gather_94 e = some q := h
  exact ev_sub (L2 := [(2, (164 : Int)), (2, (1 : Int)), (9, 0), (9, 0), (9, 0), (9, 0)]) (e_X1_gather_94 e h) ⟨.inr rfl, .inr rfl, .inl rfl, .inl rfl, .inl rfl, .inl rfl, trivial⟩
set_option maxHeartbeats 4000000 in
set_option maxRecDepth 20000 in
theorem c_X1_gather {σ : Mem}  {q : Mem} (h : f_X1_gather σ  = some q) : Ms yX1_gather M_X1_gather 181 181 [(2, (164 : Int)), (2, (1 : Int)), (2, (43 : Int))] rho σ (none, rho, q) := by
  refine Ms.of 3 (by decide +kernel) rfl (fun z => absurd z (by decide)) (fun _ _ _ => trivial) rfl rfl ?_
  unfold f_X1_gather at h
  show Ev M_X1_gather 181 181 _ 0 181 rho σ [(2, (164 : Int)), (2, (1 : Int)), (2, (43 : Int)), (9, 0), (9, 0), (9, 0)] []
  refine ev_aload_n dX1_gather_0 rfl (by decide) ?_
  refine ev_getf (j := 9) (t := 0) (x := (σ (164 : Int) 9)) dX1_gather_1 cf_X1 wf_X1_40 sp164 (by decide) (by decide) rfl (by decide) rfl ?_
  refine ev_aload_n dX1_gather_4 rfl (by decide) ?_
  obtain ⟨v1, hc2, h⟩ := bind_of h
  refine ev_invV_v (k := (43 : Int)) (av := []) (st := [(0, (σ (164 : Int) 9))]) (v := (0, v1)) (τ := σ) dX1_gather_5 ml_X1_43 mv_X9_edition (T := TX9) (ci := 8) rfl sp43 (by decide) (by decide) rfl ⟨Nat.le_of_ble_eq_true rfl, Nat.le_of_ble_eq_true rfl⟩ (Nat.le_of_ble_eq_true rfl) (c_X9_edition hc2) ?_
  refine ev_icmp_ne (tgt := 12) dX1_gather_8 rfl h (fun cb h => ?_) (fun cb h => ?_)
  · refine ev_aload_n dX1_gather_12 rfl (by decide) ?_
    refine ev_aload_n dX1_gather_13 rfl (by decide) ?_
    obtain ⟨v3, hc4, h⟩ := bind_of h
    refine ev_invV_v (k := (43 : Int)) (av := []) (st := [(2, (164 : Int))]) (v := (0, v3)) (τ := σ) dX1_gather_14 ml_X1_43 mv_X9_edition (T := TX9) (ci := 8) rfl sp43 (by decide) (by decide) rfl ⟨Nat.le_of_ble_eq_true rfl, Nat.le_of_ble_eq_true rfl⟩ (Nat.le_of_ble_eq_true rfl) (c_X9_edition hc4) ?_
    refine ev_putfG (j := 9) (t := 0) dX1_gather_17 cf_X1 wf_X1_40 sp164 (by decide) (by decide) rfl (by decide) (by decide) rfl (fun z => absurd z (by decide +kernel)) h (fun σ5 h => ?_)
    refine ev_aload_n dX1_gather_20 rfl (by decide) ?_
    refine ev_iconst dX1_gather_21 (by decide) ?_
    refine ev_putfG (j := 6) (t := 0) dX1_gather_22 cf_X1 wf_X1_30 sp164 (by decide) (by decide) rfl (by decide) (by decide) rfl (fun z => absurd z (by decide +kernel)) h (fun σ6 h => ?_)
    refine ev_iconst dX1_gather_25 (by decide) ?_
    refine ev_istore_n dX1_gather_26 rfl (by decide) ?_
    show Ev _ _ _ _ 27 _ _ _ [(2, (164 : Int)), (2, (1 : Int)), (2, (43 : Int)), (0, (0 : Int)), (9, 0), (9, 0)] _
    exact ev_sub (L2 := [(2, (164 : Int)), (2, (1 : Int)), (2, (43 : Int)), (0, (0 : Int)), (9, 0), (9, 0)]) (e_X1_gather_27 σ6 (0 : Int) h) ⟨.inr rfl, .inr rfl, .inr rfl, .inr rfl, .inl rfl, .inl rfl, trivial⟩
  obtain rfl := Option.some.inj h
  exact ev_vret dX1_gather_11 rfl rfl
set_option maxHeartbeats 4000000 in
set_option maxRecDepth 20000 in
theorem c_X2_isKind {σ : Mem} {x0 : Int}  {q : Int} (h : f_X2_isKind σ x0 = some q) : Ms yX2_isKind M_X2_isKind 181 181 [(0, x0)] rho σ (some (0, q), rho, σ) := by
  refine Ms.of 0 (by decide +kernel) rfl (fun z => absurd z (by decide)) (fun _ _ _ => trivial) rfl rfl ?_
  unfold f_X2_isKind at h
  show Ev M_X2_isKind 181 181 _ 0 181 rho σ [(0, x0)] []
  refine ev_iload_n dX2_isKind_0 rfl ?_
  refine ev_if_lt (tgt := 14) dX2_isKind_1 rfl h (fun cb h => ?_) (fun cb h => ?_)
  · refine ev_iconst dX2_isKind_14 (by decide) ?_
    obtain rfl := Option.some.inj h
    exact ev_zret dX2_isKind_15 rfl (chk_pos (.inl rfl))
  refine ev_iload_n dX2_isKind_4 rfl ?_
  refine ev_bipush dX2_isKind_5 (by decide) (by decide) ?_
  refine ev_icmp_ge (tgt := 14) dX2_isKind_7 rfl h (fun cb h => ?_) (fun cb h => ?_)
  · refine ev_iconst dX2_isKind_14 (by decide) ?_
    obtain rfl := Option.some.inj h
    exact ev_zret dX2_isKind_15 rfl (chk_pos (.inl rfl))
  refine ev_iconst dX2_isKind_10 (by decide) ?_
  refine ev_goto (tgt := 15) dX2_isKind_11 rfl ?_
  obtain rfl := Option.some.inj h
  exact ev_zret dX2_isKind_15 rfl (chk_pos (.inr rfl))
set_option maxHeartbeats 4000000 in
set_option maxRecDepth 20000 in
theorem c_X3_lawfulOnes {σ : Mem}  {q : Int} (h : f_X3_lawfulOnes σ  = some q) : Ms yX3_lawfulOnes M_X3_lawfulOnes 181 181 [(2, (36 : Int))] rho σ (some (0, q), rho, σ) := by
  refine Ms.of 0 (by decide +kernel) rfl (fun z => absurd z (by decide)) (fun _ _ _ => trivial) rfl rfl ?_
  unfold f_X3_lawfulOnes at h
  show Ev M_X3_lawfulOnes 181 181 _ 0 181 rho σ [(2, (36 : Int))] []
  refine ev_aload_n dX3_lawfulOnes_0 rfl (by decide) ?_
  refine ev_getf (j := 12) (t := 0) (x := (σ (36 : Int) 12)) dX3_lawfulOnes_1 cf_X3 wf_X3_34 sp36 (by decide) (by decide) rfl (by decide) rfl ?_
  obtain rfl := Option.some.inj h
  exact ev_iret dX3_lawfulOnes_4 rfl rfl
def K_X4_planWeek_3 (x1 x2 x3 : Int) (r : Option V × Mem × Mem) : (Int × Mem) ⊕ ((Mem)) → Prop := Sum.elim (fun a => Ev M_X4_planWeek 181 181 r 3 181 rho a.2 [(2, (35 : Int)), (2, x1), (0, x2), (2, x3), (0, a.1)] []) (fun e => Ev M_X4_planWeek 181 181 r 24 181 rho e [(9, 0), (9, 0), (9, 0), (9, 0), (9, 0)] [])
set_option maxHeartbeats 4000000 in
set_option maxRecDepth 20000 in
theorem b_X4_planWeek_3 (x1 x2 x3 : Int) (hx1 : isB x1) (hx3 : isW x3) {r : Option V × Mem × Mem} : ∀ a x, f_X4_planWeek_3B x1 x2 x3 a = some x → K_X4_planWeek_3 x1 x2 x3 r x → K_X4_planWeek_3 x1 x2 x3 r (.inl a) := by
  intro a x h K
  obtain ⟨x4, σ⟩ := a
  have h : f_X4_planWeek_3C x1 x2 x3 x4 σ = some x := h
  unfold f_X4_planWeek_3C at h
  show Ev M_X4_planWeek 181 181 r 3 181 rho σ [(2, (35 : Int)), (2, x1), (0, x2), (2, x3), (0, x4)] []
  refine ev_iload dX4_planWeek_3 rfl ?_
  refine ev_iconst dX4_planWeek_5 (by decide) ?_
  refine ev_icmp_ge (tgt := 24) dX4_planWeek_6 rfl h (fun cb h => ?_) (fun cb h => ?_)
  · obtain rfl := Option.some.inj h
    exact ev_sub (L2 := [(9, 0), (9, 0), (9, 0), (9, 0), (9, 0)]) K ⟨.inl rfl, .inl rfl, .inl rfl, .inl rfl, .inl rfl, trivial⟩
  refine ev_aload_n dX4_planWeek_9 rfl (by decide) ?_
  refine ev_aload_n dX4_planWeek_10 rfl (pB hx1).1 ?_
  refine ev_iload_n dX4_planWeek_11 rfl ?_
  refine ev_iload dX4_planWeek_12 rfl ?_
  refine ev_aload_n dX4_planWeek_14 rfl (pW hx3).1 ?_
  obtain ⟨σ1, hc2, h⟩ := bind_of h
  refine ev_invV_n (k := (35 : Int)) (av := [(2, x1), (0, x2), (0, x4), (2, x3)]) (st := []) (τ := σ1) dX4_planWeek_15 ml_X4_18 mv_X4_planDay (T := TX4) (ci := 3) rfl sp35 (by decide) (by decide) rfl ⟨Nat.le_of_ble_eq_true rfl, Nat.le_of_ble_eq_true rfl⟩ (Nat.le_of_ble_eq_true rfl) (c_X4_planDay hx1 hx3 hc2) ?_
  refine ev_iincG dX4_planWeek_18 rfl h rfl (fun v3 h => ?_)
  show Ev _ _ _ _ 21 _ _ _ [(2, (35 : Int)), (2, x1), (0, x2), (2, x3), (0, v3)] _
  refine ev_goto (tgt := 3) dX4_planWeek_21 rfl ?_
  obtain rfl := Option.some.inj h
  exact ev_sub (L2 := [(2, (35 : Int)), (2, x1), (0, x2), (2, x3), (0, v3)]) K ⟨.inr rfl, .inr rfl, .inr rfl, .inr rfl, .inr rfl, trivial⟩
set_option maxHeartbeats 4000000 in
set_option maxRecDepth 20000 in
theorem e_X4_planWeek_3 (σ : Mem) (x1 x2 x3 x4 : Int) (hx1 : isB x1) (hx3 : isW x3) {q : Mem} (h : f_X4_planWeek_3 σ x1 x2 x3 x4 = some q) : Ev M_X4_planWeek 181 181 (none, rho, q) 3 181 rho σ [(2, (35 : Int)), (2, x1), (0, x2), (2, x3), (0, x4)] [] := by
  unfold f_X4_planWeek_3 at h
  obtain ⟨e, hl, h⟩ := bind_of h
  refine loop_ev (K := K_X4_planWeek_3 x1 x2 x3 (none, rho, q)) (b_X4_planWeek_3 x1 x2 x3 hx1 hx3) FU (x4, σ) e hl ?_
  show Ev M_X4_planWeek 181 181 _ 24 181 rho e [(9, 0), (9, 0), (9, 0), (9, 0), (9, 0)] []
  replace h : some e = some q := h
  obtain rfl := Option.some.inj h
  exact ev_vret dX4_planWeek_24 rfl rfl
set_option maxHeartbeats 4000000 in
set_option maxRecDepth 20000 in
theorem c_X4_planWeek {σ : Mem} {x1 x2 x3 : Int} (hx1 : isB x1) (hx3 : isW x3) {q : Mem} (h : f_X4_planWeek σ x1 x2 x3 = some q) : Ms yX4_planWeek M_X4_planWeek 181 181 [(2, (35 : Int)), (2, x1), (0, x2), (2, x3)] rho σ (none, rho, q) := by
  refine Ms.of 1 (by decide +kernel) rfl (fun z => absurd z (by decide)) (fun _ _ _ => trivial) rfl rfl ?_
  unfold f_X4_planWeek at h
  show Ev M_X4_planWeek 181 181 _ 0 181 rho σ [(2, (35 : Int)), (2, x1), (0, x2), (2, x3), (9, 0)] []
  refine ev_iconst dX4_planWeek_0 (by decide) ?_
  refine ev_istore dX4_planWeek_1 rfl (by decide) ?_
  show Ev _ _ _ _ 3 _ _ _ [(2, (35 : Int)), (2, x1), (0, x2), (2, x3), (0, (0 : Int))] _
  exact ev_sub (L2 := [(2, (35 : Int)), (2, x1), (0, x2), (2, x3), (0, (0 : Int))]) (e_X4_planWeek_3 σ x1 x2 x3 (0 : Int) hx1 hx3 h) ⟨.inr rfl, .inr rfl, .inr rfl, .inr rfl, .inr rfl, trivial⟩
def K_X4_replan_6 (x1 x2 x4 : Int) (r : Option V × Mem × Mem) : (Int × Int × Mem) ⊕ ((Mem)) → Prop := Sum.elim (fun a => Ev M_X4_replan 181 181 r 6 181 rho a.2.2 [(2, (35 : Int)), (2, x1), (0, x2), (9, 0), (2, x4), (0, a.1), (0, a.2.1), (9, 0)] []) (fun e => Ev M_X4_replan 181 181 r 63 181 rho e [(9, 0), (9, 0), (9, 0), (9, 0), (9, 0), (9, 0), (9, 0), (9, 0)] [])
set_option maxHeartbeats 4000000 in
set_option maxRecDepth 20000 in
theorem e_X4_replan_55 (σ : Mem) (x1 x2 x4 x6 s0 : Int) (hx1 : isB x1) (hx4 : isW x4) {q : ((Int × Int × Mem) ⊕ ((Mem)))} (h : f_X4_replan_55 σ x1 x2 x4 x6 s0 = some q) {r : Option V × Mem × Mem} (K : K_X4_replan_6 x1 x2 x4 r q) : Ev M_X4_replan 181 181 r 55 181 rho σ [(2, (35 : Int)), (2, x1), (0, x2), (9, 0), (2, x4), (9, 0), (0, x6), (9, 0)] [(0, s0)] := by
  unfold f_X4_replan_55 at h
  refine ev_istore dX4_replan_55 rfl (by decide) ?_
  show Ev _ _ _ _ 57 _ _ _ [(2, (35 : Int)), (2, x1), (0, x2), (9, 0), (2, x4), (0, s0), (0, x6), (9, 0)] _
  refine ev_iincG dX4_replan_57 rfl h rfl (fun v4 h => ?_)
  show Ev _ _ _ _ 60 _ _ _ [(2, (35 : Int)), (2, x1), (0, x2), (9, 0), (2, x4), (0, s0), (0, v4), (9, 0)] _
  refine ev_goto (tgt := 6) dX4_replan_60 rfl ?_
  obtain rfl := Option.some.inj h
  exact ev_sub (L2 := [(2, (35 : Int)), (2, x1), (0, x2), (9, 0), (2, x4), (0, s0), (0, v4), (9, 0)]) K ⟨.inr rfl, .inr rfl, .inr rfl, .inl rfl, .inr rfl, .inr rfl, .inr rfl, .inl rfl, trivial⟩
set_option maxHeartbeats 4000000 in
set_option maxRecDepth 20000 in
theorem b_X4_replan_6 (x1 x2 x4 : Int) (hx1 : isB x1) (hx4 : isW x4) {r : Option V × Mem × Mem} : ∀ a x, f_X4_replan_6B x1 x2 x4 a = some x → K_X4_replan_6 x1 x2 x4 r x → K_X4_replan_6 x1 x2 x4 r (.inl a) := by
  intro a x h K
  obtain ⟨x5, x6, σ⟩ := a
  have h : f_X4_replan_6C x1 x2 x4 x5 x6 σ = some x := h
  unfold f_X4_replan_6C at h
  show Ev M_X4_replan 181 181 r 6 181 rho σ [(2, (35 : Int)), (2, x1), (0, x2), (9, 0), (2, x4), (0, x5), (0, x6), (9, 0)] []
  refine ev_iload dX4_replan_6 rfl ?_
  refine ev_iconst dX4_replan_8 (by decide) ?_
  refine ev_icmp_ge (tgt := 63) dX4_replan_9 rfl h (fun cb h => ?_) (fun cb h => ?_)
  · obtain rfl := Option.some.inj h
    exact ev_sub (L2 := [(9, 0), (9, 0), (9, 0), (9, 0), (9, 0), (9, 0), (9, 0), (9, 0)]) K ⟨.inl rfl, .inl rfl, .inl rfl, .inl rfl, .inl rfl, .inl rfl, .inl rfl, .inl rfl, trivial⟩
  refine ev_iload dX4_replan_12 rfl ?_
  refine ev_if_ne (tgt := 63) dX4_replan_14 rfl h (fun cb h => ?_) (fun cb h => ?_)
  · obtain rfl := Option.some.inj h
    exact ev_sub (L2 := [(9, 0), (9, 0), (9, 0), (9, 0), (9, 0), (9, 0), (9, 0), (9, 0)]) K ⟨.inl rfl, .inl rfl, .inl rfl, .inl rfl, .inl rfl, .inl rfl, .inl rfl, .inl rfl, trivial⟩
  refine ev_aload dX4_replan_17 rfl (pW hx4).1 ?_
  refine ev_getf (j := 1) (t := 2) (x := (x4 + 2)) dX4_replan_19 cf_X8 wf_X4_22 (sW hx4) (pW hx4).1 (pW hx4).2 rfl (by decide) (rW1 _ hx4) ?_
  refine ev_iload dX4_replan_22 rfl ?_
  refine ev_iald dX4_replan_24 (sW1 hx4) (pW1 hx4).1 (pW1 hx4).2 h (fun h => ?_)
  refine ev_istoreG dX4_replan_25 h rfl (by decide) (fun v1 h => ?_)
  show Ev _ _ _ _ 27 _ _ _ [(2, (35 : Int)), (2, x1), (0, x2), (9, 0), (2, x4), (0, x5), (0, x6), (0, v1)] _
  refine ev_aload_n dX4_replan_27 rfl (by decide) ?_
  refine ev_aload_n dX4_replan_28 rfl (pB hx1).1 ?_
  refine ev_iload_n dX4_replan_29 rfl ?_
  refine ev_iload dX4_replan_30 rfl ?_
  refine ev_aload dX4_replan_32 rfl (pW hx4).1 ?_
  obtain ⟨σ2, hc3, h⟩ := bind_of h
  refine ev_invV_n (k := (35 : Int)) (av := [(2, x1), (0, x2), (0, x6), (2, x4)]) (st := []) (τ := σ2) dX4_replan_34 ml_X4_18 mv_X4_planDay (T := TX4) (ci := 3) rfl sp35 (by decide) (by decide) rfl ⟨Nat.le_of_ble_eq_true rfl, Nat.le_of_ble_eq_true rfl⟩ (Nat.le_of_ble_eq_true rfl) (c_X4_planDay hx1 hx4 hc3) ?_
  show Ev _ _ _ _ 37 _ _ _ _ _
  refine ev_aload dX4_replan_37 rfl (pW hx4).1 ?_
  refine ev_getf (j := 1) (t := 2) (x := (x4 + 2)) dX4_replan_39 cf_X8 wf_X4_22 (sW hx4) (pW hx4).1 (pW hx4).2 rfl (by decide) (rW1 _ hx4) ?_
  refine ev_iload dX4_replan_42 rfl ?_
  refine ev_iald dX4_replan_44 (sW1 hx4) (pW1 hx4).1 (pW1 hx4).2 h (fun h => ?_)
  refine ev_iload dX4_replan_45 rfl ?_
  refine ev_icmp_ne (tgt := 54) dX4_replan_47 rfl h (fun cb h => ?_) (fun cb h => ?_)
  · refine ev_iconst dX4_replan_54 (by decide) ?_
    exact ev_sub (L2 := [(2, (35 : Int)), (2, x1), (0, x2), (9, 0), (2, x4), (9, 0), (0, x6), (9, 0)]) (e_X4_replan_55 σ2 x1 x2 x4 x6 (0 : Int) hx1 hx4 h K) ⟨.inr rfl, .inr rfl, .inr rfl, .inl rfl, .inr rfl, .inl rfl, .inr rfl, .inl rfl, trivial⟩
  refine ev_iconst dX4_replan_50 (by decide) ?_
  refine ev_goto (tgt := 55) dX4_replan_51 rfl ?_
  exact ev_sub (L2 := [(2, (35 : Int)), (2, x1), (0, x2), (9, 0), (2, x4), (9, 0), (0, x6), (9, 0)]) (e_X4_replan_55 σ2 x1 x2 x4 x6 (1 : Int) hx1 hx4 h K) ⟨.inr rfl, .inr rfl, .inr rfl, .inl rfl, .inr rfl, .inl rfl, .inr rfl, .inl rfl, trivial⟩
set_option maxHeartbeats 4000000 in
set_option maxRecDepth 20000 in
theorem e_X4_replan_6 (σ : Mem) (x1 x2 x4 x5 x6 : Int) (hx1 : isB x1) (hx4 : isW x4) {q : Mem} (h : f_X4_replan_6 σ x1 x2 x4 x5 x6 = some q) : Ev M_X4_replan 181 181 (none, rho, q) 6 181 rho σ [(2, (35 : Int)), (2, x1), (0, x2), (9, 0), (2, x4), (0, x5), (0, x6), (9, 0)] [] := by
  unfold f_X4_replan_6 at h
  obtain ⟨e, hl, h⟩ := bind_of h
  refine loop_ev (K := K_X4_replan_6 x1 x2 x4 (none, rho, q)) (b_X4_replan_6 x1 x2 x4 hx1 hx4) FU (x5, x6, σ) e hl ?_
  show Ev M_X4_replan 181 181 _ 63 181 rho e [(9, 0), (9, 0), (9, 0), (9, 0), (9, 0), (9, 0), (9, 0), (9, 0)] []
  replace h : some e = some q := h
  obtain rfl := Option.some.inj h
  exact ev_vret dX4_replan_63 rfl rfl
set_option maxHeartbeats 4000000 in
set_option maxRecDepth 20000 in
theorem c_X4_replan {σ : Mem} {x1 x2 x3 x4 : Int} (hx1 : isB x1) (hx4 : isW x4) {q : Mem} (h : f_X4_replan σ x1 x2 x3 x4 = some q) : Ms yX4_replan M_X4_replan 181 181 [(2, (35 : Int)), (2, x1), (0, x2), (0, x3), (2, x4)] rho σ (none, rho, q) := by
  refine Ms.of 3 (by decide +kernel) rfl (fun z => absurd z (by decide)) (fun _ _ _ => trivial) rfl rfl ?_
  unfold f_X4_replan at h
  show Ev M_X4_replan 181 181 _ 0 181 rho σ [(2, (35 : Int)), (2, x1), (0, x2), (0, x3), (2, x4), (9, 0), (9, 0), (9, 0)] []
  refine ev_iconst dX4_replan_0 (by decide) ?_
  refine ev_istore dX4_replan_1 rfl (by decide) ?_
  show Ev _ _ _ _ 3 _ _ _ [(2, (35 : Int)), (2, x1), (0, x2), (0, x3), (2, x4), (0, (0 : Int)), (9, 0), (9, 0)] _
  refine ev_iload_n dX4_replan_3 rfl ?_
  refine ev_istore dX4_replan_4 rfl (by decide) ?_
  show Ev _ _ _ _ 6 _ _ _ [(2, (35 : Int)), (2, x1), (0, x2), (0, x3), (2, x4), (0, (0 : Int)), (0, x3), (9, 0)] _
  exact ev_sub (L2 := [(2, (35 : Int)), (2, x1), (0, x2), (9, 0), (2, x4), (0, (0 : Int)), (0, x3), (9, 0)]) (e_X4_replan_6 σ x1 x2 x4 (0 : Int) x3 hx1 hx4 h) ⟨.inr rfl, .inr rfl, .inr rfl, .inl rfl, .inr rfl, .inr rfl, .inr rfl, .inl rfl, trivial⟩
set_option maxHeartbeats 4000000 in
set_option maxRecDepth 20000 in
theorem c_X4_ordersOf {σ : Mem} {x1 x2 x3 x4 : Int} (hx1 : isB x1) (hx4 : isW x4) {q : Mem} (h : f_X4_ordersOf σ x1 x2 x3 x4 = some q) : Ms yX4_ordersOf M_X4_ordersOf 181 181 [(2, (35 : Int)), (2, x1), (0, x2), (0, x3), (2, x4)] rho σ (some (2, (36 : Int)), rho, q) := by
  refine Ms.of 1 (by decide +kernel) rfl (fun z => absurd z (by decide)) (fun _ _ _ => trivial) rfl rfl ?_
  unfold f_X4_ordersOf at h
  show Ev M_X4_ordersOf 181 181 _ 0 181 rho σ [(2, (35 : Int)), (2, x1), (0, x2), (0, x3), (2, x4), (9, 0)] []
  refine ev_aload_n dX4_ordersOf_0 rfl (pB hx1).1 ?_
  refine ev_getf (j := 6) (t := 2) (x := (x1 + 7)) dX4_ordersOf_1 cf_X0 wf_X4_45 (sB hx1) (pB hx1).1 (pB hx1).2 rfl (by decide) (rB6 _ hx1) ?_
  refine ev_iload_n dX4_ordersOf_4 rfl ?_
  refine ev_iald dX4_ordersOf_5 (sB6 hx1) (pB6 hx1).1 (pB6 hx1).2 h (fun h => ?_)
  refine ev_aload_n dX4_ordersOf_6 rfl (pB hx1).1 ?_
  refine ev_iload_n dX4_ordersOf_7 rfl ?_
  obtain ⟨v1, hc2, h⟩ := bind_of h
  refine ev_invV_v (k := x1) (av := [(0, x3)]) (st := [(0, (σ (x1 + 7) x2))]) (v := (0, v1)) (τ := σ) dX4_ordersOf_8 ml_X4_48 mv_X0_papersOf (T := TX0) (ci := 0) rfl (sB hx1) (pB hx1).1 (pB hx1).2 rfl ⟨Nat.le_of_ble_eq_true rfl, Nat.le_of_ble_eq_true rfl⟩ (Nat.le_of_ble_eq_true rfl) (c_X0_papersOf hx1 hc2) ?_
  refine ev_iand dX4_ordersOf_11 ?_
  refine ev_istoreG dX4_ordersOf_12 h rfl (by decide) (fun v3 h => ?_)
  show Ev _ _ _ _ 14 _ _ _ [(2, (35 : Int)), (2, x1), (0, x2), (0, x3), (2, x4), (0, v3)] _
  refine ev_aload_n dX4_ordersOf_14 rfl (by decide) ?_
  refine ev_getf (j := 0) (t := 2) (x := (36 : Int)) dX4_ordersOf_15 cf_X4 wf_X4_12 sp35 (by decide) (by decide) rfl (by decide) (rp35_0 _) ?_
  show Ev _ _ _ _ 18 _ _ _ _ _
  refine ev_aload_n dX4_ordersOf_18 rfl (pB hx1).1 ?_
  refine ev_iload_n dX4_ordersOf_19 rfl ?_
  refine ev_iload dX4_ordersOf_20 rfl ?_
  refine ev_aload dX4_ordersOf_22 rfl (pW hx4).1 ?_
  refine ev_getf (j := 2) (t := 2) (x := (x4 + 3)) dX4_ordersOf_24 cf_X8 wf_X4_97 (sW hx4) (pW hx4).1 (pW hx4).2 rfl (by decide) (rW2 _ hx4) ?_
  refine ev_iload_n dX4_ordersOf_27 rfl ?_
  refine ev_iald dX4_ordersOf_28 (sW2 hx4) (pW2 hx4).1 (pW2 hx4).2 h (fun h => ?_)
  refine ev_aload dX4_ordersOf_29 rfl (pW hx4).1 ?_
  refine ev_getf (j := 3) (t := 2) (x := (x4 + 4)) dX4_ordersOf_31 cf_X8 wf_X4_100 (sW hx4) (pW hx4).1 (pW hx4).2 rfl (by decide) (rW3 _ hx4) ?_
  refine ev_iload_n dX4_ordersOf_34 rfl ?_
  refine ev_iald dX4_ordersOf_35 (sW3 hx4) (pW3 hx4).1 (pW3 hx4).2 h (fun h => ?_)
  obtain ⟨σ4, hc5, h⟩ := bind_of h
  refine ev_invV_n (k := (36 : Int)) (av := [(2, x1), (0, x2), (0, v3), (0, (σ (x4 + 3) x3)), (0, (σ (x4 + 4) x3))]) (st := []) (τ := σ4) dX4_ordersOf_36 ml_X4_51 mv_X3_gather (T := TX3) (ci := 2) rfl sp36 (by decide) (by decide) rfl ⟨Nat.le_of_ble_eq_true rfl, Nat.le_of_ble_eq_true rfl⟩ (Nat.le_of_ble_eq_true rfl) (c_X3_gather hx1 hc5) ?_
  show Ev _ _ _ _ 39 _ _ _ _ _
  refine ev_aload_n dX4_ordersOf_39 rfl (by decide) ?_
  refine ev_getf (j := 0) (t := 2) (x := (36 : Int)) dX4_ordersOf_40 cf_X4 wf_X4_12 sp35 (by decide) (by decide) rfl (by decide) (rp35_0 _) ?_
  obtain rfl := Option.some.inj h
  exact ev_aret (cn := "ClashDays$Orders") dX4_ordersOf_43 rfl rfl
def K_X4_clash_23 (x1 x2 x3 x4 x5 : Int) (r : Option V × Mem × Mem) : (Int × Int × Int × Mem) ⊕ ((Int × Mem)) → Prop := Sum.elim (fun a => Ev M_X4_clash 181 181 r 23 181 rho a.2.2.2 [(2, (35 : Int)), (2, x1), (0, x2), (0, x3), (2, x4), (0, x5), (0, a.1), (0, a.2.1), (0, a.2.2.1)] []) (fun e => Ev M_X4_clash 181 181 r 104 181 rho e.2 [(9, 0), (9, 0), (9, 0), (9, 0), (9, 0), (9, 0), (0, e.1), (9, 0), (9, 0)] [])
set_option maxHeartbeats 4000000 in
set_option maxRecDepth 20000 in
theorem e_X4_clash_98 (σ : Mem) (x1 x2 x3 x4 x5 x6 x7 x8 : Int) (hx1 : isB x1) (hx4 : isW x4) {q : ((Int × Int × Int × Mem) ⊕ ((Int × Mem)))} (h : f_X4_clash_98 σ x1 x2 x3 x4 x5 x6 x7 x8 = some q) {r : Option V × Mem × Mem} (K : K_X4_clash_23 x1 x2 x3 x4 x5 r q) : Ev M_X4_clash 181 181 r 98 181 rho σ [(2, (35 : Int)), (2, x1), (0, x2), (0, x3), (2, x4), (0, x5), (0, x6), (0, x7), (0, x8)] [] := by
  unfold f_X4_clash_98 at h
  refine ev_iincG dX4_clash_98 rfl h rfl (fun v12 h => ?_)
  show Ev _ _ _ _ 101 _ _ _ [(2, (35 : Int)), (2, x1), (0, x2), (0, x3), (2, x4), (0, x5), (0, x6), (0, x7), (0, v12)] _
  refine ev_goto (tgt := 23) dX4_clash_101 rfl ?_
  obtain rfl := Option.some.inj h
  exact ev_sub (L2 := [(2, (35 : Int)), (2, x1), (0, x2), (0, x3), (2, x4), (0, x5), (0, x6), (0, x7), (0, v12)]) K ⟨.inr rfl, .inr rfl, .inr rfl, .inr rfl, .inr rfl, .inr rfl, .inr rfl, .inr rfl, .inr rfl, trivial⟩
set_option maxHeartbeats 4000000 in
set_option maxRecDepth 20000 in
theorem b_X4_clash_23 (x1 x2 x3 x4 x5 : Int) (hx1 : isB x1) (hx4 : isW x4) {r : Option V × Mem × Mem} : ∀ a x, f_X4_clash_23B x1 x2 x3 x4 x5 a = some x → K_X4_clash_23 x1 x2 x3 x4 x5 r x → K_X4_clash_23 x1 x2 x3 x4 x5 r (.inl a) := by
  intro a x h K
  obtain ⟨x6, x7, x8, σ⟩ := a
  have h : f_X4_clash_23C x1 x2 x3 x4 x5 x6 x7 x8 σ = some x := h
  unfold f_X4_clash_23C at h
  show Ev M_X4_clash 181 181 r 23 181 rho σ [(2, (35 : Int)), (2, x1), (0, x2), (0, x3), (2, x4), (0, x5), (0, x6), (0, x7), (0, x8)] []
  refine ev_iload dX4_clash_23 rfl ?_
  refine ev_iload dX4_clash_25 rfl ?_
  refine ev_icmp_gt (tgt := 104) dX4_clash_27 rfl h (fun cb h => ?_) (fun cb h => ?_)
  · obtain rfl := Option.some.inj h
    exact ev_sub (L2 := [(9, 0), (9, 0), (9, 0), (9, 0), (9, 0), (9, 0), (0, x6), (9, 0), (9, 0)]) K ⟨.inl rfl, .inl rfl, .inl rfl, .inl rfl, .inl rfl, .inl rfl, .inr rfl, .inl rfl, .inl rfl, trivial⟩
  refine ev_iload dX4_clash_30 rfl ?_
  refine ev_iload dX4_clash_32 rfl ?_
  refine ev_iconst dX4_clash_34 (by decide) ?_
  refine ev_ixor dX4_clash_35 ?_
  refine ev_iand dX4_clash_36 ?_
  refine ev_if_ne (tgt := 98) dX4_clash_37 rfl h (fun cb h => ?_) (fun cb h => ?_)
  · exact ev_sub (L2 := [(2, (35 : Int)), (2, x1), (0, x2), (0, x3), (2, x4), (0, x5), (0, x6), (0, x7), (0, x8)]) (e_X4_clash_98 σ x1 x2 x3 x4 x5 x6 x7 x8 hx1 hx4 h K) ⟨.inr rfl, .inr rfl, .inr rfl, .inr rfl, .inr rfl, .inr rfl, .inr rfl, .inr rfl, .inr rfl, trivial⟩
  refine ev_iload dX4_clash_40 rfl ?_
  obtain ⟨v4, hc5, h⟩ := bind_of h
  refine ev_invS_v (av := [(0, x8)]) (st := []) (v := (0, v4)) (τ := σ) dX4_clash_42 ml_X4_103 mt_J6_bitCount_0f7a4 rfl ⟨Nat.le_of_ble_eq_true rfl, Nat.le_of_ble_eq_true rfl⟩ (Nat.le_of_ble_eq_true rfl) (c_J6_bitCount_0f7a4 hc5) ?_
  refine ev_iload dX4_clash_45 rfl ?_
  refine ev_icmp_ge (tgt := 98) dX4_clash_47 rfl h (fun cb h => ?_) (fun cb h => ?_)
  · exact ev_sub (L2 := [(2, (35 : Int)), (2, x1), (0, x2), (0, x3), (2, x4), (0, x5), (0, x6), (0, x7), (0, x8)]) (e_X4_clash_98 σ x1 x2 x3 x4 x5 x6 x7 x8 hx1 hx4 h K) ⟨.inr rfl, .inr rfl, .inr rfl, .inr rfl, .inr rfl, .inr rfl, .inr rfl, .inr rfl, .inr rfl, trivial⟩
  refine ev_aload_n dX4_clash_50 rfl (by decide) ?_
  refine ev_getf (j := 0) (t := 2) (x := (36 : Int)) dX4_clash_51 cf_X4 wf_X4_12 sp35 (by decide) (by decide) rfl (by decide) (rp35_0 _) ?_
  refine ev_aload_n dX4_clash_54 rfl (pB hx1).1 ?_
  refine ev_iload_n dX4_clash_55 rfl ?_
  refine ev_iload dX4_clash_56 rfl ?_
  refine ev_aload dX4_clash_58 rfl (pW hx4).1 ?_
  refine ev_getf (j := 2) (t := 2) (x := (x4 + 3)) dX4_clash_60 cf_X8 wf_X4_97 (sW hx4) (pW hx4).1 (pW hx4).2 rfl (by decide) (rW2 _ hx4) ?_
  refine ev_iload_n dX4_clash_63 rfl ?_
  refine ev_iald dX4_clash_64 (sW2 hx4) (pW2 hx4).1 (pW2 hx4).2 h (fun h => ?_)
  refine ev_aload dX4_clash_65 rfl (pW hx4).1 ?_
  refine ev_getf (j := 3) (t := 2) (x := (x4 + 4)) dX4_clash_67 cf_X8 wf_X4_100 (sW hx4) (pW hx4).1 (pW hx4).2 rfl (by decide) (rW3 _ hx4) ?_
  show Ev _ _ _ _ 70 _ _ _ _ _
  refine ev_iload_n dX4_clash_70 rfl ?_
  refine ev_iald dX4_clash_71 (sW3 hx4) (pW3 hx4).1 (pW3 hx4).2 h (fun h => ?_)
  obtain ⟨σ6, hc7, h⟩ := bind_of h
  refine ev_invV_n (k := (36 : Int)) (av := [(2, x1), (0, x2), (0, x8), (0, (σ (x4 + 3) x3)), (0, (σ (x4 + 4) x3))]) (st := []) (τ := σ6) dX4_clash_72 ml_X4_51 mv_X3_gather (T := TX3) (ci := 2) rfl sp36 (by decide) (by decide) rfl ⟨Nat.le_of_ble_eq_true rfl, Nat.le_of_ble_eq_true rfl⟩ (Nat.le_of_ble_eq_true rfl) (c_X3_gather hx1 hc7) ?_
  refine ev_aload_n dX4_clash_75 rfl (by decide) ?_
  refine ev_getf (j := 0) (t := 2) (x := (36 : Int)) dX4_clash_76 cf_X4 wf_X4_12 sp35 (by decide) (by decide) rfl (by decide) (rp35_0 _) ?_
  refine ev_iconst dX4_clash_79 (by decide) ?_
  refine ev_lconst (x := (0 : Int)) dX4_clash_80 (by decide) (by decide) ?_
  obtain ⟨v8, hc9, h⟩ := bind_of h
  refine ev_invV_v (k := (36 : Int)) (av := [(0, (0 : Int)), (1, (0 : Int))]) (st := []) (v := (0, v8.1)) (τ := v8.2) dX4_clash_81 ml_X4_55 mv_X3_search (T := TX3) (ci := 2) rfl sp36 (by decide) (by decide) rfl ⟨Nat.le_of_ble_eq_true rfl, Nat.le_of_ble_eq_true rfl⟩ (Nat.le_of_ble_eq_true rfl) (c_X3_search hc9) ?_
  refine ev_if_ne (tgt := 98) dX4_clash_84 rfl h (fun cb h => ?_) (fun cb h => ?_)
  · exact ev_sub (L2 := [(2, (35 : Int)), (2, x1), (0, x2), (0, x3), (2, x4), (0, x5), (0, x6), (0, x7), (0, x8)]) (e_X4_clash_98 v8.2 x1 x2 x3 x4 x5 x6 x7 x8 hx1 hx4 h K) ⟨.inr rfl, .inr rfl, .inr rfl, .inr rfl, .inr rfl, .inr rfl, .inr rfl, .inr rfl, .inr rfl, trivial⟩
  refine ev_iload dX4_clash_87 rfl ?_
  refine ev_istore dX4_clash_89 rfl (by decide) ?_
  show Ev _ _ _ _ 91 _ _ _ [(2, (35 : Int)), (2, x1), (0, x2), (0, x3), (2, x4), (0, x5), (0, x8), (0, x7), (0, x8)] _
  refine ev_iload dX4_clash_91 rfl ?_
  obtain ⟨v10, hc11, h⟩ := bind_of h
  refine ev_invS_v (av := [(0, x8)]) (st := []) (v := (0, v10)) (τ := v8.2) dX4_clash_93 ml_X4_103 mt_J6_bitCount_0f7a4 rfl ⟨Nat.le_of_ble_eq_true rfl, Nat.le_of_ble_eq_true rfl⟩ (Nat.le_of_ble_eq_true rfl) (c_J6_bitCount_0f7a4 hc11) ?_
  refine ev_istore dX4_clash_96 rfl (by decide) ?_
  show Ev _ _ _ _ 98 _ _ _ [(2, (35 : Int)), (2, x1), (0, x2), (0, x3), (2, x4), (0, x5), (0, x8), (0, v10), (0, x8)] _
  exact ev_sub (L2 := [(2, (35 : Int)), (2, x1), (0, x2), (0, x3), (2, x4), (0, x5), (0, x8), (0, v10), (0, x8)]) (e_X4_clash_98 v8.2 x1 x2 x3 x4 x5 x8 v10 x8 hx1 hx4 h K) ⟨.inr rfl, .inr rfl, .inr rfl, .inr rfl, .inr rfl, .inr rfl, .inr rfl, .inr rfl, .inr rfl, trivial⟩
set_option maxHeartbeats 4000000 in
set_option maxRecDepth 20000 in
theorem e_X4_clash_23 (σ : Mem) (x1 x2 x3 x4 x5 x6 x7 x8 : Int) (hx1 : isB x1) (hx4 : isW x4) {q : (Int × Mem)} (h : f_X4_clash_23 σ x1 x2 x3 x4 x5 x6 x7 x8 = some q) : Ev M_X4_clash 181 181 (some (0, q.1), rho, q.2) 23 181 rho σ [(2, (35 : Int)), (2, x1), (0, x2), (0, x3), (2, x4), (0, x5), (0, x6), (0, x7), (0, x8)] [] := by
  unfold f_X4_clash_23 at h
  obtain ⟨e, hl, h⟩ := bind_of h
  refine loop_ev (K := K_X4_clash_23 x1 x2 x3 x4 x5 (some (0, q.1), rho, q.2)) (b_X4_clash_23 x1 x2 x3 x4 x5 hx1 hx4) FU (x6, x7, x8, σ) e hl ?_
  show Ev M_X4_clash 181 181 _ 104 181 rho e.2 [(9, 0), (9, 0), (9, 0), (9, 0), (9, 0), (9, 0), (0, e.1), (9, 0), (9, 0)] []
  replace h : some (e.1, e.2) = some q := h
  refine ev_iload dX4_clash_104 rfl ?_
  obtain rfl := Option.some.inj h
  dsimp only
  exact ev_iret dX4_clash_106 rfl rfl
set_option maxHeartbeats 4000000 in
set_option maxRecDepth 20000 in
theorem c_X4_clash {σ : Mem} {x1 x2 x3 x4 : Int} (hx1 : isB x1) (hx4 : isW x4) {q : (Int × Mem)} (h : f_X4_clash σ x1 x2 x3 x4 = some q) : Ms yX4_clash M_X4_clash 181 181 [(2, (35 : Int)), (2, x1), (0, x2), (0, x3), (2, x4)] rho σ (some (0, q.1), rho, q.2) := by
  refine Ms.of 4 (by decide +kernel) rfl (fun z => absurd z (by decide)) (fun _ _ _ => trivial) rfl rfl ?_
  unfold f_X4_clash at h
  show Ev M_X4_clash 181 181 _ 0 181 rho σ [(2, (35 : Int)), (2, x1), (0, x2), (0, x3), (2, x4), (9, 0), (9, 0), (9, 0), (9, 0)] []
  refine ev_aload_n dX4_clash_0 rfl (pB hx1).1 ?_
  refine ev_getf (j := 6) (t := 2) (x := (x1 + 7)) dX4_clash_1 cf_X0 wf_X4_45 (sB hx1) (pB hx1).1 (pB hx1).2 rfl (by decide) (rB6 _ hx1) ?_
  refine ev_iload_n dX4_clash_4 rfl ?_
  refine ev_iald dX4_clash_5 (sB6 hx1) (pB6 hx1).1 (pB6 hx1).2 h (fun h => ?_)
  refine ev_aload_n dX4_clash_6 rfl (pB hx1).1 ?_
  refine ev_iload_n dX4_clash_7 rfl ?_
  obtain ⟨v1, hc2, h⟩ := bind_of h
  refine ev_invV_v (k := x1) (av := [(0, x3)]) (st := [(0, (σ (x1 + 7) x2))]) (v := (0, v1)) (τ := σ) dX4_clash_8 ml_X4_48 mv_X0_papersOf (T := TX0) (ci := 0) rfl (sB hx1) (pB hx1).1 (pB hx1).2 rfl ⟨Nat.le_of_ble_eq_true rfl, Nat.le_of_ble_eq_true rfl⟩ (Nat.le_of_ble_eq_true rfl) (c_X0_papersOf hx1 hc2) ?_
  refine ev_iand dX4_clash_11 ?_
  refine ev_istoreG dX4_clash_12 h rfl (by decide) (fun v3 h => ?_)
  show Ev _ _ _ _ 14 _ _ _ [(2, (35 : Int)), (2, x1), (0, x2), (0, x3), (2, x4), (0, v3), (9, 0), (9, 0), (9, 0)] _
  refine ev_iconst dX4_clash_14 (by decide) ?_
  refine ev_istore dX4_clash_15 rfl (by decide) ?_
  show Ev _ _ _ _ 17 _ _ _ [(2, (35 : Int)), (2, x1), (0, x2), (0, x3), (2, x4), (0, v3), (0, (0 : Int)), (9, 0), (9, 0)] _
  show Ev _ _ _ _ 17 _ _ _ _ _
  refine ev_iconst dX4_clash_17 (by decide) ?_
  refine ev_istore dX4_clash_18 rfl (by decide) ?_
  show Ev _ _ _ _ 20 _ _ _ [(2, (35 : Int)), (2, x1), (0, x2), (0, x3), (2, x4), (0, v3), (0, (0 : Int)), (0, (5 : Int)), (9, 0)] _
  refine ev_iconst dX4_clash_20 (by decide) ?_
  refine ev_istore dX4_clash_21 rfl (by decide) ?_
  show Ev _ _ _ _ 23 _ _ _ [(2, (35 : Int)), (2, x1), (0, x2), (0, x3), (2, x4), (0, v3), (0, (0 : Int)), (0, (5 : Int)), (0, (1 : Int))] _
  exact ev_sub (L2 := [(2, (35 : Int)), (2, x1), (0, x2), (0, x3), (2, x4), (0, v3), (0, (0 : Int)), (0, (5 : Int)), (0, (1 : Int))]) (e_X4_clash_23 σ x1 x2 x3 x4 v3 (0 : Int) (5 : Int) (1 : Int) hx1 hx4 h) ⟨.inr rfl, .inr rfl, .inr rfl, .inr rfl, .inr rfl, .inr rfl, .inr rfl, .inr rfl, .inr rfl, trivial⟩
set_option maxHeartbeats 4000000 in
set_option maxRecDepth 20000 in
theorem c_X5_piecesOf {σ : Mem} {x1 : Int}  {q : Int} (h : f_X5_piecesOf σ x1 = some q) : Ms yX5_piecesOf M_X5_piecesOf 181 181 [(2, (171 : Int)), (0, x1)] rho σ (some (0, q), rho, σ) := by
  refine Ms.of 0 (by decide +kernel) rfl (fun z => absurd z (by decide)) (fun _ _ _ => trivial) rfl rfl ?_
  unfold f_X5_piecesOf at h
  show Ev M_X5_piecesOf 181 181 _ 0 181 rho σ [(2, (171 : Int)), (0, x1)] []
  refine ev_aload_n dX5_piecesOf_0 rfl (by decide) ?_
  refine ev_getf (j := 3) (t := 2) (x := (175 : Int)) dX5_piecesOf_1 cf_X5 wf_X5_22 sp171 (by decide) (by decide) rfl (by decide) (rp171_3 _) ?_
  refine ev_iload_n dX5_piecesOf_4 rfl ?_
  refine ev_iald dX5_piecesOf_5 sp175 (by decide) (by decide) h (fun h => ?_)
  obtain rfl := Option.some.inj h
  exact ev_iret dX5_piecesOf_6 rfl rfl
set_option maxHeartbeats 4000000 in
set_option maxRecDepth 20000 in
theorem c_X5_movesOf {σ : Mem} {x1 : Int}  {q : Int} (h : f_X5_movesOf σ x1 = some q) : Ms yX5_movesOf M_X5_movesOf 181 181 [(2, (171 : Int)), (0, x1)] rho σ (some (0, q), rho, σ) := by
  refine Ms.of 0 (by decide +kernel) rfl (fun z => absurd z (by decide)) (fun _ _ _ => trivial) rfl rfl ?_
  unfold f_X5_movesOf at h
  show Ev M_X5_movesOf 181 181 _ 0 181 rho σ [(2, (171 : Int)), (0, x1)] []
  refine ev_aload_n dX5_movesOf_0 rfl (by decide) ?_
  refine ev_getf (j := 4) (t := 2) (x := (176 : Int)) dX5_movesOf_1 cf_X5 wf_X5_25 sp171 (by decide) (by decide) rfl (by decide) (rp171_4 _) ?_
  refine ev_iload_n dX5_movesOf_4 rfl ?_
  refine ev_iald dX5_movesOf_5 sp176 (by decide) (by decide) h (fun h => ?_)
  obtain rfl := Option.some.inj h
  exact ev_iret dX5_movesOf_6 rfl rfl
set_option maxHeartbeats 4000000 in
set_option maxRecDepth 20000 in
theorem c_X5_roomAt {σ : Mem} {x1 x2 : Int}  {q : Int} (h : f_X5_roomAt σ x1 x2 = some q) : Ms yX5_roomAt M_X5_roomAt 181 181 [(2, (171 : Int)), (0, x1), (0, x2)] rho σ (some (0, q), rho, σ) := by
  refine Ms.of 0 (by decide +kernel) rfl (fun z => absurd z (by decide)) (fun _ _ _ => trivial) rfl rfl ?_
  unfold f_X5_roomAt at h
  show Ev M_X5_roomAt 181 181 _ 0 181 rho σ [(2, (171 : Int)), (0, x1), (0, x2)] []
  refine ev_iload_n dX5_roomAt_0 rfl ?_
  refine ev_if_lt (tgt := 24) dX5_roomAt_1 rfl h (fun cb h => ?_) (fun cb h => ?_)
  · refine ev_iconst dX5_roomAt_24 (by decide) ?_
    obtain rfl := Option.some.inj h
    exact ev_iret dX5_roomAt_25 rfl rfl
  refine ev_iload_n dX5_roomAt_4 rfl ?_
  refine ev_bipush dX5_roomAt_5 (by decide) (by decide) ?_
  refine ev_icmp_ge (tgt := 24) dX5_roomAt_7 rfl h (fun cb h => ?_) (fun cb h => ?_)
  · refine ev_iconst dX5_roomAt_24 (by decide) ?_
    obtain rfl := Option.some.inj h
    exact ev_iret dX5_roomAt_25 rfl rfl
  refine ev_aload_n dX5_roomAt_10 rfl (by decide) ?_
  refine ev_getf (j := 5) (t := 2) (x := (177 : Int)) dX5_roomAt_11 cf_X5 wf_X5_28 sp171 (by decide) (by decide) rfl (by decide) (rp171_5 _) ?_
  refine ev_iload_n dX5_roomAt_14 rfl ?_
  refine ev_bipush dX5_roomAt_15 (by decide) (by decide) ?_
  refine ev_imul dX5_roomAt_17 ?_
  refine ev_iload_n dX5_roomAt_18 rfl ?_
  refine ev_iadd dX5_roomAt_19 ?_
  refine ev_iald dX5_roomAt_20 sp177 (by decide) (by decide) h (fun h => ?_)
  refine ev_goto (tgt := 25) dX5_roomAt_21 rfl ?_
  obtain rfl := Option.some.inj h
  exact ev_iret dX5_roomAt_25 rfl rfl
set_option maxHeartbeats 4000000 in
set_option maxRecDepth 20000 in
theorem c_X5_usedAt {σ : Mem} {x1 x2 : Int}  {q : Int} (h : f_X5_usedAt σ x1 x2 = some q) : Ms yX5_usedAt M_X5_usedAt 181 181 [(2, (171 : Int)), (0, x1), (0, x2)] rho σ (some (0, q), rho, σ) := by
  refine Ms.of 0 (by decide +kernel) rfl (fun z => absurd z (by decide)) (fun _ _ _ => trivial) rfl rfl ?_
  unfold f_X5_usedAt at h
  show Ev M_X5_usedAt 181 181 _ 0 181 rho σ [(2, (171 : Int)), (0, x1), (0, x2)] []
  refine ev_aload_n dX5_usedAt_0 rfl (by decide) ?_
  refine ev_getf (j := 0) (t := 2) (x := (172 : Int)) dX5_usedAt_1 cf_X5 wf_X5_9 sp171 (by decide) (by decide) rfl (by decide) (rp171_0 _) ?_
  refine ev_iload_n dX5_usedAt_4 rfl ?_
  refine ev_bipush dX5_usedAt_5 (by decide) (by decide) ?_
  refine ev_imul dX5_usedAt_7 ?_
  refine ev_iload_n dX5_usedAt_8 rfl ?_
  refine ev_iadd dX5_usedAt_9 ?_
  refine ev_iald dX5_usedAt_10 sp172 (by decide) (by decide) h (fun h => ?_)
  obtain rfl := Option.some.inj h
  exact ev_iret dX5_usedAt_11 rfl rfl
def K_X8_pieceFrom_26 (σ : Mem) (x0 x1 x2 : Int) (r : Option V × Mem × Mem) : (Int) ⊕ ((Int) ⊕ (Unit)) → Prop := Sum.elim (fun a => Ev M_X8_pieceFrom 181 181 r 26 181 rho σ [(2, x0), (0, x1), (0, x2), (0, a), (9, 0)] []) (Sum.elim (fun e => Ev M_X8_pieceFrom 181 181 r 54 181 rho σ [(2, x0), (9, 0), (0, x2), (9, 0), (0, e)] []) (fun e => Ev M_X8_pieceFrom 181 181 r 72 181 rho σ [(2, x0), (0, x1), (0, x2), (9, 0), (9, 0)] []))
set_option maxHeartbeats 4000000 in
set_option maxRecDepth 20000 in
theorem e_X8_pieceFrom_54 (σ : Mem) (x0 x2 x4 : Int) (hx0 : isW x0) {q : Int} (h : f_X8_pieceFrom_54 σ x0 x2 x4 = some q) : Ev M_X8_pieceFrom 181 181 (some (1, q), rho, σ) 54 181 rho σ [(2, x0), (9, 0), (0, x2), (9, 0), (0, x4)] [] := by
  unfold f_X8_pieceFrom_54 at h
  refine ev_iload_n dX8_pieceFrom_54 rfl ?_
  refine ev_aload_n dX8_pieceFrom_55 rfl (pW hx0).1 ?_
  refine ev_getf (j := 8) (t := 2) (x := (x0 + 9)) dX8_pieceFrom_56 cf_X8 wf_X8_38 (sW hx0) (pW hx0).1 (pW hx0).2 rfl (by decide) (rW8 _ hx0) ?_
  refine ev_iload dX8_pieceFrom_59 rfl ?_
  refine ev_iald dX8_pieceFrom_61 (sW8 hx0) (pW8 hx0).1 (pW8 hx0).2 h (fun h => ?_)
  obtain ⟨v5, hc6, h⟩ := bind_of h
  refine ev_invSN_v (av := [(0, x2), (0, (σ (x0 + 9) x4))]) (st := []) (v := (1, v5)) (τ := σ) dX8_pieceFrom_62 ml_X8_95 mt_X10_span rfl ⟨Nat.le_of_ble_eq_true rfl, Nat.le_of_ble_eq_true rfl⟩ (Nat.le_of_ble_eq_true rfl) (c_X10_span hc6) ?_
  obtain rfl := Option.some.inj h
  exact ev_lret dX8_pieceFrom_65 rfl rfl
set_option maxHeartbeats 4000000 in
set_option maxRecDepth 20000 in
theorem e_X8_pieceFrom_72 (σ : Mem) (x0 x1 x2 : Int) (hx0 : isW x0) {q : Int} (h : f_X8_pieceFrom_72 σ x0 x1 x2 = some q) : Ev M_X8_pieceFrom 181 181 (some (1, q), rho, σ) 72 181 rho σ [(2, x0), (0, x1), (0, x2), (9, 0), (9, 0)] [] := by
  unfold f_X8_pieceFrom_72 at h
  refine ev_iload_n dX8_pieceFrom_72 rfl ?_
  refine ev_iload_n dX8_pieceFrom_73 rfl ?_
  refine ev_aload_n dX8_pieceFrom_74 rfl (pW hx0).1 ?_
  refine ev_iload_n dX8_pieceFrom_75 rfl ?_
  refine ev_iload_n dX8_pieceFrom_76 rfl ?_
  obtain ⟨v7, hc8, h⟩ := bind_of h
  refine ev_invV_v (k := x0) (av := [(0, x1), (0, x2)]) (st := [(0, x2), (0, x2)]) (v := (0, v7)) (τ := σ) dX8_pieceFrom_77 ml_X8_98 mv_X8_dutyFrom (T := TX8) (ci := 7) rfl (sW hx0) (pW hx0).1 (pW hx0).2 rfl ⟨Nat.le_of_ble_eq_true rfl, Nat.le_of_ble_eq_true rfl⟩ (Nat.le_of_ble_eq_true rfl) (c_X8_dutyFrom hx0 hc8) ?_
  refine ev_iadd dX8_pieceFrom_80 ?_
  obtain ⟨v9, hc10, h⟩ := bind_of h
  refine ev_invSN_v (av := [(0, x2), (0, (jadd x2 v7))]) (st := []) (v := (1, v9)) (τ := σ) dX8_pieceFrom_81 ml_X8_95 mt_X10_span rfl ⟨Nat.le_of_ble_eq_true rfl, Nat.le_of_ble_eq_true rfl⟩ (Nat.le_of_ble_eq_true rfl) (c_X10_span hc10) ?_
  obtain rfl := Option.some.inj h
  exact ev_lret dX8_pieceFrom_84 rfl rfl
set_option maxHeartbeats 4000000 in
set_option maxRecDepth 20000 in
theorem b_X8_pieceFrom_26 (σ : Mem) (x0 x1 x2 : Int) (hx0 : isW x0) {r : Option V × Mem × Mem} : ∀ a x, f_X8_pieceFrom_26B σ x0 x1 x2 a = some x → K_X8_pieceFrom_26 σ x0 x1 x2 r x → K_X8_pieceFrom_26 σ x0 x1 x2 r (.inl a) := by
  intro a x h K
  have ⟨x3, ea⟩ : ∃ z, z = a := ⟨_, rfl⟩
  subst ea
  have h : f_X8_pieceFrom_26C σ x0 x1 x2 x3 = some x := h
  unfold f_X8_pieceFrom_26C at h
  show Ev M_X8_pieceFrom 181 181 r 26 181 rho σ [(2, x0), (0, x1), (0, x2), (0, x3), (9, 0)] []
  refine ev_iload_n dX8_pieceFrom_26 rfl ?_
  refine ev_aload_n dX8_pieceFrom_27 rfl (pW hx0).1 ?_
  refine ev_getf (j := 4) (t := 2) (x := (x0 + 5)) dX8_pieceFrom_28 cf_X8 wf_X8_25 (sW hx0) (pW hx0).1 (pW hx0).2 rfl (by decide) (rW4 _ hx0) ?_
  refine ev_iload_n dX8_pieceFrom_31 rfl ?_
  refine ev_iald dX8_pieceFrom_32 (sW4 hx0) (pW4 hx0).1 (pW4 hx0).2 h (fun h => ?_)
  refine ev_icmp_ge (tgt := 72) dX8_pieceFrom_33 rfl h (fun cb h => ?_) (fun cb h => ?_)
  · obtain rfl := Option.some.inj h
    exact ev_sub (L2 := [(2, x0), (0, x1), (0, x2), (9, 0), (9, 0)]) K ⟨.inr rfl, .inr rfl, .inr rfl, .inl rfl, .inl rfl, trivial⟩
  refine ev_iload_n dX8_pieceFrom_36 rfl ?_
  refine ev_iconst dX8_pieceFrom_37 (by decide) ?_
  refine ev_imul dX8_pieceFrom_38 ?_
  refine ev_iload_n dX8_pieceFrom_39 rfl ?_
  refine ev_iadd dX8_pieceFrom_40 ?_
  refine ev_istoreG dX8_pieceFrom_41 h rfl (by decide) (fun v3 h => ?_)
  show Ev _ _ _ _ 43 _ _ _ [(2, x0), (0, x1), (0, x2), (0, x3), (0, v3)] _
  refine ev_aload_n dX8_pieceFrom_43 rfl (pW hx0).1 ?_
  refine ev_getf (j := 7) (t := 2) (x := (x0 + 8)) dX8_pieceFrom_44 cf_X8 wf_X8_35 (sW hx0) (pW hx0).1 (pW hx0).2 rfl (by decide) (rW7 _ hx0) ?_
  refine ev_iload dX8_pieceFrom_47 rfl ?_
  refine ev_iald dX8_pieceFrom_49 (sW7 hx0) (pW7 hx0).1 (pW7 hx0).2 h (fun h => ?_)
  refine ev_iload_n dX8_pieceFrom_50 rfl ?_
  show Ev _ _ _ _ 51 _ _ _ _ _
  refine ev_icmp_ne (tgt := 66) dX8_pieceFrom_51 rfl h (fun cb h => ?_) (fun cb h => ?_)
  · refine ev_iincG dX8_pieceFrom_66 rfl h rfl (fun v4 h => ?_)
    show Ev _ _ _ _ 69 _ _ _ [(2, x0), (0, x1), (0, x2), (0, v4), (0, v3)] _
    refine ev_goto (tgt := 26) dX8_pieceFrom_69 rfl ?_
    obtain rfl := Option.some.inj h
    exact ev_sub (L2 := [(2, x0), (0, x1), (0, x2), (0, v4), (9, 0)]) K ⟨.inr rfl, .inr rfl, .inr rfl, .inr rfl, .inl rfl, trivial⟩
  obtain rfl := Option.some.inj h
  exact ev_sub (L2 := [(2, x0), (9, 0), (0, x2), (9, 0), (0, v3)]) K ⟨.inr rfl, .inl rfl, .inr rfl, .inl rfl, .inr rfl, trivial⟩
set_option maxHeartbeats 4000000 in
set_option maxRecDepth 20000 in
theorem e_X8_pieceFrom_26 (σ : Mem) (x0 x1 x2 x3 : Int) (hx0 : isW x0) {q : Int} (h : f_X8_pieceFrom_26 σ x0 x1 x2 x3 = some q) : Ev M_X8_pieceFrom 181 181 (some (1, q), rho, σ) 26 181 rho σ [(2, x0), (0, x1), (0, x2), (0, x3), (9, 0)] [] := by
  unfold f_X8_pieceFrom_26 at h
  obtain ⟨e, hl, h⟩ := bind_of h
  refine loop_ev (K := K_X8_pieceFrom_26 σ x0 x1 x2 (some (1, q), rho, σ)) (b_X8_pieceFrom_26 σ x0 x1 x2 hx0) FU x3 e hl ?_
  rcases e with e | e
  · show Ev M_X8_pieceFrom 181 181 _ 54 181 rho σ [(2, x0), (9, 0), (0, x2), (9, 0), (0, e)] []
    replace h : f_X8_pieceFrom_54 σ x0 x2 e = some q := h
    exact ev_sub (L2 := [(2, x0), (9, 0), (0, x2), (9, 0), (0, e)]) (e_X8_pieceFrom_54 σ x0 x2 e hx0 h) ⟨.inr rfl, .inl rfl, .inr rfl, .inl rfl, .inr rfl, trivial⟩
  · show Ev M_X8_pieceFrom 181 181 _ 72 181 rho σ [(2, x0), (0, x1), (0, x2), (9, 0), (9, 0)] []
    replace h : f_X8_pieceFrom_72 σ x0 x1 x2 = some q := h
    exact ev_sub (L2 := [(2, x0), (0, x1), (0, x2), (9, 0), (9, 0)]) (e_X8_pieceFrom_72 σ x0 x1 x2 hx0 h) ⟨.inr rfl, .inr rfl, .inr rfl, .inl rfl, .inl rfl, trivial⟩
set_option maxHeartbeats 4000000 in
set_option maxRecDepth 20000 in
theorem e_X8_pieceFrom_24 (σ : Mem) (x0 x1 x2 : Int) (hx0 : isW x0) {q : Int} (h : f_X8_pieceFrom_24 σ x0 x1 x2 = some q) : Ev M_X8_pieceFrom 181 181 (some (1, q), rho, σ) 24 181 rho σ [(2, x0), (0, x1), (0, x2), (9, 0), (9, 0)] [] := by
  unfold f_X8_pieceFrom_24 at h
  refine ev_iconst dX8_pieceFrom_24 (by decide) ?_
  refine ev_istore_n dX8_pieceFrom_25 rfl (by decide) ?_
  show Ev _ _ _ _ 26 _ _ _ [(2, x0), (0, x1), (0, x2), (0, (0 : Int)), (9, 0)] _
  exact ev_sub (L2 := [(2, x0), (0, x1), (0, x2), (0, (0 : Int)), (9, 0)]) (e_X8_pieceFrom_26 σ x0 x1 x2 (0 : Int) hx0 h) ⟨.inr rfl, .inr rfl, .inr rfl, .inr rfl, .inl rfl, trivial⟩
set_option maxHeartbeats 4000000 in
set_option maxRecDepth 20000 in
theorem c_X8_pieceFrom {σ : Mem} {x0 x1 x2 : Int} (hx0 : isW x0) {q : Int} (h : f_X8_pieceFrom σ x0 x1 x2 = some q) : Ms yX8_pieceFrom M_X8_pieceFrom 181 181 [(2, x0), (0, x1), (0, x2)] rho σ (some (1, q), rho, σ) := by
  refine Ms.of 2 (by decide +kernel) rfl (fun z => absurd z (by decide)) (fun _ _ _ => trivial) rfl rfl ?_
  unfold f_X8_pieceFrom at h
  show Ev M_X8_pieceFrom 181 181 _ 0 181 rho σ [(2, x0), (0, x1), (0, x2), (9, 0), (9, 0)] []
  refine ev_iload_n dX8_pieceFrom_0 rfl ?_
  refine ev_if_ne (tgt := 24) dX8_pieceFrom_1 rfl h (fun cb h => ?_) (fun cb h => ?_)
  · exact ev_sub (L2 := [(2, x0), (0, x1), (0, x2), (9, 0), (9, 0)]) (e_X8_pieceFrom_24 σ x0 x1 x2 hx0 h) ⟨.inr rfl, .inr rfl, .inr rfl, .inl rfl, .inl rfl, trivial⟩
  refine ev_aload_n dX8_pieceFrom_4 rfl (pW hx0).1 ?_
  refine ev_getf (j := 3) (t := 2) (x := (x0 + 4)) dX8_pieceFrom_5 cf_X8 wf_X8_22 (sW hx0) (pW hx0).1 (pW hx0).2 rfl (by decide) (rW3 _ hx0) ?_
  refine ev_iload_n dX8_pieceFrom_8 rfl ?_
  refine ev_iald dX8_pieceFrom_9 (sW3 hx0) (pW3 hx0).1 (pW3 hx0).2 h (fun h => ?_)
  refine ev_if_le (tgt := 24) dX8_pieceFrom_10 rfl h (fun cb h => ?_) (fun cb h => ?_)
  · exact ev_sub (L2 := [(2, x0), (0, x1), (0, x2), (9, 0), (9, 0)]) (e_X8_pieceFrom_24 σ x0 x1 x2 hx0 h) ⟨.inr rfl, .inr rfl, .inr rfl, .inl rfl, .inl rfl, trivial⟩
  refine ev_iconst dX8_pieceFrom_13 (by decide) ?_
  refine ev_aload_n dX8_pieceFrom_14 rfl (pW hx0).1 ?_
  refine ev_getf (j := 3) (t := 2) (x := (x0 + 4)) dX8_pieceFrom_15 cf_X8 wf_X8_22 (sW hx0) (pW hx0).1 (pW hx0).2 rfl (by decide) (rW3 _ hx0) ?_
  refine ev_iload_n dX8_pieceFrom_18 rfl ?_
  refine ev_iald dX8_pieceFrom_19 (sW3 hx0) (pW3 hx0).1 (pW3 hx0).2 h (fun h => ?_)
  obtain ⟨v1, hc2, h⟩ := bind_of h
  refine ev_invSN_v (av := [(0, (0 : Int)), (0, (σ (x0 + 4) x1))]) (st := []) (v := (1, v1)) (τ := σ) dX8_pieceFrom_20 ml_X8_95 mt_X10_span rfl ⟨Nat.le_of_ble_eq_true rfl, Nat.le_of_ble_eq_true rfl⟩ (Nat.le_of_ble_eq_true rfl) (c_X10_span hc2) ?_
  obtain rfl := Option.some.inj h
  exact ev_lret dX8_pieceFrom_23 rfl rfl
def K_X8_piecesOf_5 (x0 x1 : Int) (r : Option V × Mem × Mem) : (Int × Int × Mem) ⊕ ((Int × Mem)) → Prop := Sum.elim (fun a => Ev M_X8_piecesOf 181 181 r 5 181 rho a.2.2 [(2, x0), (0, x1), (2, (174 : Int)), (0, a.1), (0, a.2.1), (9, 0), (9, 0)] []) (fun e => Ev M_X8_piecesOf 181 181 r 48 181 rho e.2 [(9, 0), (9, 0), (9, 0), (0, e.1), (9, 0), (9, 0), (9, 0)] [])
set_option maxHeartbeats 4000000 in
set_option maxRecDepth 20000 in
theorem e_X8_piecesOf_42 (σ : Mem) (x0 x1 x3 x4 : Int) (hx0 : isW x0) {q : ((Int × Int × Mem) ⊕ ((Int × Mem)))} (h : f_X8_piecesOf_42 σ x0 x1 x3 x4 = some q) {r : Option V × Mem × Mem} (K : K_X8_piecesOf_5 x0 x1 r q) : Ev M_X8_piecesOf 181 181 r 42 181 rho σ [(2, x0), (0, x1), (2, (174 : Int)), (0, x3), (0, x4), (9, 0), (9, 0)] [] := by
  unfold f_X8_piecesOf_42 at h
  refine ev_iincG dX8_piecesOf_42 rfl h rfl (fun v5 h => ?_)
  show Ev _ _ _ _ 45 _ _ _ [(2, x0), (0, x1), (2, (174 : Int)), (0, x3), (0, v5), (9, 0), (9, 0)] _
  refine ev_goto (tgt := 5) dX8_piecesOf_45 rfl ?_
  obtain rfl := Option.some.inj h
  exact ev_sub (L2 := [(2, x0), (0, x1), (2, (174 : Int)), (0, x3), (0, v5), (9, 0), (9, 0)]) K ⟨.inr rfl, .inr rfl, .inr rfl, .inr rfl, .inr rfl, .inl rfl, .inl rfl, trivial⟩
set_option maxHeartbeats 4000000 in
set_option maxRecDepth 20000 in
theorem b_X8_piecesOf_5 (x0 x1 : Int) (hx0 : isW x0) {r : Option V × Mem × Mem} : ∀ a x, f_X8_piecesOf_5B x0 x1 a = some x → K_X8_piecesOf_5 x0 x1 r x → K_X8_piecesOf_5 x0 x1 r (.inl a) := by
  intro a x h K
  obtain ⟨x3, x4, σ⟩ := a
  have h : f_X8_piecesOf_5C x0 x1 x3 x4 σ = some x := h
  unfold f_X8_piecesOf_5C at h
  show Ev M_X8_piecesOf 181 181 r 5 181 rho σ [(2, x0), (0, x1), (2, (174 : Int)), (0, x3), (0, x4), (9, 0), (9, 0)] []
  refine ev_iload dX8_piecesOf_5 rfl ?_
  refine ev_bipush dX8_piecesOf_7 (by decide) (by decide) ?_
  refine ev_icmp_ge (tgt := 48) dX8_piecesOf_9 rfl h (fun cb h => ?_) (fun cb h => ?_)
  · obtain rfl := Option.some.inj h
    exact ev_sub (L2 := [(9, 0), (9, 0), (9, 0), (0, x3), (9, 0), (9, 0), (9, 0)]) K ⟨.inl rfl, .inl rfl, .inl rfl, .inr rfl, .inl rfl, .inl rfl, .inl rfl, trivial⟩
  refine ev_aload_n dX8_piecesOf_12 rfl (pW hx0).1 ?_
  refine ev_iload_n dX8_piecesOf_13 rfl ?_
  refine ev_iload dX8_piecesOf_14 rfl ?_
  obtain ⟨v1, hc2, h⟩ := bind_of h
  refine ev_invV_v (k := x0) (av := [(0, x1), (0, x4)]) (st := []) (v := (1, v1)) (τ := σ) dX8_piecesOf_16 ml_X8_91 mv_X8_pieceFrom (T := TX8) (ci := 7) rfl (sW hx0) (pW hx0).1 (pW hx0).2 rfl ⟨Nat.le_of_ble_eq_true rfl, Nat.le_of_ble_eq_true rfl⟩ (Nat.le_of_ble_eq_true rfl) (c_X8_pieceFrom hx0 hc2) ?_
  refine ev_lstore dX8_piecesOf_19 rfl (by decide) ?_
  show Ev _ _ _ _ 21 _ _ _ [(2, x0), (0, x1), (2, (174 : Int)), (0, x3), (0, x4), (1, v1), (9, 0)] _
  refine ev_lload dX8_piecesOf_21 rfl ?_
  refine ev_lconst (x := (0 : Int)) dX8_piecesOf_23 (by decide) (by decide) ?_
  refine ev_lc_eq (tgt := 42) dX8_piecesOf_24 dX8_piecesOf_25 rfl h (fun cb h => ?_) (fun cb h => ?_)
  · exact ev_sub (L2 := [(2, x0), (0, x1), (2, (174 : Int)), (0, x3), (0, x4), (9, 0), (9, 0)]) (e_X8_piecesOf_42 σ x0 x1 x3 x4 hx0 h K) ⟨.inr rfl, .inr rfl, .inr rfl, .inr rfl, .inr rfl, .inl rfl, .inl rfl, trivial⟩
  refine ev_iload_n dX8_piecesOf_28 rfl ?_
  refine ev_aload_n dX8_piecesOf_29 rfl (by decide) ?_
  refine ev_alen (N := 9) dX8_piecesOf_30 sp174 (by decide) (by decide) (by decide) (by decide) ?_
  refine ev_icmp_ge (tgt := 42) dX8_piecesOf_31 rfl h (fun cb h => ?_) (fun cb h => ?_)
  · exact ev_sub (L2 := [(2, x0), (0, x1), (2, (174 : Int)), (0, x3), (0, x4), (9, 0), (9, 0)]) (e_X8_piecesOf_42 σ x0 x1 x3 x4 hx0 h K) ⟨.inr rfl, .inr rfl, .inr rfl, .inr rfl, .inr rfl, .inl rfl, .inl rfl, trivial⟩
  refine ev_aload_n dX8_piecesOf_34 rfl (by decide) ?_
  refine ev_iload_n dX8_piecesOf_35 rfl ?_
  refine ev_lload dX8_piecesOf_36 rfl ?_
  refine ev_lastG dX8_piecesOf_38 sp174 (by decide) (by decide) h (fun σ3 h => ?_)
  refine ev_iincG dX8_piecesOf_39 rfl h rfl (fun v4 h => ?_)
  show Ev _ _ _ _ 42 _ _ _ [(2, x0), (0, x1), (2, (174 : Int)), (0, v4), (0, x4), (1, v1), (9, 0)] _
  exact ev_sub (L2 := [(2, x0), (0, x1), (2, (174 : Int)), (0, v4), (0, x4), (9, 0), (9, 0)]) (e_X8_piecesOf_42 σ3 x0 x1 v4 x4 hx0 h K) ⟨.inr rfl, .inr rfl, .inr rfl, .inr rfl, .inr rfl, .inl rfl, .inl rfl, trivial⟩
set_option maxHeartbeats 4000000 in
set_option maxRecDepth 20000 in
theorem e_X8_piecesOf_5 (σ : Mem) (x0 x1 x3 x4 : Int) (hx0 : isW x0) {q : (Int × Mem)} (h : f_X8_piecesOf_5 σ x0 x1 x3 x4 = some q) : Ev M_X8_piecesOf 181 181 (some (0, q.1), rho, q.2) 5 181 rho σ [(2, x0), (0, x1), (2, (174 : Int)), (0, x3), (0, x4), (9, 0), (9, 0)] [] := by
  unfold f_X8_piecesOf_5 at h
  obtain ⟨e, hl, h⟩ := bind_of h
  refine loop_ev (K := K_X8_piecesOf_5 x0 x1 (some (0, q.1), rho, q.2)) (b_X8_piecesOf_5 x0 x1 hx0) FU (x3, x4, σ) e hl ?_
  show Ev M_X8_piecesOf 181 181 _ 48 181 rho e.2 [(9, 0), (9, 0), (9, 0), (0, e.1), (9, 0), (9, 0), (9, 0)] []
  replace h : some (e.1, e.2) = some q := h
  refine ev_iload_n dX8_piecesOf_48 rfl ?_
  obtain rfl := Option.some.inj h
  dsimp only
  exact ev_iret dX8_piecesOf_49 rfl rfl
set_option maxHeartbeats 4000000 in
set_option maxRecDepth 20000 in
theorem c_X8_piecesOf {σ : Mem} {x0 x1 : Int} (hx0 : isW x0) {q : (Int × Mem)} (h : f_X8_piecesOf σ x0 x1 = some q) : Ms yX8_piecesOf M_X8_piecesOf 181 181 [(2, x0), (0, x1), (2, (174 : Int))] rho σ (some (0, q.1), rho, q.2) := by
  refine Ms.of 4 (by decide +kernel) rfl (fun z => absurd z (by decide)) (fun _ _ _ => trivial) rfl rfl ?_
  unfold f_X8_piecesOf at h
  show Ev M_X8_piecesOf 181 181 _ 0 181 rho σ [(2, x0), (0, x1), (2, (174 : Int)), (9, 0), (9, 0), (9, 0), (9, 0)] []
  refine ev_iconst dX8_piecesOf_0 (by decide) ?_
  refine ev_istore_n dX8_piecesOf_1 rfl (by decide) ?_
  show Ev _ _ _ _ 2 _ _ _ [(2, x0), (0, x1), (2, (174 : Int)), (0, (0 : Int)), (9, 0), (9, 0), (9, 0)] _
  refine ev_iconst dX8_piecesOf_2 (by decide) ?_
  refine ev_istore dX8_piecesOf_3 rfl (by decide) ?_
  show Ev _ _ _ _ 5 _ _ _ [(2, x0), (0, x1), (2, (174 : Int)), (0, (0 : Int)), (0, (0 : Int)), (9, 0), (9, 0)] _
  exact ev_sub (L2 := [(2, x0), (0, x1), (2, (174 : Int)), (0, (0 : Int)), (0, (0 : Int)), (9, 0), (9, 0)]) (e_X8_piecesOf_5 σ x0 x1 (0 : Int) (0 : Int) hx0 h) ⟨.inr rfl, .inr rfl, .inr rfl, .inr rfl, .inr rfl, .inl rfl, .inl rfl, trivial⟩
set_option maxHeartbeats 4000000 in
set_option maxRecDepth 20000 in
theorem e_X5_costWith_26 (σ : Mem) (s1 s0 : Int)  {q : Int} (h : f_X5_costWith_26 σ s1 s0 = some q) : Ev M_X5_costWith 181 181 (some (0, q), rho, σ) 26 181 rho σ [(9, 0), (9, 0), (9, 0), (9, 0)] [(0, s1), (0, s0)] := by
  unfold f_X5_costWith_26 at h
  refine ev_iadd dX5_costWith_26 ?_
  obtain rfl := Option.some.inj h
  exact ev_iret dX5_costWith_27 rfl rfl
set_option maxHeartbeats 4000000 in
set_option maxRecDepth 20000 in
theorem e_X5_costWith_21 (σ : Mem) (s0 : Int)  {q : Int} (h : f_X5_costWith_21 σ s0 = some q) : Ev M_X5_costWith 181 181 (some (0, q), rho, σ) 21 181 rho σ [(9, 0), (9, 0), (9, 0), (9, 0)] [(0, s0)] := by
  unfold f_X5_costWith_21 at h
  refine ev_iconst dX5_costWith_21 (by decide) ?_
  refine ev_goto (tgt := 26) dX5_costWith_22 rfl ?_
  exact ev_sub (L2 := [(9, 0), (9, 0), (9, 0), (9, 0)]) (e_X5_costWith_26 σ (0 : Int) s0 h) ⟨.inl rfl, .inl rfl, .inl rfl, .inl rfl, trivial⟩
set_option maxHeartbeats 4000000 in
set_option maxRecDepth 20000 in
theorem c_X5_costWith {σ : Mem} {x1 x2 x3 : Int}  {q : Int} (h : f_X5_costWith σ x1 x2 x3 = some q) : Ms yX5_costWith M_X5_costWith 181 181 [(2, (171 : Int)), (0, x1), (0, x2), (0, x3)] rho σ (some (0, q), rho, σ) := by
  refine Ms.of 0 (by decide +kernel) rfl (fun z => absurd z (by decide)) (fun _ _ _ => trivial) rfl rfl ?_
  unfold f_X5_costWith at h
  show Ev M_X5_costWith 181 181 _ 0 181 rho σ [(2, (171 : Int)), (0, x1), (0, x2), (0, x3)] []
  refine ev_aload_n dX5_costWith_0 rfl (by decide) ?_
  refine ev_getf (j := 6) (t := 2) (x := (178 : Int)) dX5_costWith_1 cf_X5 wf_X5_31 sp171 (by decide) (by decide) rfl (by decide) (rp171_6 _) ?_
  refine ev_iload_n dX5_costWith_4 rfl ?_
  refine ev_bipush dX5_costWith_5 (by decide) (by decide) ?_
  refine ev_imul dX5_costWith_7 ?_
  refine ev_iload_n dX5_costWith_8 rfl ?_
  refine ev_iadd dX5_costWith_9 ?_
  refine ev_iald dX5_costWith_10 sp178 (by decide) (by decide) h (fun h => ?_)
  refine ev_iload_n dX5_costWith_11 rfl ?_
  refine ev_iconst dX5_costWith_12 (by decide) ?_
  refine ev_icmp_eq (tgt := 21) dX5_costWith_13 rfl h (fun cb h => ?_) (fun cb h => ?_)
  · exact ev_sub (L2 := [(9, 0), (9, 0), (9, 0), (9, 0)]) (e_X5_costWith_21 σ (σ (178 : Int) (jadd (jmul x1 (6 : Int)) x2)) h) ⟨.inl rfl, .inl rfl, .inl rfl, .inl rfl, trivial⟩
  refine ev_iload_n dX5_costWith_16 rfl ?_
  refine ev_iload_n dX5_costWith_17 rfl ?_
  refine ev_icmp_ne (tgt := 25) dX5_costWith_18 rfl h (fun cb h => ?_) (fun cb h => ?_)
  · refine ev_iconst dX5_costWith_25 (by decide) ?_
    exact ev_sub (L2 := [(9, 0), (9, 0), (9, 0), (9, 0)]) (e_X5_costWith_26 σ (1 : Int) (σ (178 : Int) (jadd (jmul x1 (6 : Int)) x2)) h) ⟨.inl rfl, .inl rfl, .inl rfl, .inl rfl, trivial⟩
  exact ev_sub (L2 := [(9, 0), (9, 0), (9, 0), (9, 0)]) (e_X5_costWith_21 σ (σ (178 : Int) (jadd (jmul x1 (6 : Int)) x2)) h) ⟨.inl rfl, .inl rfl, .inl rfl, .inl rfl, trivial⟩
def K_X5_firstRoom_6 (σ : Mem) (x1 x2 x3 : Int) (r : Option V × Mem × Mem) : (Int × Int) ⊕ ((Int)) → Prop := Sum.elim (fun a => Ev M_X5_firstRoom 181 181 r 6 181 rho σ [(2, (171 : Int)), (0, x1), (0, x2), (0, x3), (0, a.1), (0, a.2), (9, 0)] []) (fun e => Ev M_X5_firstRoom 181 181 r 59 181 rho σ [(9, 0), (9, 0), (9, 0), (9, 0), (0, e), (9, 0), (9, 0)] [])
set_option maxHeartbeats 4000000 in
set_option maxRecDepth 20000 in
theorem e_X5_firstRoom_53 (σ : Mem) (x1 x2 x3 x4 x5 : Int)  {q : ((Int × Int) ⊕ ((Int)))} (h : f_X5_firstRoom_53 σ x1 x2 x3 x4 x5 = some q) {r : Option V × Mem × Mem} (K : K_X5_firstRoom_6 σ x1 x2 x3 r q) : Ev M_X5_firstRoom 181 181 r 53 181 rho σ [(2, (171 : Int)), (0, x1), (0, x2), (0, x3), (0, x4), (0, x5), (9, 0)] [] := by
  unfold f_X5_firstRoom_53 at h
  refine ev_iincG dX5_firstRoom_53 rfl h rfl (fun v5 h => ?_)
  show Ev _ _ _ _ 56 _ _ _ [(2, (171 : Int)), (0, x1), (0, x2), (0, x3), (0, x4), (0, v5), (9, 0)] _
  refine ev_goto (tgt := 6) dX5_firstRoom_56 rfl ?_
  obtain rfl := Option.some.inj h
  exact ev_sub (L2 := [(2, (171 : Int)), (0, x1), (0, x2), (0, x3), (0, x4), (0, v5), (9, 0)]) K ⟨.inr rfl, .inr rfl, .inr rfl, .inr rfl, .inr rfl, .inr rfl, .inl rfl, trivial⟩
set_option maxHeartbeats 4000000 in
set_option maxRecDepth 20000 in
theorem e_X5_firstRoom_49 (σ : Mem) (x1 x2 x3 x5 : Int)  {q : ((Int × Int) ⊕ ((Int)))} (h : f_X5_firstRoom_49 σ x1 x2 x3 x5 = some q) {r : Option V × Mem × Mem} (K : K_X5_firstRoom_6 σ x1 x2 x3 r q) : Ev M_X5_firstRoom 181 181 r 49 181 rho σ [(2, (171 : Int)), (0, x1), (0, x2), (0, x3), (9, 0), (0, x5), (9, 0)] [] := by
  unfold f_X5_firstRoom_49 at h
  refine ev_iload dX5_firstRoom_49 rfl ?_
  refine ev_istore dX5_firstRoom_51 rfl (by decide) ?_
  show Ev _ _ _ _ 53 _ _ _ [(2, (171 : Int)), (0, x1), (0, x2), (0, x3), (0, x5), (0, x5), (9, 0)] _
  exact ev_sub (L2 := [(2, (171 : Int)), (0, x1), (0, x2), (0, x3), (0, x5), (0, x5), (9, 0)]) (e_X5_firstRoom_53 σ x1 x2 x3 x5 x5 h K) ⟨.inr rfl, .inr rfl, .inr rfl, .inr rfl, .inr rfl, .inr rfl, .inl rfl, trivial⟩
set_option maxHeartbeats 4000000 in
set_option maxRecDepth 20000 in
theorem b_X5_firstRoom_6 (σ : Mem) (x1 x2 x3 : Int)  {r : Option V × Mem × Mem} : ∀ a x, f_X5_firstRoom_6B σ x1 x2 x3 a = some x → K_X5_firstRoom_6 σ x1 x2 x3 r x → K_X5_firstRoom_6 σ x1 x2 x3 r (.inl a) := by
  intro a x h K
  obtain ⟨x4, x5⟩ := a
  have h : f_X5_firstRoom_6C σ x1 x2 x3 x4 x5 = some x := h
  unfold f_X5_firstRoom_6C at h
  show Ev M_X5_firstRoom 181 181 r 6 181 rho σ [(2, (171 : Int)), (0, x1), (0, x2), (0, x3), (0, x4), (0, x5), (9, 0)] []
  refine ev_iload dX5_firstRoom_6 rfl ?_
  refine ev_iload_n dX5_firstRoom_8 rfl ?_
  refine ev_icmp_ge (tgt := 59) dX5_firstRoom_9 rfl h (fun cb h => ?_) (fun cb h => ?_)
  · obtain rfl := Option.some.inj h
    exact ev_sub (L2 := [(9, 0), (9, 0), (9, 0), (9, 0), (0, x4), (9, 0), (9, 0)]) K ⟨.inl rfl, .inl rfl, .inl rfl, .inl rfl, .inr rfl, .inl rfl, .inl rfl, trivial⟩
  refine ev_aload_n dX5_firstRoom_12 rfl (by decide) ?_
  refine ev_iload_n dX5_firstRoom_13 rfl ?_
  refine ev_iload dX5_firstRoom_14 rfl ?_
  refine ev_iload_n dX5_firstRoom_16 rfl ?_
  obtain ⟨v1, hc2, h⟩ := bind_of h
  refine ev_invV_v (k := (171 : Int)) (av := [(0, x2), (0, x5), (0, x3)]) (st := []) (v := (0, v1)) (τ := σ) dX5_firstRoom_17 ml_X5_84 mv_X5_costWith (T := TX5) (ci := 4) rfl sp171 (by decide) (by decide) rfl ⟨Nat.le_of_ble_eq_true rfl, Nat.le_of_ble_eq_true rfl⟩ (Nat.le_of_ble_eq_true rfl) (c_X5_costWith hc2) ?_
  refine ev_istore dX5_firstRoom_20 rfl (by decide) ?_
  show Ev _ _ _ _ 22 _ _ _ [(2, (171 : Int)), (0, x1), (0, x2), (0, x3), (0, x4), (0, x5), (0, v1)] _
  refine ev_iload dX5_firstRoom_22 rfl ?_
  refine ev_sipush dX5_firstRoom_24 (by decide) (by decide) ?_
  refine ev_icmp_ge (tgt := 53) dX5_firstRoom_27 rfl h (fun cb h => ?_) (fun cb h => ?_)
  · exact ev_sub (L2 := [(2, (171 : Int)), (0, x1), (0, x2), (0, x3), (0, x4), (0, x5), (9, 0)]) (e_X5_firstRoom_53 σ x1 x2 x3 x4 x5 h K) ⟨.inr rfl, .inr rfl, .inr rfl, .inr rfl, .inr rfl, .inr rfl, .inl rfl, trivial⟩
  refine ev_iload dX5_firstRoom_30 rfl ?_
  refine ev_iconst dX5_firstRoom_32 (by decide) ?_
  refine ev_icmp_eq (tgt := 49) dX5_firstRoom_33 rfl h (fun cb h => ?_) (fun cb h => ?_)
  · exact ev_sub (L2 := [(2, (171 : Int)), (0, x1), (0, x2), (0, x3), (9, 0), (0, x5), (9, 0)]) (e_X5_firstRoom_49 σ x1 x2 x3 x5 h K) ⟨.inr rfl, .inr rfl, .inr rfl, .inr rfl, .inl rfl, .inr rfl, .inl rfl, trivial⟩
  refine ev_iload dX5_firstRoom_36 rfl ?_
  refine ev_aload_n dX5_firstRoom_38 rfl (by decide) ?_
  refine ev_iload_n dX5_firstRoom_39 rfl ?_
  refine ev_iload dX5_firstRoom_40 rfl ?_
  refine ev_iload_n dX5_firstRoom_42 rfl ?_
  obtain ⟨v3, hc4, h⟩ := bind_of h
  refine ev_invV_v (k := (171 : Int)) (av := [(0, x2), (0, x4), (0, x3)]) (st := [(0, v1)]) (v := (0, v3)) (τ := σ) dX5_firstRoom_43 ml_X5_84 mv_X5_costWith (T := TX5) (ci := 4) rfl sp171 (by decide) (by decide) rfl ⟨Nat.le_of_ble_eq_true rfl, Nat.le_of_ble_eq_true rfl⟩ (Nat.le_of_ble_eq_true rfl) (c_X5_costWith hc4) ?_
  refine ev_icmp_ge (tgt := 53) dX5_firstRoom_46 rfl h (fun cb h => ?_) (fun cb h => ?_)
  · exact ev_sub (L2 := [(2, (171 : Int)), (0, x1), (0, x2), (0, x3), (0, x4), (0, x5), (9, 0)]) (e_X5_firstRoom_53 σ x1 x2 x3 x4 x5 h K) ⟨.inr rfl, .inr rfl, .inr rfl, .inr rfl, .inr rfl, .inr rfl, .inl rfl, trivial⟩
  exact ev_sub (L2 := [(2, (171 : Int)), (0, x1), (0, x2), (0, x3), (9, 0), (0, x5), (9, 0)]) (e_X5_firstRoom_49 σ x1 x2 x3 x5 h K) ⟨.inr rfl, .inr rfl, .inr rfl, .inr rfl, .inl rfl, .inr rfl, .inl rfl, trivial⟩
set_option maxHeartbeats 4000000 in
set_option maxRecDepth 20000 in
theorem e_X5_firstRoom_6 (σ : Mem) (x1 x2 x3 x4 x5 : Int)  {q : Int} (h : f_X5_firstRoom_6 σ x1 x2 x3 x4 x5 = some q) : Ev M_X5_firstRoom 181 181 (some (0, q), rho, σ) 6 181 rho σ [(2, (171 : Int)), (0, x1), (0, x2), (0, x3), (0, x4), (0, x5), (9, 0)] [] := by
  unfold f_X5_firstRoom_6 at h
  obtain ⟨e, hl, h⟩ := bind_of h
  refine loop_ev (K := K_X5_firstRoom_6 σ x1 x2 x3 (some (0, q), rho, σ)) (b_X5_firstRoom_6 σ x1 x2 x3) FU (x4, x5) e hl ?_
  show Ev M_X5_firstRoom 181 181 _ 59 181 rho σ [(9, 0), (9, 0), (9, 0), (9, 0), (0, e), (9, 0), (9, 0)] []
  replace h : some e = some q := h
  refine ev_iload dX5_firstRoom_59 rfl ?_
  obtain rfl := Option.some.inj h
  exact ev_iret dX5_firstRoom_61 rfl rfl
set_option maxHeartbeats 4000000 in
set_option maxRecDepth 20000 in
theorem c_X5_firstRoom {σ : Mem} {x1 x2 x3 : Int}  {q : Int} (h : f_X5_firstRoom σ x1 x2 x3 = some q) : Ms yX5_firstRoom M_X5_firstRoom 181 181 [(2, (171 : Int)), (0, x1), (0, x2), (0, x3)] rho σ (some (0, q), rho, σ) := by
  refine Ms.of 3 (by decide +kernel) rfl (fun z => absurd z (by decide)) (fun _ _ _ => trivial) rfl rfl ?_
  unfold f_X5_firstRoom at h
  show Ev M_X5_firstRoom 181 181 _ 0 181 rho σ [(2, (171 : Int)), (0, x1), (0, x2), (0, x3), (9, 0), (9, 0), (9, 0)] []
  refine ev_iconst dX5_firstRoom_0 (by decide) ?_
  refine ev_istore dX5_firstRoom_1 rfl (by decide) ?_
  show Ev _ _ _ _ 3 _ _ _ [(2, (171 : Int)), (0, x1), (0, x2), (0, x3), (0, (-1 : Int)), (9, 0), (9, 0)] _
  refine ev_iconst dX5_firstRoom_3 (by decide) ?_
  refine ev_istore dX5_firstRoom_4 rfl (by decide) ?_
  show Ev _ _ _ _ 6 _ _ _ [(2, (171 : Int)), (0, x1), (0, x2), (0, x3), (0, (-1 : Int)), (0, (0 : Int)), (9, 0)] _
  exact ev_sub (L2 := [(2, (171 : Int)), (0, x1), (0, x2), (0, x3), (0, (-1 : Int)), (0, (0 : Int)), (9, 0)]) (e_X5_firstRoom_6 σ x1 x2 x3 (-1 : Int) (0 : Int) h) ⟨.inr rfl, .inr rfl, .inr rfl, .inr rfl, .inr rfl, .inr rfl, .inl rfl, trivial⟩
set_option maxHeartbeats 4000000 in
set_option maxRecDepth 20000 in
theorem c_X5_costFrom {σ : Mem} {x1 x2 x3 x4 : Int}  {q : Int} (h : f_X5_costFrom σ x1 x2 x3 x4 = some q) : Ms yX5_costFrom M_X5_costFrom 181 181 [(2, (171 : Int)), (0, x1), (0, x2), (0, x3), (0, x4)] rho σ (some (0, q), rho, σ) := by
  refine Ms.of 1 (by decide +kernel) rfl (fun z => absurd z (by decide)) (fun _ _ _ => trivial) rfl rfl ?_
  unfold f_X5_costFrom at h
  show Ev M_X5_costFrom 181 181 _ 0 181 rho σ [(2, (171 : Int)), (0, x1), (0, x2), (0, x3), (0, x4), (9, 0)] []
  refine ev_aload_n dX5_costFrom_0 rfl (by decide) ?_
  refine ev_getf (j := 1) (t := 2) (x := (173 : Int)) dX5_costFrom_1 cf_X5 wf_X5_15 sp171 (by decide) (by decide) rfl (by decide) (rp171_1 _) ?_
  refine ev_iload dX5_costFrom_4 rfl ?_
  refine ev_lald dX5_costFrom_6 sp173 (by decide) (by decide) h (fun h => ?_)
  refine ev_aload_n dX5_costFrom_7 rfl (by decide) ?_
  refine ev_getf (j := 2) (t := 2) (x := (174 : Int)) dX5_costFrom_8 cf_X5 wf_X5_19 sp171 (by decide) (by decide) rfl (by decide) (rp171_2 _) ?_
  refine ev_iload_n dX5_costFrom_11 rfl ?_
  refine ev_lald dX5_costFrom_12 sp174 (by decide) (by decide) h (fun h => ?_)
  refine ev_land dX5_costFrom_13 ?_
  refine ev_lconst (x := (0 : Int)) dX5_costFrom_14 (by decide) (by decide) ?_
  refine ev_lc_eq (tgt := 23) dX5_costFrom_15 dX5_costFrom_16 rfl h (fun cb h => ?_) (fun cb h => ?_)
  · refine ev_iload_n dX5_costFrom_23 rfl ?_
    refine ev_iconst dX5_costFrom_24 (by decide) ?_
    refine ev_iadd dX5_costFrom_25 ?_
    refine ev_iload_n dX5_costFrom_26 rfl ?_
    refine ev_icmp_lt (tgt := 32) dX5_costFrom_27 rfl h (fun cb h => ?_) (fun cb h => ?_)
    · refine ev_aload_n dX5_costFrom_32 rfl (by decide) ?_
      refine ev_iload_n dX5_costFrom_33 rfl ?_
      refine ev_iload_n dX5_costFrom_34 rfl ?_
      refine ev_iconst dX5_costFrom_35 (by decide) ?_
      refine ev_iadd dX5_costFrom_36 ?_
      refine ev_iload dX5_costFrom_37 rfl ?_
      obtain ⟨v1, hc2, h⟩ := bind_of h
      refine ev_invV_v (k := (171 : Int)) (av := [(0, x1), (0, (jadd x3 (1 : Int))), (0, x4)]) (st := []) (v := (0, v1)) (τ := σ) dX5_costFrom_39 ml_X5_72 mv_X5_firstRoom (T := TX5) (ci := 4) rfl sp171 (by decide) (by decide) rfl ⟨Nat.le_of_ble_eq_true rfl, Nat.le_of_ble_eq_true rfl⟩ (Nat.le_of_ble_eq_true rfl) (c_X5_firstRoom hc2) ?_
      refine ev_istore dX5_costFrom_42 rfl (by decide) ?_
      show Ev _ _ _ _ 44 _ _ _ [(2, (171 : Int)), (0, x1), (0, x2), (0, x3), (0, x4), (0, v1)] _
      refine ev_iload dX5_costFrom_44 rfl ?_
      refine ev_iconst dX5_costFrom_46 (by decide) ?_
      refine ev_icmp_ne (tgt := 56) dX5_costFrom_47 rfl h (fun cb h => ?_) (fun cb h => ?_)
      · refine ev_aload_n dX5_costFrom_56 rfl (by decide) ?_
        refine ev_iload_n dX5_costFrom_57 rfl ?_
        refine ev_iconst dX5_costFrom_58 (by decide) ?_
        refine ev_iadd dX5_costFrom_59 ?_
        refine ev_iload dX5_costFrom_60 rfl ?_
        refine ev_iload dX5_costFrom_62 rfl ?_
        obtain ⟨v3, hc4, h⟩ := bind_of h
        refine ev_invV_v (k := (171 : Int)) (av := [(0, (jadd x3 (1 : Int))), (0, v1), (0, x4)]) (st := []) (v := (0, v3)) (τ := σ) dX5_costFrom_64 ml_X5_84 mv_X5_costWith (T := TX5) (ci := 4) rfl sp171 (by decide) (by decide) rfl ⟨Nat.le_of_ble_eq_true rfl, Nat.le_of_ble_eq_true rfl⟩ (Nat.le_of_ble_eq_true rfl) (c_X5_costWith hc4) ?_
        obtain rfl := Option.some.inj h
        exact ev_iret dX5_costFrom_67 rfl rfl
      refine ev_sipush dX5_costFrom_50 (by decide) (by decide) ?_
      refine ev_goto (tgt := 67) dX5_costFrom_53 rfl ?_
      obtain rfl := Option.some.inj h
      exact ev_iret dX5_costFrom_67 rfl rfl
    refine ev_iconst dX5_costFrom_30 (by decide) ?_
    obtain rfl := Option.some.inj h
    exact ev_iret dX5_costFrom_31 rfl rfl
  refine ev_sipush dX5_costFrom_19 (by decide) (by decide) ?_
  obtain rfl := Option.some.inj h
  exact ev_iret dX5_costFrom_22 rfl rfl
def K_X5_countMoves_11 (x1 x2 x3 : Int) (r : Option V × Mem × Mem) : (Int × Mem) ⊕ ((Mem)) → Prop := Sum.elim (fun a => Ev M_X5_countMoves 181 181 r 11 181 rho a.2 [(2, (171 : Int)), (0, x1), (0, x2), (0, x3), (0, a.1)] []) (fun e => Ev M_X5_countMoves 181 181 r 44 181 rho e [(2, (171 : Int)), (0, x1), (0, x2), (0, x3), (9, 0)] [])
def K_X5_countMoves_4 (x1 x2 : Int) (r : Option V × Mem × Mem) : (Int × Mem) ⊕ ((Mem)) → Prop := Sum.elim (fun a => Ev M_X5_countMoves 181 181 r 4 181 rho a.2 [(2, (171 : Int)), (0, x1), (0, x2), (0, a.1), (9, 0)] []) (fun e => Ev M_X5_countMoves 181 181 r 50 181 rho e [(9, 0), (9, 0), (9, 0), (9, 0), (9, 0)] [])
set_option maxHeartbeats 4000000 in
set_option maxRecDepth 20000 in
theorem e_X5_countMoves_44 (σ : Mem) (x1 x2 x3 : Int)  {q : ((Int × Mem) ⊕ ((Mem)))} (h : f_X5_countMoves_44 σ x1 x2 x3 = some q) {r : Option V × Mem × Mem} (K : K_X5_countMoves_4 x1 x2 r q) : Ev M_X5_countMoves 181 181 r 44 181 rho σ [(2, (171 : Int)), (0, x1), (0, x2), (0, x3), (9, 0)] [] := by
  unfold f_X5_countMoves_44 at h
  refine ev_iincG dX5_countMoves_44 rfl h rfl (fun v6 h => ?_)
  show Ev _ _ _ _ 47 _ _ _ [(2, (171 : Int)), (0, x1), (0, x2), (0, v6), (9, 0)] _
  refine ev_goto (tgt := 4) dX5_countMoves_47 rfl ?_
  obtain rfl := Option.some.inj h
  exact ev_sub (L2 := [(2, (171 : Int)), (0, x1), (0, x2), (0, v6), (9, 0)]) K ⟨.inr rfl, .inr rfl, .inr rfl, .inr rfl, .inl rfl, trivial⟩
set_option maxHeartbeats 4000000 in
set_option maxRecDepth 20000 in
theorem b_X5_countMoves_11 (x1 x2 x3 : Int)  {r : Option V × Mem × Mem} : ∀ a x, f_X5_countMoves_11B x1 x2 x3 a = some x → K_X5_countMoves_11 x1 x2 x3 r x → K_X5_countMoves_11 x1 x2 x3 r (.inl a) := by
  intro a x h K
  obtain ⟨x4, σ⟩ := a
  have h : f_X5_countMoves_11C x1 x2 x3 x4 σ = some x := h
  unfold f_X5_countMoves_11C at h
  show Ev M_X5_countMoves 181 181 r 11 181 rho σ [(2, (171 : Int)), (0, x1), (0, x2), (0, x3), (0, x4)] []
  refine ev_iload dX5_countMoves_11 rfl ?_
  refine ev_iload_n dX5_countMoves_13 rfl ?_
  refine ev_icmp_ge (tgt := 44) dX5_countMoves_14 rfl h (fun cb h => ?_) (fun cb h => ?_)
  · obtain rfl := Option.some.inj h
    exact ev_sub (L2 := [(2, (171 : Int)), (0, x1), (0, x2), (0, x3), (9, 0)]) K ⟨.inr rfl, .inr rfl, .inr rfl, .inr rfl, .inl rfl, trivial⟩
  refine ev_aload_n dX5_countMoves_17 rfl (by decide) ?_
  refine ev_getf (j := 6) (t := 2) (x := (178 : Int)) dX5_countMoves_18 cf_X5 wf_X5_31 sp171 (by decide) (by decide) rfl (by decide) (rp171_6 _) ?_
  refine ev_iload_n dX5_countMoves_21 rfl ?_
  refine ev_bipush dX5_countMoves_22 (by decide) (by decide) ?_
  refine ev_imul dX5_countMoves_24 ?_
  refine ev_iload dX5_countMoves_25 rfl ?_
  refine ev_iadd dX5_countMoves_27 ?_
  refine ev_aload_n dX5_countMoves_28 rfl (by decide) ?_
  refine ev_iload_n dX5_countMoves_29 rfl ?_
  refine ev_iload_n dX5_countMoves_30 rfl ?_
  refine ev_iload_n dX5_countMoves_31 rfl ?_
  show Ev _ _ _ _ 32 _ _ _ _ _
  refine ev_iload dX5_countMoves_32 rfl ?_
  obtain ⟨v2, hc3, h⟩ := bind_of h
  refine ev_invV_v (k := (171 : Int)) (av := [(0, x1), (0, x2), (0, x3), (0, x4)]) (st := [(0, (jadd (jmul x3 (6 : Int)) x4)), (2, (178 : Int))]) (v := (0, v2)) (τ := σ) dX5_countMoves_34 ml_X5_80 mv_X5_costFrom (T := TX5) (ci := 4) rfl sp171 (by decide) (by decide) rfl ⟨Nat.le_of_ble_eq_true rfl, Nat.le_of_ble_eq_true rfl⟩ (Nat.le_of_ble_eq_true rfl) (c_X5_costFrom hc3) ?_
  refine ev_iastG dX5_countMoves_37 sp178 (by decide) (by decide) h (fun σ4 h => ?_)
  refine ev_iincG dX5_countMoves_38 rfl h rfl (fun v5 h => ?_)
  show Ev _ _ _ _ 41 _ _ _ [(2, (171 : Int)), (0, x1), (0, x2), (0, x3), (0, v5)] _
  refine ev_goto (tgt := 11) dX5_countMoves_41 rfl ?_
  obtain rfl := Option.some.inj h
  exact ev_sub (L2 := [(2, (171 : Int)), (0, x1), (0, x2), (0, x3), (0, v5)]) K ⟨.inr rfl, .inr rfl, .inr rfl, .inr rfl, .inr rfl, trivial⟩
set_option maxHeartbeats 4000000 in
set_option maxRecDepth 20000 in
theorem e_X5_countMoves_11 (σ : Mem) (x1 x2 x3 x4 : Int)  {q : ((Int × Mem) ⊕ ((Mem)))} (h : f_X5_countMoves_11 σ x1 x2 x3 x4 = some q) {r : Option V × Mem × Mem} (K : K_X5_countMoves_4 x1 x2 r q) : Ev M_X5_countMoves 181 181 r 11 181 rho σ [(2, (171 : Int)), (0, x1), (0, x2), (0, x3), (0, x4)] [] := by
  unfold f_X5_countMoves_11 at h
  obtain ⟨e, hl, h⟩ := bind_of h
  refine loop_ev (K := K_X5_countMoves_11 x1 x2 x3 r) (b_X5_countMoves_11 x1 x2 x3) FU (x4, σ) e hl ?_
  show Ev M_X5_countMoves 181 181 r 44 181 rho e [(2, (171 : Int)), (0, x1), (0, x2), (0, x3), (9, 0)] []
  replace h : f_X5_countMoves_44 e x1 x2 x3 = some q := h
  exact ev_sub (L2 := [(2, (171 : Int)), (0, x1), (0, x2), (0, x3), (9, 0)]) (e_X5_countMoves_44 e x1 x2 x3 h K) ⟨.inr rfl, .inr rfl, .inr rfl, .inr rfl, .inl rfl, trivial⟩
set_option maxHeartbeats 4000000 in
set_option maxRecDepth 20000 in
theorem b_X5_countMoves_4 (x1 x2 : Int)  {r : Option V × Mem × Mem} : ∀ a x, f_X5_countMoves_4B x1 x2 a = some x → K_X5_countMoves_4 x1 x2 r x → K_X5_countMoves_4 x1 x2 r (.inl a) := by
  intro a x h K
  obtain ⟨x3, σ⟩ := a
  have h : f_X5_countMoves_4C x1 x2 x3 σ = some x := h
  unfold f_X5_countMoves_4C at h
  show Ev M_X5_countMoves 181 181 r 4 181 rho σ [(2, (171 : Int)), (0, x1), (0, x2), (0, x3), (9, 0)] []
  refine ev_iload_n dX5_countMoves_4 rfl ?_
  refine ev_if_lt (tgt := 50) dX5_countMoves_5 rfl h (fun cb h => ?_) (fun cb h => ?_)
  · obtain rfl := Option.some.inj h
    exact ev_sub (L2 := [(9, 0), (9, 0), (9, 0), (9, 0), (9, 0)]) K ⟨.inl rfl, .inl rfl, .inl rfl, .inl rfl, .inl rfl, trivial⟩
  refine ev_iconst dX5_countMoves_8 (by decide) ?_
  refine ev_istore dX5_countMoves_9 rfl (by decide) ?_
  show Ev _ _ _ _ 11 _ _ _ [(2, (171 : Int)), (0, x1), (0, x2), (0, x3), (0, (0 : Int))] _
  exact ev_sub (L2 := [(2, (171 : Int)), (0, x1), (0, x2), (0, x3), (0, (0 : Int))]) (e_X5_countMoves_11 σ x1 x2 x3 (0 : Int) h K) ⟨.inr rfl, .inr rfl, .inr rfl, .inr rfl, .inr rfl, trivial⟩
set_option maxHeartbeats 4000000 in
set_option maxRecDepth 20000 in
theorem e_X5_countMoves_4 (σ : Mem) (x1 x2 x3 : Int)  {q : Mem} (h : f_X5_countMoves_4 σ x1 x2 x3 = some q) : Ev M_X5_countMoves 181 181 (none, rho, q) 4 181 rho σ [(2, (171 : Int)), (0, x1), (0, x2), (0, x3), (9, 0)] [] := by
  unfold f_X5_countMoves_4 at h
  obtain ⟨e, hl, h⟩ := bind_of h
  refine loop_ev (K := K_X5_countMoves_4 x1 x2 (none, rho, q)) (b_X5_countMoves_4 x1 x2) FU (x3, σ) e hl ?_
  show Ev M_X5_countMoves 181 181 _ 50 181 rho e [(9, 0), (9, 0), (9, 0), (9, 0), (9, 0)] []
  replace h : some e = some q := h
  obtain rfl := Option.some.inj h
  exact ev_vret dX5_countMoves_50 rfl rfl
set_option maxHeartbeats 4000000 in
set_option maxRecDepth 20000 in
theorem c_X5_countMoves {σ : Mem} {x1 x2 : Int}  {q : Mem} (h : f_X5_countMoves σ x1 x2 = some q) : Ms yX5_countMoves M_X5_countMoves 181 181 [(2, (171 : Int)), (0, x1), (0, x2)] rho σ (none, rho, q) := by
  refine Ms.of 2 (by decide +kernel) rfl (fun z => absurd z (by decide)) (fun _ _ _ => trivial) rfl rfl ?_
  unfold f_X5_countMoves at h
  show Ev M_X5_countMoves 181 181 _ 0 181 rho σ [(2, (171 : Int)), (0, x1), (0, x2), (9, 0), (9, 0)] []
  refine ev_iload_n dX5_countMoves_0 rfl ?_
  refine ev_iconst dX5_countMoves_1 (by decide) ?_
  refine ev_isub dX5_countMoves_2 ?_
  refine ev_istore_nG dX5_countMoves_3 h rfl (by decide) (fun v1 h => ?_)
  show Ev _ _ _ _ 4 _ _ _ [(2, (171 : Int)), (0, x1), (0, x2), (0, v1), (9, 0)] _
  exact ev_sub (L2 := [(2, (171 : Int)), (0, x1), (0, x2), (0, v1), (9, 0)]) (e_X5_countMoves_4 σ x1 x2 v1 h) ⟨.inr rfl, .inr rfl, .inr rfl, .inr rfl, .inl rfl, trivial⟩
def K_X5_fill_3 (x2 x3 : Int) (r : Option V × Mem × Mem) : (Int × Mem) ⊕ ((Mem)) → Prop := Sum.elim (fun a => Ev M_X5_fill 181 181 r 3 181 rho a.2 [(2, (171 : Int)), (2, (1 : Int)), (0, x2), (1, x3), (9, 0), (0, a.1), (9, 0)] []) (fun e => Ev M_X5_fill 181 181 r 74 181 rho e [(9, 0), (9, 0), (9, 0), (9, 0), (9, 0), (9, 0), (9, 0)] [])
set_option maxHeartbeats 4000000 in
set_option maxRecDepth 20000 in
theorem e_X5_fill_68 (σ : Mem) (x2 x3 x5 : Int)  {q : ((Int × Mem) ⊕ ((Mem)))} (h : f_X5_fill_68 σ x2 x3 x5 = some q) {r : Option V × Mem × Mem} (K : K_X5_fill_3 x2 x3 r q) : Ev M_X5_fill 181 181 r 68 181 rho σ [(2, (171 : Int)), (2, (1 : Int)), (0, x2), (1, x3), (9, 0), (0, x5), (9, 0)] [] := by
  unfold f_X5_fill_68 at h
  refine ev_iincG dX5_fill_68 rfl h rfl (fun v6 h => ?_)
  show Ev _ _ _ _ 71 _ _ _ [(2, (171 : Int)), (2, (1 : Int)), (0, x2), (1, x3), (9, 0), (0, v6), (9, 0)] _
  refine ev_goto (tgt := 3) dX5_fill_71 rfl ?_
  obtain rfl := Option.some.inj h
  exact ev_sub (L2 := [(2, (171 : Int)), (2, (1 : Int)), (0, x2), (1, x3), (9, 0), (0, v6), (9, 0)]) K ⟨.inr rfl, .inr rfl, .inr rfl, .inr rfl, .inl rfl, .inr rfl, .inl rfl, trivial⟩
set_option maxHeartbeats 4000000 in
set_option maxRecDepth 20000 in
theorem b_X5_fill_3 (x2 x3 : Int)  {r : Option V × Mem × Mem} : ∀ a x, f_X5_fill_3B x2 x3 a = some x → K_X5_fill_3 x2 x3 r x → K_X5_fill_3 x2 x3 r (.inl a) := by
  intro a x h K
  obtain ⟨x5, σ⟩ := a
  have h : f_X5_fill_3C x2 x3 x5 σ = some x := h
  unfold f_X5_fill_3C at h
  show Ev M_X5_fill 181 181 r 3 181 rho σ [(2, (171 : Int)), (2, (1 : Int)), (0, x2), (1, x3), (9, 0), (0, x5), (9, 0)] []
  refine ev_iload dX5_fill_3 rfl ?_
  refine ev_bipush dX5_fill_5 (by decide) (by decide) ?_
  refine ev_icmp_ge (tgt := 74) dX5_fill_7 rfl h (fun cb h => ?_) (fun cb h => ?_)
  · obtain rfl := Option.some.inj h
    exact ev_sub (L2 := [(9, 0), (9, 0), (9, 0), (9, 0), (9, 0), (9, 0), (9, 0)]) K ⟨.inl rfl, .inl rfl, .inl rfl, .inl rfl, .inl rfl, .inl rfl, .inl rfl, trivial⟩
  refine ev_lload_n dX5_fill_10 rfl ?_
  refine ev_iload dX5_fill_11 rfl ?_
  obtain ⟨v1, hc2, h⟩ := bind_of h
  refine ev_invSN_v (av := [(1, x3), (0, x5)]) (st := []) (v := (0, v1)) (τ := σ) dX5_fill_13 ml_X5_87 mt_X10_hasSlot rfl ⟨Nat.le_of_ble_eq_true rfl, Nat.le_of_ble_eq_true rfl⟩ (Nat.le_of_ble_eq_true rfl) (c_X10_hasSlot hc2) ?_
  refine ev_if_eq (tgt := 68) dX5_fill_16 rfl h (fun cb h => ?_) (fun cb h => ?_)
  · exact ev_sub (L2 := [(2, (171 : Int)), (2, (1 : Int)), (0, x2), (1, x3), (9, 0), (0, x5), (9, 0)]) (e_X5_fill_68 σ x2 x3 x5 h K) ⟨.inr rfl, .inr rfl, .inr rfl, .inr rfl, .inl rfl, .inr rfl, .inl rfl, trivial⟩
  refine ev_iload_n dX5_fill_19 rfl ?_
  refine ev_bipush dX5_fill_20 (by decide) (by decide) ?_
  refine ev_imul dX5_fill_22 ?_
  refine ev_iload dX5_fill_23 rfl ?_
  refine ev_iadd dX5_fill_25 ?_
  refine ev_istoreG dX5_fill_26 h rfl (by decide) (fun v3 h => ?_)
  show Ev _ _ _ _ 28 _ _ _ [(2, (171 : Int)), (2, (1 : Int)), (0, x2), (1, x3), (9, 0), (0, x5), (0, v3)] _
  refine ev_aload_n dX5_fill_28 rfl (by decide) ?_
  refine ev_getf (j := 0) (t := 2) (x := (172 : Int)) dX5_fill_29 cf_X5 wf_X5_9 sp171 (by decide) (by decide) rfl (by decide) (rp171_0 _) ?_
  refine ev_iload dX5_fill_32 rfl ?_
  refine ev_dup2 dX5_fill_34 (show (0 : Nat) ≠ 1 by decide) (show (2 : Nat) ≠ 1 by decide) ?_
  refine ev_iald dX5_fill_35 sp172 (by decide) (by decide) h (fun h => ?_)
  show Ev _ _ _ _ 36 _ _ _ _ _
  refine ev_iconst dX5_fill_36 (by decide) ?_
  refine ev_iadd dX5_fill_37 ?_
  refine ev_iastG dX5_fill_38 sp172 (by decide) (by decide) h (fun σ4 h => ?_)
  refine ev_aload_n dX5_fill_39 rfl (by decide) ?_
  refine ev_getf (j := 0) (t := 2) (x := (172 : Int)) dX5_fill_40 cf_X5 wf_X5_9 sp171 (by decide) (by decide) rfl (by decide) (rp171_0 _) ?_
  refine ev_iload dX5_fill_43 rfl ?_
  refine ev_iald dX5_fill_45 sp172 (by decide) (by decide) h (fun h => ?_)
  refine ev_aload_n dX5_fill_46 rfl (by decide) ?_
  refine ev_getf (j := 7) (t := 2) (x := (9 : Int)) dX5_fill_47 cf_X0 wf_X5_91 sp1 (by decide) (by decide) rfl (by decide) (rp1_7 _) ?_
  refine ev_iload_n dX5_fill_50 rfl ?_
  refine ev_iald dX5_fill_51 sp9 (by decide) (by decide) h (fun h => ?_)
  refine ev_icmp_lt (tgt := 68) dX5_fill_52 rfl h (fun cb h => ?_) (fun cb h => ?_)
  · exact ev_sub (L2 := [(2, (171 : Int)), (2, (1 : Int)), (0, x2), (1, x3), (9, 0), (0, x5), (9, 0)]) (e_X5_fill_68 σ4 x2 x3 x5 h K) ⟨.inr rfl, .inr rfl, .inr rfl, .inr rfl, .inl rfl, .inr rfl, .inl rfl, trivial⟩
  refine ev_aload_n dX5_fill_55 rfl (by decide) ?_
  refine ev_getf (j := 1) (t := 2) (x := (173 : Int)) dX5_fill_56 cf_X5 wf_X5_15 sp171 (by decide) (by decide) rfl (by decide) (rp171_1 _) ?_
  refine ev_iload_n dX5_fill_59 rfl ?_
  refine ev_dup2 dX5_fill_60 (show (0 : Nat) ≠ 1 by decide) (show (2 : Nat) ≠ 1 by decide) ?_
  refine ev_lald dX5_fill_61 sp173 (by decide) (by decide) h (fun h => ?_)
  refine ev_lconst (x := (1 : Int)) dX5_fill_62 (by decide) (by decide) ?_
  refine ev_iload dX5_fill_63 rfl ?_
  refine ev_lshl dX5_fill_65 ?_
  refine ev_lor dX5_fill_66 ?_
  refine ev_lastG dX5_fill_67 sp173 (by decide) (by decide) h (fun σ5 h => ?_)
  exact ev_sub (L2 := [(2, (171 : Int)), (2, (1 : Int)), (0, x2), (1, x3), (9, 0), (0, x5), (9, 0)]) (e_X5_fill_68 σ5 x2 x3 x5 h K) ⟨.inr rfl, .inr rfl, .inr rfl, .inr rfl, .inl rfl, .inr rfl, .inl rfl, trivial⟩
set_option maxHeartbeats 4000000 in
set_option maxRecDepth 20000 in
theorem e_X5_fill_3 (σ : Mem) (x2 x3 x5 : Int)  {q : Mem} (h : f_X5_fill_3 σ x2 x3 x5 = some q) : Ev M_X5_fill 181 181 (none, rho, q) 3 181 rho σ [(2, (171 : Int)), (2, (1 : Int)), (0, x2), (1, x3), (9, 0), (0, x5), (9, 0)] [] := by
  unfold f_X5_fill_3 at h
  obtain ⟨e, hl, h⟩ := bind_of h
  refine loop_ev (K := K_X5_fill_3 x2 x3 (none, rho, q)) (b_X5_fill_3 x2 x3) FU (x5, σ) e hl ?_
  show Ev M_X5_fill 181 181 _ 74 181 rho e [(9, 0), (9, 0), (9, 0), (9, 0), (9, 0), (9, 0), (9, 0)] []
  replace h : some e = some q := h
  obtain rfl := Option.some.inj h
  exact ev_vret dX5_fill_74 rfl rfl
set_option maxHeartbeats 4000000 in
set_option maxRecDepth 20000 in
theorem c_X5_fill {σ : Mem} {x2 x3 : Int}  {q : Mem} (h : f_X5_fill σ x2 x3 = some q) : Ms yX5_fill M_X5_fill 181 181 [(2, (171 : Int)), (2, (1 : Int)), (0, x2), (1, x3)] rho σ (none, rho, q) := by
  refine Ms.of 2 (by decide +kernel) rfl (fun z => absurd z (by decide)) (fun _ _ _ => trivial) rfl rfl ?_
  unfold f_X5_fill at h
  show Ev M_X5_fill 181 181 _ 0 181 rho σ [(2, (171 : Int)), (2, (1 : Int)), (0, x2), (1, x3), (9, 0), (9, 0), (9, 0)] []
  refine ev_iconst dX5_fill_0 (by decide) ?_
  refine ev_istore dX5_fill_1 rfl (by decide) ?_
  show Ev _ _ _ _ 3 _ _ _ [(2, (171 : Int)), (2, (1 : Int)), (0, x2), (1, x3), (9, 0), (0, (0 : Int)), (9, 0)] _
  exact ev_sub (L2 := [(2, (171 : Int)), (2, (1 : Int)), (0, x2), (1, x3), (9, 0), (0, (0 : Int)), (9, 0)]) (e_X5_fill_3 σ x2 x3 (0 : Int) h) ⟨.inr rfl, .inr rfl, .inr rfl, .inr rfl, .inl rfl, .inr rfl, .inl rfl, trivial⟩
def K_X5_seat_94 (x2 x3 : Int) (r : Option V × Mem × Mem) : (Int × Int × Mem) ⊕ ((Mem)) → Prop := Sum.elim (fun a => Ev M_X5_seat 181 181 r 94 181 rho a.2.2 [(2, (171 : Int)), (2, (1 : Int)), (0, x2), (0, x3), (0, a.1), (0, a.2.1)] []) (fun e => Ev M_X5_seat 181 181 r 168 181 rho e [(9, 0), (9, 0), (9, 0), (9, 0), (9, 0), (9, 0)] [])
def K_X5_seat_10 (x2 x3 : Int) (r : Option V × Mem × Mem) : (Int × Mem) ⊕ ((Mem)) → Prop := Sum.elim (fun a => Ev M_X5_seat 181 181 r 10 181 rho a.2 [(2, (171 : Int)), (2, (1 : Int)), (0, x2), (0, x3), (0, a.1), (9, 0)] []) (fun e => Ev M_X5_seat 181 181 r 35 181 rho e [(2, (171 : Int)), (2, (1 : Int)), (0, x2), (0, x3), (9, 0), (9, 0)] [])
set_option maxHeartbeats 4000000 in
set_option maxRecDepth 20000 in
theorem e_X5_seat_160 (σ : Mem) (x2 x3 x5 s0 : Int)  {q : ((Int × Int × Mem) ⊕ ((Mem)))} (h : f_X5_seat_160 σ x2 x3 x5 s0 = some q) {r : Option V × Mem × Mem} (K : K_X5_seat_94 x2 x3 r q) : Ev M_X5_seat 181 181 r 160 181 rho σ [(2, (171 : Int)), (2, (1 : Int)), (0, x2), (0, x3), (9, 0), (0, x5)] [(0, s0)] := by
  unfold f_X5_seat_160 at h
  refine ev_istore dX5_seat_160 rfl (by decide) ?_
  show Ev _ _ _ _ 162 _ _ _ [(2, (171 : Int)), (2, (1 : Int)), (0, x2), (0, x3), (0, s0), (0, x5)] _
  refine ev_iincG dX5_seat_162 rfl h rfl (fun v15 h => ?_)
  show Ev _ _ _ _ 165 _ _ _ [(2, (171 : Int)), (2, (1 : Int)), (0, x2), (0, x3), (0, s0), (0, v15)] _
  refine ev_goto (tgt := 94) dX5_seat_165 rfl ?_
  obtain rfl := Option.some.inj h
  exact ev_sub (L2 := [(2, (171 : Int)), (2, (1 : Int)), (0, x2), (0, x3), (0, s0), (0, v15)]) K ⟨.inr rfl, .inr rfl, .inr rfl, .inr rfl, .inr rfl, .inr rfl, trivial⟩
set_option maxHeartbeats 4000000 in
set_option maxRecDepth 20000 in
theorem b_X5_seat_94 (x2 x3 : Int)  {r : Option V × Mem × Mem} : ∀ a x, f_X5_seat_94B x2 x3 a = some x → K_X5_seat_94 x2 x3 r x → K_X5_seat_94 x2 x3 r (.inl a) := by
  intro a x h K
  obtain ⟨x4, x5, σ⟩ := a
  have h : f_X5_seat_94C x2 x3 x4 x5 σ = some x := h
  unfold f_X5_seat_94C at h
  show Ev M_X5_seat 181 181 r 94 181 rho σ [(2, (171 : Int)), (2, (1 : Int)), (0, x2), (0, x3), (0, x4), (0, x5)] []
  refine ev_iload dX5_seat_94 rfl ?_
  refine ev_iload_n dX5_seat_96 rfl ?_
  refine ev_icmp_ge (tgt := 168) dX5_seat_97 rfl h (fun cb h => ?_) (fun cb h => ?_)
  · obtain rfl := Option.some.inj h
    exact ev_sub (L2 := [(9, 0), (9, 0), (9, 0), (9, 0), (9, 0), (9, 0)]) K ⟨.inl rfl, .inl rfl, .inl rfl, .inl rfl, .inl rfl, .inl rfl, trivial⟩
  refine ev_iload dX5_seat_100 rfl ?_
  refine ev_iconst dX5_seat_102 (by decide) ?_
  refine ev_icmp_eq (tgt := 168) dX5_seat_103 rfl h (fun cb h => ?_) (fun cb h => ?_)
  · obtain rfl := Option.some.inj h
    exact ev_sub (L2 := [(9, 0), (9, 0), (9, 0), (9, 0), (9, 0), (9, 0)]) K ⟨.inl rfl, .inl rfl, .inl rfl, .inl rfl, .inl rfl, .inl rfl, trivial⟩
  refine ev_aload_n dX5_seat_106 rfl (by decide) ?_
  refine ev_getf (j := 5) (t := 2) (x := (177 : Int)) dX5_seat_107 cf_X5 wf_X5_28 sp171 (by decide) (by decide) rfl (by decide) (rp171_5 _) ?_
  refine ev_iload_n dX5_seat_110 rfl ?_
  refine ev_bipush dX5_seat_111 (by decide) (by decide) ?_
  refine ev_imul dX5_seat_113 ?_
  refine ev_iload dX5_seat_114 rfl ?_
  refine ev_iadd dX5_seat_116 ?_
  refine ev_iload dX5_seat_117 rfl ?_
  refine ev_iastG dX5_seat_119 sp177 (by decide) (by decide) h (fun σ10 h => ?_)
  refine ev_aload_n dX5_seat_120 rfl (by decide) ?_
  refine ev_aload_n dX5_seat_121 rfl (by decide) ?_
  show Ev _ _ _ _ 122 _ _ _ _ _
  refine ev_iload dX5_seat_122 rfl ?_
  refine ev_aload_n dX5_seat_124 rfl (by decide) ?_
  refine ev_getf (j := 2) (t := 2) (x := (174 : Int)) dX5_seat_125 cf_X5 wf_X5_19 sp171 (by decide) (by decide) rfl (by decide) (rp171_2 _) ?_
  refine ev_iload dX5_seat_128 rfl ?_
  refine ev_lald dX5_seat_130 sp174 (by decide) (by decide) h (fun h => ?_)
  obtain ⟨σ11, hc12, h⟩ := bind_of h
  refine ev_invV_n (k := (171 : Int)) (av := [(2, (1 : Int)), (0, x4), (1, (σ10 (174 : Int) x5))]) (st := []) (τ := σ11) dX5_seat_131 ml_X5_76 mv_X5_fill (T := TX5) (ci := 4) rfl sp171 (by decide) (by decide) rfl ⟨Nat.le_of_ble_eq_true rfl, Nat.le_of_ble_eq_true rfl⟩ (Nat.le_of_ble_eq_true rfl) (c_X5_fill hc12) ?_
  refine ev_iload dX5_seat_134 rfl ?_
  refine ev_iconst dX5_seat_136 (by decide) ?_
  refine ev_iadd dX5_seat_137 ?_
  refine ev_iload_n dX5_seat_138 rfl ?_
  refine ev_icmp_ge (tgt := 159) dX5_seat_139 rfl h (fun cb h => ?_) (fun cb h => ?_)
  · refine ev_iconst dX5_seat_159 (by decide) ?_
    exact ev_sub (L2 := [(2, (171 : Int)), (2, (1 : Int)), (0, x2), (0, x3), (9, 0), (0, x5)]) (e_X5_seat_160 σ11 x2 x3 x5 (-1 : Int) h K) ⟨.inr rfl, .inr rfl, .inr rfl, .inr rfl, .inl rfl, .inr rfl, trivial⟩
  refine ev_aload_n dX5_seat_142 rfl (by decide) ?_
  refine ev_aload_n dX5_seat_143 rfl (by decide) ?_
  refine ev_getf (j := 10) (t := 0) (x := (σ11 (1 : Int) 10)) dX5_seat_144 cf_X0 wf_X5_65 sp1 (by decide) (by decide) rfl (by decide) rfl ?_
  refine ev_iload dX5_seat_147 rfl ?_
  refine ev_iconst dX5_seat_149 (by decide) ?_
  refine ev_iadd dX5_seat_150 ?_
  refine ev_iload dX5_seat_151 rfl ?_
  obtain ⟨v13, hc14, h⟩ := bind_of h
  refine ev_invV_v (k := (171 : Int)) (av := [(0, (σ11 (1 : Int) 10)), (0, (jadd x5 (1 : Int))), (0, x4)]) (st := []) (v := (0, v13)) (τ := σ11) dX5_seat_153 ml_X5_72 mv_X5_firstRoom (T := TX5) (ci := 4) rfl sp171 (by decide) (by decide) rfl ⟨Nat.le_of_ble_eq_true rfl, Nat.le_of_ble_eq_true rfl⟩ (Nat.le_of_ble_eq_true rfl) (c_X5_firstRoom hc14) ?_
  refine ev_goto (tgt := 160) dX5_seat_156 rfl ?_
  exact ev_sub (L2 := [(2, (171 : Int)), (2, (1 : Int)), (0, x2), (0, x3), (9, 0), (0, x5)]) (e_X5_seat_160 σ11 x2 x3 x5 v13 h K) ⟨.inr rfl, .inr rfl, .inr rfl, .inr rfl, .inl rfl, .inr rfl, trivial⟩
set_option maxHeartbeats 4000000 in
set_option maxRecDepth 20000 in
theorem e_X5_seat_94 (σ : Mem) (x2 x3 x4 x5 : Int)  {q : Mem} (h : f_X5_seat_94 σ x2 x3 x4 x5 = some q) : Ev M_X5_seat 181 181 (none, rho, q) 94 181 rho σ [(2, (171 : Int)), (2, (1 : Int)), (0, x2), (0, x3), (0, x4), (0, x5)] [] := by
  unfold f_X5_seat_94 at h
  obtain ⟨e, hl, h⟩ := bind_of h
  refine loop_ev (K := K_X5_seat_94 x2 x3 (none, rho, q)) (b_X5_seat_94 x2 x3) FU (x4, x5, σ) e hl ?_
  show Ev M_X5_seat 181 181 _ 168 181 rho e [(9, 0), (9, 0), (9, 0), (9, 0), (9, 0), (9, 0)] []
  replace h : some e = some q := h
  obtain rfl := Option.some.inj h
  exact ev_vret dX5_seat_168 rfl rfl
set_option maxHeartbeats 4000000 in
set_option maxRecDepth 20000 in
theorem e_X5_seat_90 (σ : Mem) (x2 x3 x4 s2 s1 : Int)  {q : Mem} (h : f_X5_seat_90 σ x2 x3 x4 s2 s1 = some q) : Ev M_X5_seat 181 181 (none, rho, q) 90 181 rho σ [(2, (171 : Int)), (2, (1 : Int)), (0, x2), (0, x3), (0, x4), (9, 0)] [(0, s2), (0, s1), (2, (176 : Int))] := by
  unfold f_X5_seat_90 at h
  refine ev_iastG dX5_seat_90 sp176 (by decide) (by decide) h (fun σ9 h => ?_)
  refine ev_iconst dX5_seat_91 (by decide) ?_
  refine ev_istore dX5_seat_92 rfl (by decide) ?_
  show Ev _ _ _ _ 94 _ _ _ [(2, (171 : Int)), (2, (1 : Int)), (0, x2), (0, x3), (0, x4), (0, (0 : Int))] _
  exact ev_sub (L2 := [(2, (171 : Int)), (2, (1 : Int)), (0, x2), (0, x3), (0, x4), (0, (0 : Int))]) (e_X5_seat_94 σ9 x2 x3 x4 (0 : Int) h) ⟨.inr rfl, .inr rfl, .inr rfl, .inr rfl, .inr rfl, .inr rfl, trivial⟩
set_option maxHeartbeats 4000000 in
set_option maxRecDepth 20000 in
theorem e_X5_seat_35 (σ : Mem) (x2 x3 : Int)  {q : Mem} (h : f_X5_seat_35 σ x2 x3 = some q) : Ev M_X5_seat 181 181 (none, rho, q) 35 181 rho σ [(2, (171 : Int)), (2, (1 : Int)), (0, x2), (0, x3), (9, 0), (9, 0)] [] := by
  unfold f_X5_seat_35 at h
  refine ev_aload_n dX5_seat_35 rfl (by decide) ?_
  refine ev_getf (j := 4) (t := 2) (x := (176 : Int)) dX5_seat_36 cf_X5 wf_X5_25 sp171 (by decide) (by decide) rfl (by decide) (rp171_4 _) ?_
  refine ev_iload_n dX5_seat_39 rfl ?_
  refine ev_iconst dX5_seat_40 (by decide) ?_
  refine ev_iastG dX5_seat_41 sp176 (by decide) (by decide) h (fun σ4 h => ?_)
  refine ev_iload_n dX5_seat_42 rfl ?_
  refine ev_if_ne (tgt := 47) dX5_seat_43 rfl h (fun cb h => ?_) (fun cb h => ?_)
  · refine ev_aload_n dX5_seat_47 rfl (by decide) ?_
    refine ev_aload_n dX5_seat_48 rfl (by decide) ?_
    refine ev_getf (j := 10) (t := 0) (x := (σ4 (1 : Int) 10)) dX5_seat_49 cf_X0 wf_X5_65 sp1 (by decide) (by decide) rfl (by decide) rfl ?_
    refine ev_iload_n dX5_seat_52 rfl ?_
    obtain ⟨σ5, hc6, h⟩ := bind_of h
    refine ev_invV_n (k := (171 : Int)) (av := [(0, (σ4 (1 : Int) 10)), (0, x3)]) (st := []) (τ := σ5) dX5_seat_53 ml_X5_68 mv_X5_countMoves (T := TX5) (ci := 4) rfl sp171 (by decide) (by decide) rfl ⟨Nat.le_of_ble_eq_true rfl, Nat.le_of_ble_eq_true rfl⟩ (Nat.le_of_ble_eq_true rfl) (c_X5_countMoves hc6) ?_
    refine ev_aload_n dX5_seat_56 rfl (by decide) ?_
    refine ev_aload_n dX5_seat_57 rfl (by decide) ?_
    refine ev_getf (j := 10) (t := 0) (x := (σ5 (1 : Int) 10)) dX5_seat_58 cf_X0 wf_X5_65 sp1 (by decide) (by decide) rfl (by decide) rfl ?_
    refine ev_iconst dX5_seat_61 (by decide) ?_
    refine ev_iconst dX5_seat_62 (by decide) ?_
    obtain ⟨v7, hc8, h⟩ := bind_of h
    refine ev_invV_v (k := (171 : Int)) (av := [(0, (σ5 (1 : Int) 10)), (0, (0 : Int)), (0, (-1 : Int))]) (st := []) (v := (0, v7)) (τ := σ5) dX5_seat_63 ml_X5_72 mv_X5_firstRoom (T := TX5) (ci := 4) rfl sp171 (by decide) (by decide) rfl ⟨Nat.le_of_ble_eq_true rfl, Nat.le_of_ble_eq_true rfl⟩ (Nat.le_of_ble_eq_true rfl) (c_X5_firstRoom hc8) ?_
    show Ev _ _ _ _ 66 _ _ _ _ _
    refine ev_istore dX5_seat_66 rfl (by decide) ?_
    show Ev _ _ _ _ 68 _ _ _ [(2, (171 : Int)), (2, (1 : Int)), (0, x2), (0, x3), (0, v7), (9, 0)] _
    refine ev_aload_n dX5_seat_68 rfl (by decide) ?_
    refine ev_getf (j := 4) (t := 2) (x := (176 : Int)) dX5_seat_69 cf_X5 wf_X5_25 sp171 (by decide) (by decide) rfl (by decide) (rp171_4 _) ?_
    refine ev_iload_n dX5_seat_72 rfl ?_
    refine ev_iload dX5_seat_73 rfl ?_
    refine ev_iconst dX5_seat_75 (by decide) ?_
    refine ev_icmp_ne (tgt := 83) dX5_seat_76 rfl h (fun cb h => ?_) (fun cb h => ?_)
    · refine ev_aload_n dX5_seat_83 rfl (by decide) ?_
      refine ev_getf (j := 6) (t := 2) (x := (178 : Int)) dX5_seat_84 cf_X5 wf_X5_31 sp171 (by decide) (by decide) rfl (by decide) (rp171_6 _) ?_
      refine ev_iload dX5_seat_87 rfl ?_
      refine ev_iald dX5_seat_89 sp178 (by decide) (by decide) h (fun h => ?_)
      exact ev_sub (L2 := [(2, (171 : Int)), (2, (1 : Int)), (0, x2), (0, x3), (0, v7), (9, 0)]) (e_X5_seat_90 σ5 x2 x3 v7 (σ5 (178 : Int) v7) x2 h) ⟨.inr rfl, .inr rfl, .inr rfl, .inr rfl, .inr rfl, .inl rfl, trivial⟩
    refine ev_iconst dX5_seat_79 (by decide) ?_
    refine ev_goto (tgt := 90) dX5_seat_80 rfl ?_
    exact ev_sub (L2 := [(2, (171 : Int)), (2, (1 : Int)), (0, x2), (0, x3), (0, v7), (9, 0)]) (e_X5_seat_90 σ5 x2 x3 v7 (-1 : Int) x2 h) ⟨.inr rfl, .inr rfl, .inr rfl, .inr rfl, .inr rfl, .inl rfl, trivial⟩
  obtain rfl := Option.some.inj h
  exact ev_vret dX5_seat_46 rfl rfl
set_option maxHeartbeats 4000000 in
set_option maxRecDepth 20000 in
theorem b_X5_seat_10 (x2 x3 : Int)  {r : Option V × Mem × Mem} : ∀ a x, f_X5_seat_10B x2 x3 a = some x → K_X5_seat_10 x2 x3 r x → K_X5_seat_10 x2 x3 r (.inl a) := by
  intro a x h K
  obtain ⟨x4, σ⟩ := a
  have h : f_X5_seat_10C x2 x3 x4 σ = some x := h
  unfold f_X5_seat_10C at h
  show Ev M_X5_seat 181 181 r 10 181 rho σ [(2, (171 : Int)), (2, (1 : Int)), (0, x2), (0, x3), (0, x4), (9, 0)] []
  refine ev_iload dX5_seat_10 rfl ?_
  refine ev_iload_n dX5_seat_12 rfl ?_
  refine ev_icmp_ge (tgt := 35) dX5_seat_13 rfl h (fun cb h => ?_) (fun cb h => ?_)
  · obtain rfl := Option.some.inj h
    exact ev_sub (L2 := [(2, (171 : Int)), (2, (1 : Int)), (0, x2), (0, x3), (9, 0), (9, 0)]) K ⟨.inr rfl, .inr rfl, .inr rfl, .inr rfl, .inl rfl, .inl rfl, trivial⟩
  refine ev_aload_n dX5_seat_16 rfl (by decide) ?_
  refine ev_getf (j := 5) (t := 2) (x := (177 : Int)) dX5_seat_17 cf_X5 wf_X5_28 sp171 (by decide) (by decide) rfl (by decide) (rp171_5 _) ?_
  refine ev_iload_n dX5_seat_20 rfl ?_
  refine ev_bipush dX5_seat_21 (by decide) (by decide) ?_
  refine ev_imul dX5_seat_23 ?_
  refine ev_iload dX5_seat_24 rfl ?_
  refine ev_iadd dX5_seat_26 ?_
  refine ev_iconst dX5_seat_27 (by decide) ?_
  refine ev_iastG dX5_seat_28 sp177 (by decide) (by decide) h (fun σ2 h => ?_)
  refine ev_iincG dX5_seat_29 rfl h rfl (fun v3 h => ?_)
  show Ev _ _ _ _ 32 _ _ _ [(2, (171 : Int)), (2, (1 : Int)), (0, x2), (0, x3), (0, v3), (9, 0)] _
  refine ev_goto (tgt := 10) dX5_seat_32 rfl ?_
  obtain rfl := Option.some.inj h
  exact ev_sub (L2 := [(2, (171 : Int)), (2, (1 : Int)), (0, x2), (0, x3), (0, v3), (9, 0)]) K ⟨.inr rfl, .inr rfl, .inr rfl, .inr rfl, .inr rfl, .inl rfl, trivial⟩
set_option maxHeartbeats 4000000 in
set_option maxRecDepth 20000 in
theorem e_X5_seat_10 (σ : Mem) (x2 x3 x4 : Int)  {q : Mem} (h : f_X5_seat_10 σ x2 x3 x4 = some q) : Ev M_X5_seat 181 181 (none, rho, q) 10 181 rho σ [(2, (171 : Int)), (2, (1 : Int)), (0, x2), (0, x3), (0, x4), (9, 0)] [] := by
  unfold f_X5_seat_10 at h
  obtain ⟨e, hl, h⟩ := bind_of h
  refine loop_ev (K := K_X5_seat_10 x2 x3 (none, rho, q)) (b_X5_seat_10 x2 x3) FU (x4, σ) e hl ?_
  show Ev M_X5_seat 181 181 _ 35 181 rho e [(2, (171 : Int)), (2, (1 : Int)), (0, x2), (0, x3), (9, 0), (9, 0)] []
  replace h : f_X5_seat_35 e x2 x3 = some q := h
  exact ev_sub (L2 := [(2, (171 : Int)), (2, (1 : Int)), (0, x2), (0, x3), (9, 0), (9, 0)]) (e_X5_seat_35 e x2 x3 h) ⟨.inr rfl, .inr rfl, .inr rfl, .inr rfl, .inl rfl, .inl rfl, trivial⟩
set_option maxHeartbeats 4000000 in
set_option maxRecDepth 20000 in
theorem c_X5_seat {σ : Mem} {x2 : Int}  {q : Mem} (h : f_X5_seat σ x2 = some q) : Ms yX5_seat M_X5_seat 181 181 [(2, (171 : Int)), (2, (1 : Int)), (0, x2)] rho σ (none, rho, q) := by
  refine Ms.of 3 (by decide +kernel) rfl (fun z => absurd z (by decide)) (fun _ _ _ => trivial) rfl rfl ?_
  unfold f_X5_seat at h
  show Ev M_X5_seat 181 181 _ 0 181 rho σ [(2, (171 : Int)), (2, (1 : Int)), (0, x2), (9, 0), (9, 0), (9, 0)] []
  refine ev_aload_n dX5_seat_0 rfl (by decide) ?_
  refine ev_getf (j := 3) (t := 2) (x := (175 : Int)) dX5_seat_1 cf_X5 wf_X5_22 sp171 (by decide) (by decide) rfl (by decide) (rp171_3 _) ?_
  refine ev_iload_n dX5_seat_4 rfl ?_
  refine ev_iald dX5_seat_5 sp175 (by decide) (by decide) h (fun h => ?_)
  refine ev_istore_nG dX5_seat_6 h rfl (by decide) (fun v1 h => ?_)
  show Ev _ _ _ _ 7 _ _ _ [(2, (171 : Int)), (2, (1 : Int)), (0, x2), (0, v1), (9, 0), (9, 0)] _
  refine ev_iconst dX5_seat_7 (by decide) ?_
  refine ev_istore dX5_seat_8 rfl (by decide) ?_
  show Ev _ _ _ _ 10 _ _ _ [(2, (171 : Int)), (2, (1 : Int)), (0, x2), (0, v1), (0, (0 : Int)), (9, 0)] _
  exact ev_sub (L2 := [(2, (171 : Int)), (2, (1 : Int)), (0, x2), (0, v1), (0, (0 : Int)), (9, 0)]) (e_X5_seat_10 σ x2 v1 (0 : Int) h) ⟨.inr rfl, .inr rfl, .inr rfl, .inr rfl, .inr rfl, .inl rfl, trivial⟩
def K_X5_lay_85 (x3 : Int) (r : Option V × Mem × Mem) : (Int × Mem) ⊕ ((Mem)) → Prop := Sum.elim (fun a => Ev M_X5_lay 181 181 r 85 181 rho a.2 [(2, (171 : Int)), (2, (1 : Int)), (2, (43 : Int)), (0, x3), (0, a.1)] []) (fun e => Ev M_X5_lay 181 181 r 129 181 rho e [(9, 0), (9, 0), (9, 0), (9, 0), (9, 0)] [])
def K_X5_lay_61 (x3 : Int) (r : Option V × Mem × Mem) : (Int × Mem) ⊕ ((Mem)) → Prop := Sum.elim (fun a => Ev M_X5_lay 181 181 r 61 181 rho a.2 [(2, (171 : Int)), (2, (1 : Int)), (2, (43 : Int)), (0, x3), (0, a.1)] []) (fun e => Ev M_X5_lay 181 181 r 82 181 rho e [(2, (171 : Int)), (2, (1 : Int)), (2, (43 : Int)), (0, x3), (9, 0)] [])
def K_X5_lay_36 (x3 : Int) (r : Option V × Mem × Mem) : (Int × Mem) ⊕ ((Mem)) → Prop := Sum.elim (fun a => Ev M_X5_lay 181 181 r 36 181 rho a.2 [(2, (171 : Int)), (2, (1 : Int)), (2, (43 : Int)), (0, x3), (0, a.1)] []) (fun e => Ev M_X5_lay 181 181 r 58 181 rho e [(2, (171 : Int)), (2, (1 : Int)), (2, (43 : Int)), (0, x3), (9, 0)] [])
set_option maxHeartbeats 4000000 in
set_option maxRecDepth 20000 in
theorem b_X5_lay_85 (x3 : Int)  {r : Option V × Mem × Mem} : ∀ a x, f_X5_lay_85B x3 a = some x → K_X5_lay_85 x3 r x → K_X5_lay_85 x3 r (.inl a) := by
  intro a x h K
  obtain ⟨x4, σ⟩ := a
  have h : f_X5_lay_85C x3 x4 σ = some x := h
  unfold f_X5_lay_85C at h
  show Ev M_X5_lay 181 181 r 85 181 rho σ [(2, (171 : Int)), (2, (1 : Int)), (2, (43 : Int)), (0, x3), (0, x4)] []
  refine ev_iload dX5_lay_85 rfl ?_
  refine ev_aload_n dX5_lay_87 rfl (by decide) ?_
  refine ev_getf (j := 9) (t := 0) (x := (σ (1 : Int) 9)) dX5_lay_88 cf_X0 wf_X5_46 sp1 (by decide) (by decide) rfl (by decide) rfl ?_
  refine ev_icmp_ge (tgt := 129) dX5_lay_91 rfl h (fun cb h => ?_) (fun cb h => ?_)
  · obtain rfl := Option.some.inj h
    exact ev_sub (L2 := [(9, 0), (9, 0), (9, 0), (9, 0), (9, 0)]) K ⟨.inl rfl, .inl rfl, .inl rfl, .inl rfl, .inl rfl, trivial⟩
  refine ev_aload_n dX5_lay_94 rfl (by decide) ?_
  refine ev_getf (j := 3) (t := 2) (x := (175 : Int)) dX5_lay_95 cf_X5 wf_X5_22 sp171 (by decide) (by decide) rfl (by decide) (rp171_3 _) ?_
  refine ev_iload dX5_lay_98 rfl ?_
  refine ev_aload_n dX5_lay_100 rfl (by decide) ?_
  refine ev_aload_n dX5_lay_101 rfl (by decide) ?_
  refine ev_iload dX5_lay_102 rfl ?_
  obtain ⟨v11, hc12, h⟩ := bind_of h
  refine ev_invV_v (k := (43 : Int)) (av := [(2, (1 : Int)), (0, x4)]) (st := [(0, x4), (2, (175 : Int))]) (v := (2, v11.1)) (τ := v11.2) dX5_lay_104 ml_X5_51 mv_X9_of (T := TX9) (ci := 8) rfl sp43 (by decide) (by decide) rfl ⟨Nat.le_of_ble_eq_true rfl, Nat.le_of_ble_eq_true rfl⟩ (Nat.le_of_ble_eq_true rfl) (c_X9_of hc12) ?_
  have hw13 := w_X9_of hc12
  refine ev_iload_n dX5_lay_107 rfl ?_
  refine ev_aload_n dX5_lay_108 rfl (by decide) ?_
  refine ev_getf (j := 2) (t := 2) (x := (174 : Int)) dX5_lay_109 cf_X5 wf_X5_19 sp171 (by decide) (by decide) rfl (by decide) (rp171_2 _) ?_
  obtain ⟨v14, hc15, h⟩ := bind_of h
  refine ev_invV_v (k := v11.1) (av := [(0, x3), (2, (174 : Int))]) (st := [(0, x4), (2, (175 : Int))]) (v := (0, v14.1)) (τ := v14.2) dX5_lay_112 ml_X5_55 mv_X8_piecesOf (T := TX8) (ci := 7) rfl (sW hw13) (pW hw13).1 (pW hw13).2 rfl ⟨Nat.le_of_ble_eq_true rfl, Nat.le_of_ble_eq_true rfl⟩ (Nat.le_of_ble_eq_true rfl) (c_X8_piecesOf hw13 hc15) ?_
  show Ev _ _ _ _ 115 _ _ _ _ _
  refine ev_iastG dX5_lay_115 sp175 (by decide) (by decide) h (fun σ16 h => ?_)
  refine ev_aload_n dX5_lay_116 rfl (by decide) ?_
  refine ev_aload_n dX5_lay_117 rfl (by decide) ?_
  refine ev_iload dX5_lay_118 rfl ?_
  obtain ⟨σ17, hc18, h⟩ := bind_of h
  refine ev_invV_n (k := (171 : Int)) (av := [(2, (1 : Int)), (0, x4)]) (st := []) (τ := σ17) dX5_lay_120 ml_X5_61 mv_X5_seat (T := TX5) (ci := 4) rfl sp171 (by decide) (by decide) rfl ⟨Nat.le_of_ble_eq_true rfl, Nat.le_of_ble_eq_true rfl⟩ (Nat.le_of_ble_eq_true rfl) (c_X5_seat hc18) ?_
  refine ev_iincG dX5_lay_123 rfl h rfl (fun v19 h => ?_)
  show Ev _ _ _ _ 126 _ _ _ [(2, (171 : Int)), (2, (1 : Int)), (2, (43 : Int)), (0, x3), (0, v19)] _
  refine ev_goto (tgt := 85) dX5_lay_126 rfl ?_
  obtain rfl := Option.some.inj h
  exact ev_sub (L2 := [(2, (171 : Int)), (2, (1 : Int)), (2, (43 : Int)), (0, x3), (0, v19)]) K ⟨.inr rfl, .inr rfl, .inr rfl, .inr rfl, .inr rfl, trivial⟩
set_option maxHeartbeats 4000000 in
set_option maxRecDepth 20000 in
theorem e_X5_lay_85 (σ : Mem) (x3 x4 : Int)  {q : Mem} (h : f_X5_lay_85 σ x3 x4 = some q) : Ev M_X5_lay 181 181 (none, rho, q) 85 181 rho σ [(2, (171 : Int)), (2, (1 : Int)), (2, (43 : Int)), (0, x3), (0, x4)] [] := by
  unfold f_X5_lay_85 at h
  obtain ⟨e, hl, h⟩ := bind_of h
  refine loop_ev (K := K_X5_lay_85 x3 (none, rho, q)) (b_X5_lay_85 x3) FU (x4, σ) e hl ?_
  show Ev M_X5_lay 181 181 _ 129 181 rho e [(9, 0), (9, 0), (9, 0), (9, 0), (9, 0)] []
  replace h : some e = some q := h
  obtain rfl := Option.some.inj h
  exact ev_vret dX5_lay_129 rfl rfl
set_option maxHeartbeats 4000000 in
set_option maxRecDepth 20000 in
theorem e_X5_lay_82 (σ : Mem) (x3 : Int)  {q : Mem} (h : f_X5_lay_82 σ x3 = some q) : Ev M_X5_lay 181 181 (none, rho, q) 82 181 rho σ [(2, (171 : Int)), (2, (1 : Int)), (2, (43 : Int)), (0, x3), (9, 0)] [] := by
  unfold f_X5_lay_82 at h
  refine ev_iconst dX5_lay_82 (by decide) ?_
  refine ev_istore dX5_lay_83 rfl (by decide) ?_
  show Ev _ _ _ _ 85 _ _ _ [(2, (171 : Int)), (2, (1 : Int)), (2, (43 : Int)), (0, x3), (0, (0 : Int))] _
  exact ev_sub (L2 := [(2, (171 : Int)), (2, (1 : Int)), (2, (43 : Int)), (0, x3), (0, (0 : Int))]) (e_X5_lay_85 σ x3 (0 : Int) h) ⟨.inr rfl, .inr rfl, .inr rfl, .inr rfl, .inr rfl, trivial⟩
set_option maxHeartbeats 4000000 in
set_option maxRecDepth 20000 in
theorem b_X5_lay_61 (x3 : Int)  {r : Option V × Mem × Mem} : ∀ a x, f_X5_lay_61B x3 a = some x → K_X5_lay_61 x3 r x → K_X5_lay_61 x3 r (.inl a) := by
  intro a x h K
  obtain ⟨x4, σ⟩ := a
  have h : f_X5_lay_61C x3 x4 σ = some x := h
  unfold f_X5_lay_61C at h
  show Ev M_X5_lay 181 181 r 61 181 rho σ [(2, (171 : Int)), (2, (1 : Int)), (2, (43 : Int)), (0, x3), (0, x4)] []
  refine ev_iload dX5_lay_61 rfl ?_
  refine ev_bipush dX5_lay_63 (by decide) (by decide) ?_
  refine ev_icmp_ge (tgt := 82) dX5_lay_65 rfl h (fun cb h => ?_) (fun cb h => ?_)
  · obtain rfl := Option.some.inj h
    exact ev_sub (L2 := [(2, (171 : Int)), (2, (1 : Int)), (2, (43 : Int)), (0, x3), (9, 0)]) K ⟨.inr rfl, .inr rfl, .inr rfl, .inr rfl, .inl rfl, trivial⟩
  refine ev_aload_n dX5_lay_68 rfl (by decide) ?_
  refine ev_getf (j := 1) (t := 2) (x := (173 : Int)) dX5_lay_69 cf_X5 wf_X5_15 sp171 (by decide) (by decide) rfl (by decide) (rp171_1 _) ?_
  refine ev_iload dX5_lay_72 rfl ?_
  refine ev_lconst (x := (0 : Int)) dX5_lay_74 (by decide) (by decide) ?_
  refine ev_lastG dX5_lay_75 sp173 (by decide) (by decide) h (fun σ9 h => ?_)
  refine ev_iincG dX5_lay_76 rfl h rfl (fun v10 h => ?_)
  show Ev _ _ _ _ 79 _ _ _ [(2, (171 : Int)), (2, (1 : Int)), (2, (43 : Int)), (0, x3), (0, v10)] _
  refine ev_goto (tgt := 61) dX5_lay_79 rfl ?_
  obtain rfl := Option.some.inj h
  exact ev_sub (L2 := [(2, (171 : Int)), (2, (1 : Int)), (2, (43 : Int)), (0, x3), (0, v10)]) K ⟨.inr rfl, .inr rfl, .inr rfl, .inr rfl, .inr rfl, trivial⟩
set_option maxHeartbeats 4000000 in
set_option maxRecDepth 20000 in
theorem e_X5_lay_61 (σ : Mem) (x3 x4 : Int)  {q : Mem} (h : f_X5_lay_61 σ x3 x4 = some q) : Ev M_X5_lay 181 181 (none, rho, q) 61 181 rho σ [(2, (171 : Int)), (2, (1 : Int)), (2, (43 : Int)), (0, x3), (0, x4)] [] := by
  unfold f_X5_lay_61 at h
  obtain ⟨e, hl, h⟩ := bind_of h
  refine loop_ev (K := K_X5_lay_61 x3 (none, rho, q)) (b_X5_lay_61 x3) FU (x4, σ) e hl ?_
  show Ev M_X5_lay 181 181 _ 82 181 rho e [(2, (171 : Int)), (2, (1 : Int)), (2, (43 : Int)), (0, x3), (9, 0)] []
  replace h : f_X5_lay_82 e x3 = some q := h
  exact ev_sub (L2 := [(2, (171 : Int)), (2, (1 : Int)), (2, (43 : Int)), (0, x3), (9, 0)]) (e_X5_lay_82 e x3 h) ⟨.inr rfl, .inr rfl, .inr rfl, .inr rfl, .inl rfl, trivial⟩
set_option maxHeartbeats 4000000 in
set_option maxRecDepth 20000 in
theorem e_X5_lay_58 (σ : Mem) (x3 : Int)  {q : Mem} (h : f_X5_lay_58 σ x3 = some q) : Ev M_X5_lay 181 181 (none, rho, q) 58 181 rho σ [(2, (171 : Int)), (2, (1 : Int)), (2, (43 : Int)), (0, x3), (9, 0)] [] := by
  unfold f_X5_lay_58 at h
  refine ev_iconst dX5_lay_58 (by decide) ?_
  refine ev_istore dX5_lay_59 rfl (by decide) ?_
  show Ev _ _ _ _ 61 _ _ _ [(2, (171 : Int)), (2, (1 : Int)), (2, (43 : Int)), (0, x3), (0, (0 : Int))] _
  exact ev_sub (L2 := [(2, (171 : Int)), (2, (1 : Int)), (2, (43 : Int)), (0, x3), (0, (0 : Int))]) (e_X5_lay_61 σ x3 (0 : Int) h) ⟨.inr rfl, .inr rfl, .inr rfl, .inr rfl, .inr rfl, trivial⟩
set_option maxHeartbeats 4000000 in
set_option maxRecDepth 20000 in
theorem b_X5_lay_36 (x3 : Int)  {r : Option V × Mem × Mem} : ∀ a x, f_X5_lay_36B x3 a = some x → K_X5_lay_36 x3 r x → K_X5_lay_36 x3 r (.inl a) := by
  intro a x h K
  obtain ⟨x4, σ⟩ := a
  have h : f_X5_lay_36C x3 x4 σ = some x := h
  unfold f_X5_lay_36C at h
  show Ev M_X5_lay 181 181 r 36 181 rho σ [(2, (171 : Int)), (2, (1 : Int)), (2, (43 : Int)), (0, x3), (0, x4)] []
  refine ev_iload dX5_lay_36 rfl ?_
  refine ev_sipush dX5_lay_38 (by decide) (by decide) ?_
  refine ev_icmp_ge (tgt := 58) dX5_lay_41 rfl h (fun cb h => ?_) (fun cb h => ?_)
  · obtain rfl := Option.some.inj h
    exact ev_sub (L2 := [(2, (171 : Int)), (2, (1 : Int)), (2, (43 : Int)), (0, x3), (9, 0)]) K ⟨.inr rfl, .inr rfl, .inr rfl, .inr rfl, .inl rfl, trivial⟩
  refine ev_aload_n dX5_lay_44 rfl (by decide) ?_
  refine ev_getf (j := 0) (t := 2) (x := (172 : Int)) dX5_lay_45 cf_X5 wf_X5_9 sp171 (by decide) (by decide) rfl (by decide) (rp171_0 _) ?_
  refine ev_iload dX5_lay_48 rfl ?_
  refine ev_iconst dX5_lay_50 (by decide) ?_
  refine ev_iastG dX5_lay_51 sp172 (by decide) (by decide) h (fun σ7 h => ?_)
  refine ev_iincG dX5_lay_52 rfl h rfl (fun v8 h => ?_)
  show Ev _ _ _ _ 55 _ _ _ [(2, (171 : Int)), (2, (1 : Int)), (2, (43 : Int)), (0, x3), (0, v8)] _
  refine ev_goto (tgt := 36) dX5_lay_55 rfl ?_
  obtain rfl := Option.some.inj h
  exact ev_sub (L2 := [(2, (171 : Int)), (2, (1 : Int)), (2, (43 : Int)), (0, x3), (0, v8)]) K ⟨.inr rfl, .inr rfl, .inr rfl, .inr rfl, .inr rfl, trivial⟩
set_option maxHeartbeats 4000000 in
set_option maxRecDepth 20000 in
theorem e_X5_lay_36 (σ : Mem) (x3 x4 : Int)  {q : Mem} (h : f_X5_lay_36 σ x3 x4 = some q) : Ev M_X5_lay 181 181 (none, rho, q) 36 181 rho σ [(2, (171 : Int)), (2, (1 : Int)), (2, (43 : Int)), (0, x3), (0, x4)] [] := by
  unfold f_X5_lay_36 at h
  obtain ⟨e, hl, h⟩ := bind_of h
  refine loop_ev (K := K_X5_lay_36 x3 (none, rho, q)) (b_X5_lay_36 x3) FU (x4, σ) e hl ?_
  show Ev M_X5_lay 181 181 _ 58 181 rho e [(2, (171 : Int)), (2, (1 : Int)), (2, (43 : Int)), (0, x3), (9, 0)] []
  replace h : f_X5_lay_58 e x3 = some q := h
  exact ev_sub (L2 := [(2, (171 : Int)), (2, (1 : Int)), (2, (43 : Int)), (0, x3), (9, 0)]) (e_X5_lay_58 e x3 h) ⟨.inr rfl, .inr rfl, .inr rfl, .inr rfl, .inl rfl, trivial⟩
set_option maxHeartbeats 4000000 in
set_option maxRecDepth 20000 in
theorem e_X5_lay_20 (σ : Mem) (x3 : Int)  {q : Mem} (h : f_X5_lay_20 σ x3 = some q) : Ev M_X5_lay 181 181 (none, rho, q) 20 181 rho σ [(2, (171 : Int)), (2, (1 : Int)), (2, (43 : Int)), (0, x3), (9, 0)] [] := by
  unfold f_X5_lay_20 at h
  refine ev_aload_n dX5_lay_20 rfl (by decide) ?_
  refine ev_aload_n dX5_lay_21 rfl (by decide) ?_
  obtain ⟨v3, hc4, h⟩ := bind_of h
  refine ev_invV_v (k := (43 : Int)) (av := []) (st := [(2, (171 : Int))]) (v := (0, v3)) (τ := σ) dX5_lay_22 ml_X5_38 mv_X9_edition (T := TX9) (ci := 8) rfl sp43 (by decide) (by decide) rfl ⟨Nat.le_of_ble_eq_true rfl, Nat.le_of_ble_eq_true rfl⟩ (Nat.le_of_ble_eq_true rfl) (c_X9_edition hc4) ?_
  refine ev_putfG (j := 8) (t := 0) dX5_lay_25 cf_X5 wf_X5_34 sp171 (by decide) (by decide) rfl (by decide) (by decide) rfl (fun z => absurd z (by decide +kernel)) h (fun σ5 h => ?_)
  refine ev_aload_n dX5_lay_28 rfl (by decide) ?_
  refine ev_iload_n dX5_lay_29 rfl ?_
  refine ev_putfG (j := 7) (t := 0) dX5_lay_30 cf_X5 wf_X5_43 sp171 (by decide) (by decide) rfl (by decide) (by decide) rfl (fun z => absurd z (by decide +kernel)) h (fun σ6 h => ?_)
  refine ev_iconst dX5_lay_33 (by decide) ?_
  refine ev_istore dX5_lay_34 rfl (by decide) ?_
  show Ev _ _ _ _ 36 _ _ _ [(2, (171 : Int)), (2, (1 : Int)), (2, (43 : Int)), (0, x3), (0, (0 : Int))] _
  exact ev_sub (L2 := [(2, (171 : Int)), (2, (1 : Int)), (2, (43 : Int)), (0, x3), (0, (0 : Int))]) (e_X5_lay_36 σ6 x3 (0 : Int) h) ⟨.inr rfl, .inr rfl, .inr rfl, .inr rfl, .inr rfl, trivial⟩
set_option maxHeartbeats 4000000 in
set_option maxRecDepth 20000 in
theorem c_X5_lay {σ : Mem} {x3 : Int}  {q : Mem} (h : f_X5_lay σ x3 = some q) : Ms yX5_lay M_X5_lay 181 181 [(2, (171 : Int)), (2, (1 : Int)), (2, (43 : Int)), (0, x3)] rho σ (none, rho, q) := by
  refine Ms.of 1 (by decide +kernel) rfl (fun z => absurd z (by decide)) (fun _ _ _ => trivial) rfl rfl ?_
  unfold f_X5_lay at h
  show Ev M_X5_lay 181 181 _ 0 181 rho σ [(2, (171 : Int)), (2, (1 : Int)), (2, (43 : Int)), (0, x3), (9, 0)] []
  refine ev_aload_n dX5_lay_0 rfl (by decide) ?_
  refine ev_getf (j := 8) (t := 0) (x := (σ (171 : Int) 8)) dX5_lay_1 cf_X5 wf_X5_34 sp171 (by decide) (by decide) rfl (by decide) rfl ?_
  refine ev_aload_n dX5_lay_4 rfl (by decide) ?_
  obtain ⟨v1, hc2, h⟩ := bind_of h
  refine ev_invV_v (k := (43 : Int)) (av := []) (st := [(0, (σ (171 : Int) 8))]) (v := (0, v1)) (τ := σ) dX5_lay_5 ml_X5_38 mv_X9_edition (T := TX9) (ci := 8) rfl sp43 (by decide) (by decide) rfl ⟨Nat.le_of_ble_eq_true rfl, Nat.le_of_ble_eq_true rfl⟩ (Nat.le_of_ble_eq_true rfl) (c_X9_edition hc2) ?_
  refine ev_icmp_ne (tgt := 20) dX5_lay_8 rfl h (fun cb h => ?_) (fun cb h => ?_)
  · exact ev_sub (L2 := [(2, (171 : Int)), (2, (1 : Int)), (2, (43 : Int)), (0, x3), (9, 0)]) (e_X5_lay_20 σ x3 h) ⟨.inr rfl, .inr rfl, .inr rfl, .inr rfl, .inl rfl, trivial⟩
  refine ev_aload_n dX5_lay_11 rfl (by decide) ?_
  refine ev_getf (j := 7) (t := 0) (x := (σ (171 : Int) 7)) dX5_lay_12 cf_X5 wf_X5_43 sp171 (by decide) (by decide) rfl (by decide) rfl ?_
  refine ev_iload_n dX5_lay_15 rfl ?_
  refine ev_icmp_ne (tgt := 20) dX5_lay_16 rfl h (fun cb h => ?_) (fun cb h => ?_)
  · exact ev_sub (L2 := [(2, (171 : Int)), (2, (1 : Int)), (2, (43 : Int)), (0, x3), (9, 0)]) (e_X5_lay_20 σ x3 h) ⟨.inr rfl, .inr rfl, .inr rfl, .inr rfl, .inl rfl, trivial⟩
  obtain rfl := Option.some.inj h
  exact ev_vret dX5_lay_19 rfl rfl
set_option maxHeartbeats 4000000 in
set_option maxRecDepth 20000 in
theorem c_X6_isShelf {σ : Mem} {x0 : Int}  {q : Int} (h : f_X6_isShelf σ x0 = some q) : Ms yX6_isShelf M_X6_isShelf 181 181 [(0, x0)] rho σ (some (0, q), rho, σ) := by
  refine Ms.of 0 (by decide +kernel) rfl (fun z => absurd z (by decide)) (fun _ _ _ => trivial) rfl rfl ?_
  unfold f_X6_isShelf at h
  show Ev M_X6_isShelf 181 181 _ 0 181 rho σ [(0, x0)] []
  refine ev_iload_n dX6_isShelf_0 rfl ?_
  refine ev_if_lt (tgt := 14) dX6_isShelf_1 rfl h (fun cb h => ?_) (fun cb h => ?_)
  · refine ev_iconst dX6_isShelf_14 (by decide) ?_
    obtain rfl := Option.some.inj h
    exact ev_zret dX6_isShelf_15 rfl (chk_pos (.inl rfl))
  refine ev_iload_n dX6_isShelf_4 rfl ?_
  refine ev_bipush dX6_isShelf_5 (by decide) (by decide) ?_
  refine ev_icmp_ge (tgt := 14) dX6_isShelf_7 rfl h (fun cb h => ?_) (fun cb h => ?_)
  · refine ev_iconst dX6_isShelf_14 (by decide) ?_
    obtain rfl := Option.some.inj h
    exact ev_zret dX6_isShelf_15 rfl (chk_pos (.inl rfl))
  refine ev_iconst dX6_isShelf_10 (by decide) ?_
  refine ev_goto (tgt := 15) dX6_isShelf_11 rfl ?_
  obtain rfl := Option.some.inj h
  exact ev_zret dX6_isShelf_15 rfl (chk_pos (.inr rfl))
set_option maxHeartbeats 4000000 in
set_option maxRecDepth 20000 in
theorem c_X6_holding {σ : Mem} {x1 : Int}  {q : Int} (h : f_X6_holding σ x1 = some q) : Ms yX6_holding M_X6_holding 181 181 [(2, (30 : Int)), (0, x1)] rho σ (some (0, q), rho, σ) := by
  refine Ms.of 0 (by decide +kernel) rfl (fun z => absurd z (by decide)) (fun _ _ _ => trivial) rfl rfl ?_
  unfold f_X6_holding at h
  show Ev M_X6_holding 181 181 _ 0 181 rho σ [(2, (30 : Int)), (0, x1)] []
  refine ev_iload_n dX6_holding_0 rfl ?_
  obtain ⟨v1, hc2, h⟩ := bind_of h
  refine ev_invS_v (av := [(0, x1)]) (st := []) (v := (0, v1)) (τ := σ) dX6_holding_1 ml_X6_22 mt_X6_isShelf rfl ⟨Nat.le_of_ble_eq_true rfl, Nat.le_of_ble_eq_true rfl⟩ (Nat.le_of_ble_eq_true rfl) (c_X6_isShelf hc2) ?_
  refine ev_if_eq (tgt := 16) dX6_holding_4 rfl h (fun cb h => ?_) (fun cb h => ?_)
  · refine ev_iconst dX6_holding_16 (by decide) ?_
    obtain rfl := Option.some.inj h
    exact ev_iret dX6_holding_17 rfl rfl
  refine ev_aload_n dX6_holding_7 rfl (by decide) ?_
  refine ev_getf (j := 0) (t := 2) (x := (31 : Int)) dX6_holding_8 cf_X6 wf_X6_9 sp30 (by decide) (by decide) rfl (by decide) (rp30_0 _) ?_
  refine ev_iload_n dX6_holding_11 rfl ?_
  refine ev_iald dX6_holding_12 sp31 (by decide) (by decide) h (fun h => ?_)
  refine ev_goto (tgt := 17) dX6_holding_13 rfl ?_
  obtain rfl := Option.some.inj h
  exact ev_iret dX6_holding_17 rfl rfl
set_option maxHeartbeats 4000000 in
set_option maxRecDepth 20000 in
theorem c_X6_candOn {σ : Mem} {x1 : Int}  {q : Int} (h : f_X6_candOn σ x1 = some q) : Ms yX6_candOn M_X6_candOn 181 181 [(2, (30 : Int)), (0, x1)] rho σ (some (0, q), rho, σ) := by
  refine Ms.of 1 (by decide +kernel) rfl (fun z => absurd z (by decide)) (fun _ _ _ => trivial) rfl rfl ?_
  unfold f_X6_candOn at h
  show Ev M_X6_candOn 181 181 _ 0 181 rho σ [(2, (30 : Int)), (0, x1), (9, 0)] []
  refine ev_aload_n dX6_candOn_0 rfl (by decide) ?_
  refine ev_iload_n dX6_candOn_1 rfl ?_
  obtain ⟨v1, hc2, h⟩ := bind_of h
  refine ev_invV_v (k := (30 : Int)) (av := [(0, x1)]) (st := []) (v := (0, v1)) (τ := σ) dX6_candOn_2 ml_X6_26 mv_X6_holding (T := TX6) (ci := 5) rfl sp30 (by decide) (by decide) rfl ⟨Nat.le_of_ble_eq_true rfl, Nat.le_of_ble_eq_true rfl⟩ (Nat.le_of_ble_eq_true rfl) (c_X6_holding hc2) ?_
  refine ev_istore_n dX6_candOn_5 rfl (by decide) ?_
  show Ev _ _ _ _ 6 _ _ _ [(2, (30 : Int)), (0, x1), (0, v1)] _
  refine ev_iload_n dX6_candOn_6 rfl ?_
  refine ev_bipush dX6_candOn_7 (by decide) (by decide) ?_
  refine ev_icmp_lt (tgt := 19) dX6_candOn_9 rfl h (fun cb h => ?_) (fun cb h => ?_)
  · refine ev_iconst dX6_candOn_19 (by decide) ?_
    obtain rfl := Option.some.inj h
    exact ev_iret dX6_candOn_20 rfl rfl
  refine ev_iload_n dX6_candOn_12 rfl ?_
  refine ev_bipush dX6_candOn_13 (by decide) (by decide) ?_
  refine ev_isub dX6_candOn_15 ?_
  refine ev_goto (tgt := 20) dX6_candOn_16 rfl ?_
  obtain rfl := Option.some.inj h
  exact ev_iret dX6_candOn_20 rfl rfl
def K_X6_dropCandsFrom_2 (x1 : Int) (r : Option V × Mem × Mem) : (Int × Mem) ⊕ ((Mem)) → Prop := Sum.elim (fun a => Ev M_X6_dropCandsFrom 181 181 r 2 181 rho a.2 [(2, (30 : Int)), (0, x1), (0, a.1)] []) (fun e => Ev M_X6_dropCandsFrom 181 181 r 30 181 rho e [(9, 0), (9, 0), (9, 0)] [])
set_option maxHeartbeats 4000000 in
set_option maxRecDepth 20000 in
theorem e_X6_dropCandsFrom_24 (σ : Mem) (x1 x2 : Int)  {q : ((Int × Mem) ⊕ ((Mem)))} (h : f_X6_dropCandsFrom_24 σ x1 x2 = some q) {r : Option V × Mem × Mem} (K : K_X6_dropCandsFrom_2 x1 r q) : Ev M_X6_dropCandsFrom 181 181 r 24 181 rho σ [(2, (30 : Int)), (0, x1), (0, x2)] [] := by
  unfold f_X6_dropCandsFrom_24 at h
  refine ev_iincG dX6_dropCandsFrom_24 rfl h rfl (fun v4 h => ?_)
  show Ev _ _ _ _ 27 _ _ _ [(2, (30 : Int)), (0, x1), (0, v4)] _
  refine ev_goto (tgt := 2) dX6_dropCandsFrom_27 rfl ?_
  obtain rfl := Option.some.inj h
  exact ev_sub (L2 := [(2, (30 : Int)), (0, x1), (0, v4)]) K ⟨.inr rfl, .inr rfl, .inr rfl, trivial⟩
set_option maxHeartbeats 4000000 in
set_option maxRecDepth 20000 in
theorem b_X6_dropCandsFrom_2 (x1 : Int)  {r : Option V × Mem × Mem} : ∀ a x, f_X6_dropCandsFrom_2B x1 a = some x → K_X6_dropCandsFrom_2 x1 r x → K_X6_dropCandsFrom_2 x1 r (.inl a) := by
  intro a x h K
  obtain ⟨x2, σ⟩ := a
  have h : f_X6_dropCandsFrom_2C x1 x2 σ = some x := h
  unfold f_X6_dropCandsFrom_2C at h
  show Ev M_X6_dropCandsFrom 181 181 r 2 181 rho σ [(2, (30 : Int)), (0, x1), (0, x2)] []
  refine ev_iload_n dX6_dropCandsFrom_2 rfl ?_
  refine ev_bipush dX6_dropCandsFrom_3 (by decide) (by decide) ?_
  refine ev_icmp_ge (tgt := 30) dX6_dropCandsFrom_5 rfl h (fun cb h => ?_) (fun cb h => ?_)
  · obtain rfl := Option.some.inj h
    exact ev_sub (L2 := [(9, 0), (9, 0), (9, 0)]) K ⟨.inl rfl, .inl rfl, .inl rfl, trivial⟩
  refine ev_aload_n dX6_dropCandsFrom_8 rfl (by decide) ?_
  refine ev_iload_n dX6_dropCandsFrom_9 rfl ?_
  obtain ⟨v1, hc2, h⟩ := bind_of h
  refine ev_invV_v (k := (30 : Int)) (av := [(0, x2)]) (st := []) (v := (0, v1)) (τ := σ) dX6_dropCandsFrom_10 ml_X6_44 mv_X6_candOn (T := TX6) (ci := 5) rfl sp30 (by decide) (by decide) rfl ⟨Nat.le_of_ble_eq_true rfl, Nat.le_of_ble_eq_true rfl⟩ (Nat.le_of_ble_eq_true rfl) (c_X6_candOn hc2) ?_
  refine ev_iload_n dX6_dropCandsFrom_13 rfl ?_
  refine ev_icmp_lt (tgt := 24) dX6_dropCandsFrom_14 rfl h (fun cb h => ?_) (fun cb h => ?_)
  · exact ev_sub (L2 := [(2, (30 : Int)), (0, x1), (0, x2)]) (e_X6_dropCandsFrom_24 σ x1 x2 h K) ⟨.inr rfl, .inr rfl, .inr rfl, trivial⟩
  refine ev_aload_n dX6_dropCandsFrom_17 rfl (by decide) ?_
  refine ev_getf (j := 0) (t := 2) (x := (31 : Int)) dX6_dropCandsFrom_18 cf_X6 wf_X6_9 sp30 (by decide) (by decide) rfl (by decide) (rp30_0 _) ?_
  refine ev_iload_n dX6_dropCandsFrom_21 rfl ?_
  refine ev_iconst dX6_dropCandsFrom_22 (by decide) ?_
  refine ev_iastG dX6_dropCandsFrom_23 sp31 (by decide) (by decide) h (fun σ3 h => ?_)
  exact ev_sub (L2 := [(2, (30 : Int)), (0, x1), (0, x2)]) (e_X6_dropCandsFrom_24 σ3 x1 x2 h K) ⟨.inr rfl, .inr rfl, .inr rfl, trivial⟩
set_option maxHeartbeats 4000000 in
set_option maxRecDepth 20000 in
theorem e_X6_dropCandsFrom_2 (σ : Mem) (x1 x2 : Int)  {q : Mem} (h : f_X6_dropCandsFrom_2 σ x1 x2 = some q) : Ev M_X6_dropCandsFrom 181 181 (none, rho, q) 2 181 rho σ [(2, (30 : Int)), (0, x1), (0, x2)] [] := by
  unfold f_X6_dropCandsFrom_2 at h
  obtain ⟨e, hl, h⟩ := bind_of h
  refine loop_ev (K := K_X6_dropCandsFrom_2 x1 (none, rho, q)) (b_X6_dropCandsFrom_2 x1) FU (x2, σ) e hl ?_
  show Ev M_X6_dropCandsFrom 181 181 _ 30 181 rho e [(9, 0), (9, 0), (9, 0)] []
  replace h : some e = some q := h
  obtain rfl := Option.some.inj h
  exact ev_vret dX6_dropCandsFrom_30 rfl rfl
set_option maxHeartbeats 4000000 in
set_option maxRecDepth 20000 in
theorem c_X6_dropCandsFrom {σ : Mem} {x1 : Int}  {q : Mem} (h : f_X6_dropCandsFrom σ x1 = some q) : Ms yX6_dropCandsFrom M_X6_dropCandsFrom 181 181 [(2, (30 : Int)), (0, x1)] rho σ (none, rho, q) := by
  refine Ms.of 1 (by decide +kernel) rfl (fun z => absurd z (by decide)) (fun _ _ _ => trivial) rfl rfl ?_
  unfold f_X6_dropCandsFrom at h
  show Ev M_X6_dropCandsFrom 181 181 _ 0 181 rho σ [(2, (30 : Int)), (0, x1), (9, 0)] []
  refine ev_iconst dX6_dropCandsFrom_0 (by decide) ?_
  refine ev_istore_n dX6_dropCandsFrom_1 rfl (by decide) ?_
  show Ev _ _ _ _ 2 _ _ _ [(2, (30 : Int)), (0, x1), (0, (0 : Int))] _
  exact ev_sub (L2 := [(2, (30 : Int)), (0, x1), (0, (0 : Int))]) (e_X6_dropCandsFrom_2 σ x1 (0 : Int) h) ⟨.inr rfl, .inr rfl, .inr rfl, trivial⟩
def K_X6_filled_4 (σ : Mem) (r : Option V × Mem × Mem) : (Int × Int) ⊕ ((Int)) → Prop := Sum.elim (fun a => Ev M_X6_filled 181 181 r 4 181 rho σ [(2, (30 : Int)), (0, a.1), (0, a.2)] []) (fun e => Ev M_X6_filled 181 181 r 29 181 rho σ [(9, 0), (0, e), (9, 0)] [])
set_option maxHeartbeats 4000000 in
set_option maxRecDepth 20000 in
theorem e_X6_filled_23 (σ : Mem) (x1 x2 : Int)  {q : ((Int × Int) ⊕ ((Int)))} (h : f_X6_filled_23 σ x1 x2 = some q) {r : Option V × Mem × Mem} (K : K_X6_filled_4 σ r q) : Ev M_X6_filled 181 181 r 23 181 rho σ [(2, (30 : Int)), (0, x1), (0, x2)] [] := by
  unfold f_X6_filled_23 at h
  refine ev_iincG dX6_filled_23 rfl h rfl (fun v2 h => ?_)
  show Ev _ _ _ _ 26 _ _ _ [(2, (30 : Int)), (0, x1), (0, v2)] _
  refine ev_goto (tgt := 4) dX6_filled_26 rfl ?_
  obtain rfl := Option.some.inj h
  exact ev_sub (L2 := [(2, (30 : Int)), (0, x1), (0, v2)]) K ⟨.inr rfl, .inr rfl, .inr rfl, trivial⟩
set_option maxHeartbeats 4000000 in
set_option maxRecDepth 20000 in
theorem b_X6_filled_4 (σ : Mem)  {r : Option V × Mem × Mem} : ∀ a x, f_X6_filled_4B σ a = some x → K_X6_filled_4 σ r x → K_X6_filled_4 σ r (.inl a) := by
  intro a x h K
  obtain ⟨x1, x2⟩ := a
  have h : f_X6_filled_4C σ x1 x2 = some x := h
  unfold f_X6_filled_4C at h
  show Ev M_X6_filled 181 181 r 4 181 rho σ [(2, (30 : Int)), (0, x1), (0, x2)] []
  refine ev_iload_n dX6_filled_4 rfl ?_
  refine ev_bipush dX6_filled_5 (by decide) (by decide) ?_
  refine ev_icmp_ge (tgt := 29) dX6_filled_7 rfl h (fun cb h => ?_) (fun cb h => ?_)
  · obtain rfl := Option.some.inj h
    exact ev_sub (L2 := [(9, 0), (0, x1), (9, 0)]) K ⟨.inl rfl, .inr rfl, .inl rfl, trivial⟩
  refine ev_aload_n dX6_filled_10 rfl (by decide) ?_
  refine ev_getf (j := 0) (t := 2) (x := (31 : Int)) dX6_filled_11 cf_X6 wf_X6_9 sp30 (by decide) (by decide) rfl (by decide) (rp30_0 _) ?_
  refine ev_iload_n dX6_filled_14 rfl ?_
  refine ev_iald dX6_filled_15 sp31 (by decide) (by decide) h (fun h => ?_)
  refine ev_iconst dX6_filled_16 (by decide) ?_
  refine ev_icmp_eq (tgt := 23) dX6_filled_17 rfl h (fun cb h => ?_) (fun cb h => ?_)
  · exact ev_sub (L2 := [(2, (30 : Int)), (0, x1), (0, x2)]) (e_X6_filled_23 σ x1 x2 h K) ⟨.inr rfl, .inr rfl, .inr rfl, trivial⟩
  refine ev_iincG dX6_filled_20 rfl h rfl (fun v1 h => ?_)
  show Ev _ _ _ _ 23 _ _ _ [(2, (30 : Int)), (0, v1), (0, x2)] _
  exact ev_sub (L2 := [(2, (30 : Int)), (0, v1), (0, x2)]) (e_X6_filled_23 σ v1 x2 h K) ⟨.inr rfl, .inr rfl, .inr rfl, trivial⟩
set_option maxHeartbeats 4000000 in
set_option maxRecDepth 20000 in
theorem e_X6_filled_4 (σ : Mem) (x1 x2 : Int)  {q : Int} (h : f_X6_filled_4 σ x1 x2 = some q) : Ev M_X6_filled 181 181 (some (0, q), rho, σ) 4 181 rho σ [(2, (30 : Int)), (0, x1), (0, x2)] [] := by
  unfold f_X6_filled_4 at h
  obtain ⟨e, hl, h⟩ := bind_of h
  refine loop_ev (K := K_X6_filled_4 σ (some (0, q), rho, σ)) (b_X6_filled_4 σ) FU (x1, x2) e hl ?_
  show Ev M_X6_filled 181 181 _ 29 181 rho σ [(9, 0), (0, e), (9, 0)] []
  replace h : some e = some q := h
  refine ev_iload_n dX6_filled_29 rfl ?_
  obtain rfl := Option.some.inj h
  exact ev_iret dX6_filled_30 rfl rfl
set_option maxHeartbeats 4000000 in
set_option maxRecDepth 20000 in
theorem c_X6_filled {σ : Mem}  {q : Int} (h : f_X6_filled σ  = some q) : Ms yX6_filled M_X6_filled 181 181 [(2, (30 : Int))] rho σ (some (0, q), rho, σ) := by
  refine Ms.of 2 (by decide +kernel) rfl (fun z => absurd z (by decide)) (fun _ _ _ => trivial) rfl rfl ?_
  unfold f_X6_filled at h
  show Ev M_X6_filled 181 181 _ 0 181 rho σ [(2, (30 : Int)), (9, 0), (9, 0)] []
  refine ev_iconst dX6_filled_0 (by decide) ?_
  refine ev_istore_n dX6_filled_1 rfl (by decide) ?_
  show Ev _ _ _ _ 2 _ _ _ [(2, (30 : Int)), (0, (0 : Int)), (9, 0)] _
  refine ev_iconst dX6_filled_2 (by decide) ?_
  refine ev_istore_n dX6_filled_3 rfl (by decide) ?_
  show Ev _ _ _ _ 4 _ _ _ [(2, (30 : Int)), (0, (0 : Int)), (0, (0 : Int))] _
  exact ev_sub (L2 := [(2, (30 : Int)), (0, (0 : Int)), (0, (0 : Int))]) (e_X6_filled_4 σ (0 : Int) (0 : Int) h) ⟨.inr rfl, .inr rfl, .inr rfl, trivial⟩
set_option maxHeartbeats 4000000 in
set_option maxRecDepth 20000 in
theorem c_X7_size {σ : Mem}  {q : Int} (h : f_X7_size σ  = some q) : Ms yX7_size M_X7_size 181 181 [(2, (28 : Int))] rho σ (some (0, q), rho, σ) := by
  refine Ms.of 0 (by decide +kernel) rfl (fun z => absurd z (by decide)) (fun _ _ _ => trivial) rfl rfl ?_
  unfold f_X7_size at h
  show Ev M_X7_size 181 181 _ 0 181 rho σ [(2, (28 : Int))] []
  refine ev_aload_n dX7_size_0 rfl (by decide) ?_
  refine ev_getf (j := 1) (t := 0) (x := (σ (28 : Int) 1)) dX7_size_1 cf_X7 wf_X7_15 sp28 (by decide) (by decide) rfl (by decide) rfl ?_
  obtain rfl := Option.some.inj h
  exact ev_iret dX7_size_4 rfl rfl
def K_X8_become_2 (x0 x1 : Int) (r : Option V × Mem × Mem) : (Int × Mem) ⊕ ((Mem)) → Prop := Sum.elim (fun a => Ev M_X8_become 181 181 r 2 181 rho a.2 [(2, x0), (2, x1), (0, a.1)] []) (fun e => Ev M_X8_become 181 181 r 25 181 rho e [(2, x0), (2, x1), (9, 0)] [])
set_option maxHeartbeats 4000000 in
set_option maxRecDepth 20000 in
theorem e_X8_become_25 (σ : Mem) (x0 x1 : Int) (hx0 : isW x0) (hx1 : isW x1) {q : Mem} (h : f_X8_become_25 σ x0 x1 = some q) : Ev M_X8_become 181 181 (none, rho, q) 25 181 rho σ [(2, x0), (2, x1), (9, 0)] [] := by
  unfold f_X8_become_25 at h
  refine ev_aload_n dX8_become_25 rfl (pW hx1).1 ?_
  refine ev_getf (j := 1) (t := 2) (x := (x1 + 2)) dX8_become_26 cf_X8 wf_X8_15 (sW hx1) (pW hx1).1 (pW hx1).2 rfl (by decide) (rW1 _ hx1) ?_
  refine ev_iconst dX8_become_29 (by decide) ?_
  refine ev_aload_n dX8_become_30 rfl (pW hx0).1 ?_
  refine ev_getf (j := 1) (t := 2) (x := (x0 + 2)) dX8_become_31 cf_X8 wf_X8_15 (sW hx0) (pW hx0).1 (pW hx0).2 rfl (by decide) (rW1 _ hx0) ?_
  refine ev_iconst dX8_become_34 (by decide) ?_
  refine ev_iconst dX8_become_35 (by decide) ?_
  refine ev_copyiG dX8_become_36 wa_X8_41 wa_words (sW1 hx1) (pW1 hx1).1 (pW1 hx1).2 (sW1 hx0) (pW1 hx0).1 (pW1 hx0).2 (by decide) (Nat.le_of_ble_eq_true rfl) h (fun σ3 h => ?_)
  refine ev_aload_n dX8_become_39 rfl (pW hx1).1 ?_
  refine ev_getf (j := 2) (t := 2) (x := (x1 + 3)) dX8_become_40 cf_X8 wf_X8_19 (sW hx1) (pW hx1).1 (pW hx1).2 rfl (by decide) (rW2 _ hx1) ?_
  refine ev_iconst dX8_become_43 (by decide) ?_
  show Ev _ _ _ _ 44 _ _ _ _ _
  refine ev_aload_n dX8_become_44 rfl (pW hx0).1 ?_
  refine ev_getf (j := 2) (t := 2) (x := (x0 + 3)) dX8_become_45 cf_X8 wf_X8_19 (sW hx0) (pW hx0).1 (pW hx0).2 rfl (by decide) (rW2 _ hx0) ?_
  refine ev_iconst dX8_become_48 (by decide) ?_
  refine ev_iconst dX8_become_49 (by decide) ?_
  refine ev_copyiG dX8_become_50 wa_X8_41 wa_words (sW2 hx1) (pW2 hx1).1 (pW2 hx1).2 (sW2 hx0) (pW2 hx0).1 (pW2 hx0).2 (by decide) (Nat.le_of_ble_eq_true rfl) h (fun σ4 h => ?_)
  refine ev_aload_n dX8_become_53 rfl (pW hx1).1 ?_
  refine ev_getf (j := 3) (t := 2) (x := (x1 + 4)) dX8_become_54 cf_X8 wf_X8_22 (sW hx1) (pW hx1).1 (pW hx1).2 rfl (by decide) (rW3 _ hx1) ?_
  refine ev_iconst dX8_become_57 (by decide) ?_
  refine ev_aload_n dX8_become_58 rfl (pW hx0).1 ?_
  refine ev_getf (j := 3) (t := 2) (x := (x0 + 4)) dX8_become_59 cf_X8 wf_X8_22 (sW hx0) (pW hx0).1 (pW hx0).2 rfl (by decide) (rW3 _ hx0) ?_
  refine ev_iconst dX8_become_62 (by decide) ?_
  refine ev_iconst dX8_become_63 (by decide) ?_
  show Ev _ _ _ _ 64 _ _ _ _ _
  refine ev_copyiG dX8_become_64 wa_X8_41 wa_words (sW3 hx1) (pW3 hx1).1 (pW3 hx1).2 (sW3 hx0) (pW3 hx0).1 (pW3 hx0).2 (by decide) (Nat.le_of_ble_eq_true rfl) h (fun σ5 h => ?_)
  refine ev_aload_n dX8_become_67 rfl (pW hx1).1 ?_
  refine ev_getf (j := 4) (t := 2) (x := (x1 + 5)) dX8_become_68 cf_X8 wf_X8_25 (sW hx1) (pW hx1).1 (pW hx1).2 rfl (by decide) (rW4 _ hx1) ?_
  refine ev_iconst dX8_become_71 (by decide) ?_
  refine ev_aload_n dX8_become_72 rfl (pW hx0).1 ?_
  refine ev_getf (j := 4) (t := 2) (x := (x0 + 5)) dX8_become_73 cf_X8 wf_X8_25 (sW hx0) (pW hx0).1 (pW hx0).2 rfl (by decide) (rW4 _ hx0) ?_
  refine ev_iconst dX8_become_76 (by decide) ?_
  refine ev_iconst dX8_become_77 (by decide) ?_
  refine ev_copyiG dX8_become_78 wa_X8_41 wa_words (sW4 hx1) (pW4 hx1).1 (pW4 hx1).2 (sW4 hx0) (pW4 hx0).1 (pW4 hx0).2 (by decide) (Nat.le_of_ble_eq_true rfl) h (fun σ6 h => ?_)
  refine ev_aload_n dX8_become_81 rfl (pW hx1).1 ?_
  refine ev_getf (j := 5) (t := 2) (x := (x1 + 6)) dX8_become_82 cf_X8 wf_X8_28 (sW hx1) (pW hx1).1 (pW hx1).2 rfl (by decide) (rW5 _ hx1) ?_
  refine ev_iconst dX8_become_85 (by decide) ?_
  show Ev _ _ _ _ 86 _ _ _ _ _
  refine ev_aload_n dX8_become_86 rfl (pW hx0).1 ?_
  refine ev_getf (j := 5) (t := 2) (x := (x0 + 6)) dX8_become_87 cf_X8 wf_X8_28 (sW hx0) (pW hx0).1 (pW hx0).2 rfl (by decide) (rW5 _ hx0) ?_
  refine ev_iconst dX8_become_90 (by decide) ?_
  refine ev_iconst dX8_become_91 (by decide) ?_
  refine ev_copylG dX8_become_92 wa_X8_41 wa_words (sW5 hx1) (pW5 hx1).1 (pW5 hx1).2 (sW5 hx0) (pW5 hx0).1 (pW5 hx0).2 (by decide) (Nat.le_of_ble_eq_true rfl) h (fun σ7 h => ?_)
  refine ev_aload_n dX8_become_95 rfl (pW hx1).1 ?_
  refine ev_getf (j := 6) (t := 2) (x := (x1 + 7)) dX8_become_96 cf_X8 wf_X8_32 (sW hx1) (pW hx1).1 (pW hx1).2 rfl (by decide) (rW6 _ hx1) ?_
  refine ev_iconst dX8_become_99 (by decide) ?_
  refine ev_aload_n dX8_become_100 rfl (pW hx0).1 ?_
  refine ev_getf (j := 6) (t := 2) (x := (x0 + 7)) dX8_become_101 cf_X8 wf_X8_32 (sW hx0) (pW hx0).1 (pW hx0).2 rfl (by decide) (rW6 _ hx0) ?_
  refine ev_iconst dX8_become_104 (by decide) ?_
  refine ev_bipush dX8_become_105 (by decide) (by decide) ?_
  show Ev _ _ _ _ 107 _ _ _ _ _
  refine ev_copyiG dX8_become_107 wa_X8_41 wa_words (sW6 hx1) (pW6 hx1).1 (pW6 hx1).2 (sW6 hx0) (pW6 hx0).1 (pW6 hx0).2 (by decide) (Nat.le_of_ble_eq_true rfl) h (fun σ8 h => ?_)
  refine ev_aload_n dX8_become_110 rfl (pW hx1).1 ?_
  refine ev_getf (j := 7) (t := 2) (x := (x1 + 8)) dX8_become_111 cf_X8 wf_X8_35 (sW hx1) (pW hx1).1 (pW hx1).2 rfl (by decide) (rW7 _ hx1) ?_
  refine ev_iconst dX8_become_114 (by decide) ?_
  refine ev_aload_n dX8_become_115 rfl (pW hx0).1 ?_
  refine ev_getf (j := 7) (t := 2) (x := (x0 + 8)) dX8_become_116 cf_X8 wf_X8_35 (sW hx0) (pW hx0).1 (pW hx0).2 rfl (by decide) (rW7 _ hx0) ?_
  refine ev_iconst dX8_become_119 (by decide) ?_
  refine ev_bipush dX8_become_120 (by decide) (by decide) ?_
  refine ev_copyiG dX8_become_122 wa_X8_41 wa_words (sW7 hx1) (pW7 hx1).1 (pW7 hx1).2 (sW7 hx0) (pW7 hx0).1 (pW7 hx0).2 (by decide) (Nat.le_of_ble_eq_true rfl) h (fun σ9 h => ?_)
  refine ev_aload_n dX8_become_125 rfl (pW hx1).1 ?_
  refine ev_getf (j := 8) (t := 2) (x := (x1 + 9)) dX8_become_126 cf_X8 wf_X8_38 (sW hx1) (pW hx1).1 (pW hx1).2 rfl (by decide) (rW8 _ hx1) ?_
  refine ev_iconst dX8_become_129 (by decide) ?_
  show Ev _ _ _ _ 130 _ _ _ _ _
  refine ev_aload_n dX8_become_130 rfl (pW hx0).1 ?_
  refine ev_getf (j := 8) (t := 2) (x := (x0 + 9)) dX8_become_131 cf_X8 wf_X8_38 (sW hx0) (pW hx0).1 (pW hx0).2 rfl (by decide) (rW8 _ hx0) ?_
  refine ev_iconst dX8_become_134 (by decide) ?_
  refine ev_bipush dX8_become_135 (by decide) (by decide) ?_
  refine ev_copyiG dX8_become_137 wa_X8_41 wa_words (sW8 hx1) (pW8 hx1).1 (pW8 hx1).2 (sW8 hx0) (pW8 hx0).1 (pW8 hx0).2 (by decide) (Nat.le_of_ble_eq_true rfl) h (fun σ10 h => ?_)
  obtain rfl := Option.some.inj h
  exact ev_vret dX8_become_140 rfl rfl
set_option maxHeartbeats 4000000 in
set_option maxRecDepth 20000 in
theorem b_X8_become_2 (x0 x1 : Int) (hx0 : isW x0) (hx1 : isW x1) {r : Option V × Mem × Mem} : ∀ a x, f_X8_become_2B x0 x1 a = some x → K_X8_become_2 x0 x1 r x → K_X8_become_2 x0 x1 r (.inl a) := by
  intro a x h K
  obtain ⟨x2, σ⟩ := a
  have h : f_X8_become_2C x0 x1 x2 σ = some x := h
  unfold f_X8_become_2C at h
  show Ev M_X8_become 181 181 r 2 181 rho σ [(2, x0), (2, x1), (0, x2)] []
  refine ev_iload_n dX8_become_2 rfl ?_
  refine ev_iconst dX8_become_3 (by decide) ?_
  refine ev_icmp_ge (tgt := 25) dX8_become_4 rfl h (fun cb h => ?_) (fun cb h => ?_)
  · obtain rfl := Option.some.inj h
    exact ev_sub (L2 := [(2, x0), (2, x1), (9, 0)]) K ⟨.inr rfl, .inr rfl, .inl rfl, trivial⟩
  refine ev_aload_n dX8_become_7 rfl (pW hx0).1 ?_
  refine ev_getf (j := 0) (t := 2) (x := (x0 + 1)) dX8_become_8 cf_X8 wf_X8_9 (sW hx0) (pW hx0).1 (pW hx0).2 rfl (by decide) (rW0 _ hx0) ?_
  refine ev_iload_n dX8_become_11 rfl ?_
  refine ev_aload_n dX8_become_12 rfl (pW hx1).1 ?_
  refine ev_getf (j := 0) (t := 2) (x := (x1 + 1)) dX8_become_13 cf_X8 wf_X8_9 (sW hx1) (pW hx1).1 (pW hx1).2 rfl (by decide) (rW0 _ hx1) ?_
  refine ev_iload_n dX8_become_16 rfl ?_
  refine ev_zald dX8_become_17 (sW0 hx1) (pW0 hx1).1 (pW0 hx1).2 h (fun h => ?_)
  refine ev_zastG dX8_become_18 (sW0 hx0) (pW0 hx0).1 (pW0 hx0).2 h (fun σ1 h => ?_)
  refine ev_iincG dX8_become_19 rfl h rfl (fun v2 h => ?_)
  show Ev _ _ _ _ 22 _ _ _ [(2, x0), (2, x1), (0, v2)] _
  refine ev_goto (tgt := 2) dX8_become_22 rfl ?_
  obtain rfl := Option.some.inj h
  exact ev_sub (L2 := [(2, x0), (2, x1), (0, v2)]) K ⟨.inr rfl, .inr rfl, .inr rfl, trivial⟩
set_option maxHeartbeats 4000000 in
set_option maxRecDepth 20000 in
theorem e_X8_become_2 (σ : Mem) (x0 x1 x2 : Int) (hx0 : isW x0) (hx1 : isW x1) {q : Mem} (h : f_X8_become_2 σ x0 x1 x2 = some q) : Ev M_X8_become 181 181 (none, rho, q) 2 181 rho σ [(2, x0), (2, x1), (0, x2)] [] := by
  unfold f_X8_become_2 at h
  obtain ⟨e, hl, h⟩ := bind_of h
  refine loop_ev (K := K_X8_become_2 x0 x1 (none, rho, q)) (b_X8_become_2 x0 x1 hx0 hx1) FU (x2, σ) e hl ?_
  show Ev M_X8_become 181 181 _ 25 181 rho e [(2, x0), (2, x1), (9, 0)] []
  replace h : f_X8_become_25 e x0 x1 = some q := h
  exact ev_sub (L2 := [(2, x0), (2, x1), (9, 0)]) (e_X8_become_25 e x0 x1 hx0 hx1 h) ⟨.inr rfl, .inr rfl, .inl rfl, trivial⟩
set_option maxHeartbeats 4000000 in
set_option maxRecDepth 20000 in
theorem c_X8_become {σ : Mem} {x0 x1 : Int} (hx0 : isW x0) (hx1 : isW x1) {q : Mem} (h : f_X8_become σ x0 x1 = some q) : Ms yX8_become M_X8_become 181 181 [(2, x0), (2, x1)] rho σ (none, rho, q) := by
  refine Ms.of 1 (by decide +kernel) rfl (fun z => absurd z (by decide)) (fun _ _ _ => trivial) rfl rfl ?_
  unfold f_X8_become at h
  show Ev M_X8_become 181 181 _ 0 181 rho σ [(2, x0), (2, x1), (9, 0)] []
  refine ev_iconst dX8_become_0 (by decide) ?_
  refine ev_istore_n dX8_become_1 rfl (by decide) ?_
  show Ev _ _ _ _ 2 _ _ _ [(2, x0), (2, x1), (0, (0 : Int))] _
  exact ev_sub (L2 := [(2, x0), (2, x1), (0, (0 : Int))]) (e_X8_become_2 σ x0 x1 (0 : Int) hx0 hx1 h) ⟨.inr rfl, .inr rfl, .inr rfl, trivial⟩
def K_X8_cants_4 (σ : Mem) (x0 : Int) (r : Option V × Mem × Mem) : (Int × Int) ⊕ ((Int)) → Prop := Sum.elim (fun a => Ev M_X8_cants 181 181 r 4 181 rho σ [(2, x0), (0, a.1), (0, a.2)] []) (fun e => Ev M_X8_cants 181 181 r 27 181 rho σ [(9, 0), (0, e), (9, 0)] [])
set_option maxHeartbeats 4000000 in
set_option maxRecDepth 20000 in
theorem e_X8_cants_21 (σ : Mem) (x0 x1 x2 : Int) (hx0 : isW x0) {q : ((Int × Int) ⊕ ((Int)))} (h : f_X8_cants_21 σ x0 x1 x2 = some q) {r : Option V × Mem × Mem} (K : K_X8_cants_4 σ x0 r q) : Ev M_X8_cants 181 181 r 21 181 rho σ [(2, x0), (0, x1), (0, x2)] [] := by
  unfold f_X8_cants_21 at h
  refine ev_iincG dX8_cants_21 rfl h rfl (fun v2 h => ?_)
  show Ev _ _ _ _ 24 _ _ _ [(2, x0), (0, x1), (0, v2)] _
  refine ev_goto (tgt := 4) dX8_cants_24 rfl ?_
  obtain rfl := Option.some.inj h
  exact ev_sub (L2 := [(2, x0), (0, x1), (0, v2)]) K ⟨.inr rfl, .inr rfl, .inr rfl, trivial⟩
set_option maxHeartbeats 4000000 in
set_option maxRecDepth 20000 in
theorem b_X8_cants_4 (σ : Mem) (x0 : Int) (hx0 : isW x0) {r : Option V × Mem × Mem} : ∀ a x, f_X8_cants_4B σ x0 a = some x → K_X8_cants_4 σ x0 r x → K_X8_cants_4 σ x0 r (.inl a) := by
  intro a x h K
  obtain ⟨x1, x2⟩ := a
  have h : f_X8_cants_4C σ x0 x1 x2 = some x := h
  unfold f_X8_cants_4C at h
  show Ev M_X8_cants 181 181 r 4 181 rho σ [(2, x0), (0, x1), (0, x2)] []
  refine ev_iload_n dX8_cants_4 rfl ?_
  refine ev_iconst dX8_cants_5 (by decide) ?_
  refine ev_icmp_ge (tgt := 27) dX8_cants_6 rfl h (fun cb h => ?_) (fun cb h => ?_)
  · obtain rfl := Option.some.inj h
    exact ev_sub (L2 := [(9, 0), (0, x1), (9, 0)]) K ⟨.inl rfl, .inr rfl, .inl rfl, trivial⟩
  refine ev_aload_n dX8_cants_9 rfl (pW hx0).1 ?_
  refine ev_getf (j := 0) (t := 2) (x := (x0 + 1)) dX8_cants_10 cf_X8 wf_X8_9 (sW hx0) (pW hx0).1 (pW hx0).2 rfl (by decide) (rW0 _ hx0) ?_
  refine ev_iload_n dX8_cants_13 rfl ?_
  refine ev_zald dX8_cants_14 (sW0 hx0) (pW0 hx0).1 (pW0 hx0).2 h (fun h => ?_)
  refine ev_if_ne (tgt := 21) dX8_cants_15 rfl h (fun cb h => ?_) (fun cb h => ?_)
  · exact ev_sub (L2 := [(2, x0), (0, x1), (0, x2)]) (e_X8_cants_21 σ x0 x1 x2 hx0 h K) ⟨.inr rfl, .inr rfl, .inr rfl, trivial⟩
  refine ev_iincG dX8_cants_18 rfl h rfl (fun v1 h => ?_)
  show Ev _ _ _ _ 21 _ _ _ [(2, x0), (0, v1), (0, x2)] _
  exact ev_sub (L2 := [(2, x0), (0, v1), (0, x2)]) (e_X8_cants_21 σ x0 v1 x2 hx0 h K) ⟨.inr rfl, .inr rfl, .inr rfl, trivial⟩
set_option maxHeartbeats 4000000 in
set_option maxRecDepth 20000 in
theorem e_X8_cants_4 (σ : Mem) (x0 x1 x2 : Int) (hx0 : isW x0) {q : Int} (h : f_X8_cants_4 σ x0 x1 x2 = some q) : Ev M_X8_cants 181 181 (some (0, q), rho, σ) 4 181 rho σ [(2, x0), (0, x1), (0, x2)] [] := by
  unfold f_X8_cants_4 at h
  obtain ⟨e, hl, h⟩ := bind_of h
  refine loop_ev (K := K_X8_cants_4 σ x0 (some (0, q), rho, σ)) (b_X8_cants_4 σ x0 hx0) FU (x1, x2) e hl ?_
  show Ev M_X8_cants 181 181 _ 27 181 rho σ [(9, 0), (0, e), (9, 0)] []
  replace h : some e = some q := h
  refine ev_iload_n dX8_cants_27 rfl ?_
  obtain rfl := Option.some.inj h
  exact ev_iret dX8_cants_28 rfl rfl
set_option maxHeartbeats 4000000 in
set_option maxRecDepth 20000 in
theorem c_X8_cants {σ : Mem} {x0 : Int} (hx0 : isW x0) {q : Int} (h : f_X8_cants σ x0 = some q) : Ms yX8_cants M_X8_cants 181 181 [(2, x0)] rho σ (some (0, q), rho, σ) := by
  refine Ms.of 2 (by decide +kernel) rfl (fun z => absurd z (by decide)) (fun _ _ _ => trivial) rfl rfl ?_
  unfold f_X8_cants at h
  show Ev M_X8_cants 181 181 _ 0 181 rho σ [(2, x0), (9, 0), (9, 0)] []
  refine ev_iconst dX8_cants_0 (by decide) ?_
  refine ev_istore_n dX8_cants_1 rfl (by decide) ?_
  show Ev _ _ _ _ 2 _ _ _ [(2, x0), (0, (0 : Int)), (9, 0)] _
  refine ev_iconst dX8_cants_2 (by decide) ?_
  refine ev_istore_n dX8_cants_3 rfl (by decide) ?_
  show Ev _ _ _ _ 4 _ _ _ [(2, x0), (0, (0 : Int)), (0, (0 : Int))] _
  exact ev_sub (L2 := [(2, x0), (0, (0 : Int)), (0, (0 : Int))]) (e_X8_cants_4 σ x0 (0 : Int) (0 : Int) hx0 h) ⟨.inr rfl, .inr rfl, .inr rfl, trivial⟩
def K_X8_keptSlots_4 (σ : Mem) (x0 : Int) (r : Option V × Mem × Mem) : (Int × Int) ⊕ ((Int)) → Prop := Sum.elim (fun a => Ev M_X8_keptSlots 181 181 r 4 181 rho σ [(2, x0), (0, a.1), (0, a.2)] []) (fun e => Ev M_X8_keptSlots 181 181 r 27 181 rho σ [(9, 0), (0, e), (9, 0)] [])
set_option maxHeartbeats 4000000 in
set_option maxRecDepth 20000 in
theorem b_X8_keptSlots_4 (σ : Mem) (x0 : Int) (hx0 : isW x0) {r : Option V × Mem × Mem} : ∀ a x, f_X8_keptSlots_4B σ x0 a = some x → K_X8_keptSlots_4 σ x0 r x → K_X8_keptSlots_4 σ x0 r (.inl a) := by
  intro a x h K
  obtain ⟨x1, x2⟩ := a
  have h : f_X8_keptSlots_4C σ x0 x1 x2 = some x := h
  unfold f_X8_keptSlots_4C at h
  show Ev M_X8_keptSlots 181 181 r 4 181 rho σ [(2, x0), (0, x1), (0, x2)] []
  refine ev_iload_n dX8_keptSlots_4 rfl ?_
  refine ev_iconst dX8_keptSlots_5 (by decide) ?_
  refine ev_icmp_ge (tgt := 27) dX8_keptSlots_6 rfl h (fun cb h => ?_) (fun cb h => ?_)
  · obtain rfl := Option.some.inj h
    exact ev_sub (L2 := [(9, 0), (0, x1), (9, 0)]) K ⟨.inl rfl, .inr rfl, .inl rfl, trivial⟩
  refine ev_iload_n dX8_keptSlots_9 rfl ?_
  refine ev_aload_n dX8_keptSlots_10 rfl (pW hx0).1 ?_
  refine ev_getf (j := 5) (t := 2) (x := (x0 + 6)) dX8_keptSlots_11 cf_X8 wf_X8_28 (sW hx0) (pW hx0).1 (pW hx0).2 rfl (by decide) (rW5 _ hx0) ?_
  refine ev_iload_n dX8_keptSlots_14 rfl ?_
  refine ev_lald dX8_keptSlots_15 (sW5 hx0) (pW5 hx0).1 (pW5 hx0).2 h (fun h => ?_)
  obtain ⟨v1, hc2, h⟩ := bind_of h
  refine ev_invS_v (av := [(1, (σ (x0 + 6) x2))]) (st := [(0, x1)]) (v := (0, v1)) (τ := σ) dX8_keptSlots_16 ml_X8_66 mt_J13_bitCount_95d88 rfl ⟨Nat.le_of_ble_eq_true rfl, Nat.le_of_ble_eq_true rfl⟩ (Nat.le_of_ble_eq_true rfl) (c_J13_bitCount_95d88 hc2) ?_
  refine ev_iadd dX8_keptSlots_19 ?_
  refine ev_istore_nG dX8_keptSlots_20 h rfl (by decide) (fun v3 h => ?_)
  show Ev _ _ _ _ 21 _ _ _ [(2, x0), (0, v3), (0, x2)] _
  refine ev_iincG dX8_keptSlots_21 rfl h rfl (fun v4 h => ?_)
  show Ev _ _ _ _ 24 _ _ _ [(2, x0), (0, v3), (0, v4)] _
  refine ev_goto (tgt := 4) dX8_keptSlots_24 rfl ?_
  obtain rfl := Option.some.inj h
  exact ev_sub (L2 := [(2, x0), (0, v3), (0, v4)]) K ⟨.inr rfl, .inr rfl, .inr rfl, trivial⟩
set_option maxHeartbeats 4000000 in
set_option maxRecDepth 20000 in
theorem e_X8_keptSlots_4 (σ : Mem) (x0 x1 x2 : Int) (hx0 : isW x0) {q : Int} (h : f_X8_keptSlots_4 σ x0 x1 x2 = some q) : Ev M_X8_keptSlots 181 181 (some (0, q), rho, σ) 4 181 rho σ [(2, x0), (0, x1), (0, x2)] [] := by
  unfold f_X8_keptSlots_4 at h
  obtain ⟨e, hl, h⟩ := bind_of h
  refine loop_ev (K := K_X8_keptSlots_4 σ x0 (some (0, q), rho, σ)) (b_X8_keptSlots_4 σ x0 hx0) FU (x1, x2) e hl ?_
  show Ev M_X8_keptSlots 181 181 _ 27 181 rho σ [(9, 0), (0, e), (9, 0)] []
  replace h : some e = some q := h
  refine ev_iload_n dX8_keptSlots_27 rfl ?_
  obtain rfl := Option.some.inj h
  exact ev_iret dX8_keptSlots_28 rfl rfl
set_option maxHeartbeats 4000000 in
set_option maxRecDepth 20000 in
theorem c_X8_keptSlots {σ : Mem} {x0 : Int} (hx0 : isW x0) {q : Int} (h : f_X8_keptSlots σ x0 = some q) : Ms yX8_keptSlots M_X8_keptSlots 181 181 [(2, x0)] rho σ (some (0, q), rho, σ) := by
  refine Ms.of 2 (by decide +kernel) rfl (fun z => absurd z (by decide)) (fun _ _ _ => trivial) rfl rfl ?_
  unfold f_X8_keptSlots at h
  show Ev M_X8_keptSlots 181 181 _ 0 181 rho σ [(2, x0), (9, 0), (9, 0)] []
  refine ev_iconst dX8_keptSlots_0 (by decide) ?_
  refine ev_istore_n dX8_keptSlots_1 rfl (by decide) ?_
  show Ev _ _ _ _ 2 _ _ _ [(2, x0), (0, (0 : Int)), (9, 0)] _
  refine ev_iconst dX8_keptSlots_2 (by decide) ?_
  refine ev_istore_n dX8_keptSlots_3 rfl (by decide) ?_
  show Ev _ _ _ _ 4 _ _ _ [(2, x0), (0, (0 : Int)), (0, (0 : Int))] _
  exact ev_sub (L2 := [(2, x0), (0, (0 : Int)), (0, (0 : Int))]) (e_X8_keptSlots_4 σ x0 (0 : Int) (0 : Int) hx0 h) ⟨.inr rfl, .inr rfl, .inr rfl, trivial⟩
def K_X8_deed_18 (σ : Mem) (x0 x1 x2 : Int) (r : Option V × Mem × Mem) : (Int) ⊕ ((Int) ⊕ (Unit)) → Prop := Sum.elim (fun a => Ev M_X8_deed 181 181 r 18 181 rho σ [(2, x0), (0, x1), (0, x2), (0, a), (9, 0)] []) (Sum.elim (fun e => Ev M_X8_deed 181 181 r 57 181 rho σ [(2, x0), (9, 0), (9, 0), (9, 0), (0, e)] []) (fun e => Ev M_X8_deed 181 181 r 71 181 rho σ [(2, x0), (0, x1), (0, x2), (9, 0), (9, 0)] []))
set_option maxHeartbeats 4000000 in
set_option maxRecDepth 20000 in
theorem e_X8_deed_57 (σ : Mem) (x0 x4 : Int) (hx0 : isW x0) {q : Int} (h : f_X8_deed_57 σ x0 x4 = some q) : Ev M_X8_deed 181 181 (some (0, q), rho, σ) 57 181 rho σ [(2, x0), (9, 0), (9, 0), (9, 0), (0, x4)] [] := by
  unfold f_X8_deed_57 at h
  refine ev_aload_n dX8_deed_57 rfl (pW hx0).1 ?_
  refine ev_getf (j := 6) (t := 2) (x := (x0 + 7)) dX8_deed_58 cf_X8 wf_X8_32 (sW hx0) (pW hx0).1 (pW hx0).2 rfl (by decide) (rW6 _ hx0) ?_
  refine ev_iload dX8_deed_61 rfl ?_
  refine ev_iald dX8_deed_63 (sW6 hx0) (pW6 hx0).1 (pW6 hx0).2 h (fun h => ?_)
  obtain rfl := Option.some.inj h
  exact ev_iret dX8_deed_64 rfl rfl
set_option maxHeartbeats 4000000 in
set_option maxRecDepth 20000 in
theorem e_X8_deed_65 (σ : Mem) (x0 x1 x2 x3 : Int) (hx0 : isW x0) {q : ((Int) ⊕ ((Int) ⊕ (Unit)))} (h : f_X8_deed_65 σ x0 x1 x2 x3 = some q) {r : Option V × Mem × Mem} (K : K_X8_deed_18 σ x0 x1 x2 r q) : Ev M_X8_deed 181 181 r 65 181 rho σ [(2, x0), (0, x1), (0, x2), (0, x3), (9, 0)] [] := by
  unfold f_X8_deed_65 at h
  refine ev_iincG dX8_deed_65 rfl h rfl (fun v4 h => ?_)
  show Ev _ _ _ _ 68 _ _ _ [(2, x0), (0, x1), (0, x2), (0, v4), (9, 0)] _
  refine ev_goto (tgt := 18) dX8_deed_68 rfl ?_
  obtain rfl := Option.some.inj h
  exact ev_sub (L2 := [(2, x0), (0, x1), (0, x2), (0, v4), (9, 0)]) K ⟨.inr rfl, .inr rfl, .inr rfl, .inr rfl, .inl rfl, trivial⟩
set_option maxHeartbeats 4000000 in
set_option maxRecDepth 20000 in
theorem e_X8_deed_71 (σ : Mem) (x0 x1 x2 : Int) (hx0 : isW x0) {q : Int} (h : f_X8_deed_71 σ x0 x1 x2 = some q) : Ev M_X8_deed 181 181 (some (0, q), rho, σ) 71 181 rho σ [(2, x0), (0, x1), (0, x2), (9, 0), (9, 0)] [] := by
  unfold f_X8_deed_71 at h
  refine ev_aload_n dX8_deed_71 rfl (pW hx0).1 ?_
  refine ev_getf (j := 5) (t := 2) (x := (x0 + 6)) dX8_deed_72 cf_X8 wf_X8_28 (sW hx0) (pW hx0).1 (pW hx0).2 rfl (by decide) (rW5 _ hx0) ?_
  refine ev_iload_n dX8_deed_75 rfl ?_
  refine ev_lald dX8_deed_76 (sW5 hx0) (pW5 hx0).1 (pW5 hx0).2 h (fun h => ?_)
  refine ev_iload_n dX8_deed_77 rfl ?_
  obtain ⟨v5, hc6, h⟩ := bind_of h
  refine ev_invSN_v (av := [(1, (σ (x0 + 6) x1)), (0, x2)]) (st := []) (v := (0, v5)) (τ := σ) dX8_deed_78 ml_X8_75 mt_X10_hasSlot rfl ⟨Nat.le_of_ble_eq_true rfl, Nat.le_of_ble_eq_true rfl⟩ (Nat.le_of_ble_eq_true rfl) (c_X10_hasSlot hc6) ?_
  refine ev_if_eq (tgt := 89) dX8_deed_81 rfl h (fun cb h => ?_) (fun cb h => ?_)
  · refine ev_iconst dX8_deed_89 (by decide) ?_
    obtain rfl := Option.some.inj h
    exact ev_iret dX8_deed_90 rfl rfl
  refine ev_bipush dX8_deed_84 (by decide) (by decide) ?_
  refine ev_goto (tgt := 90) dX8_deed_86 rfl ?_
  obtain rfl := Option.some.inj h
  exact ev_iret dX8_deed_90 rfl rfl
set_option maxHeartbeats 4000000 in
set_option maxRecDepth 20000 in
theorem b_X8_deed_18 (σ : Mem) (x0 x1 x2 : Int) (hx0 : isW x0) {r : Option V × Mem × Mem} : ∀ a x, f_X8_deed_18B σ x0 x1 x2 a = some x → K_X8_deed_18 σ x0 x1 x2 r x → K_X8_deed_18 σ x0 x1 x2 r (.inl a) := by
  intro a x h K
  have ⟨x3, ea⟩ : ∃ z, z = a := ⟨_, rfl⟩
  subst ea
  have h : f_X8_deed_18C σ x0 x1 x2 x3 = some x := h
  unfold f_X8_deed_18C at h
  show Ev M_X8_deed 181 181 r 18 181 rho σ [(2, x0), (0, x1), (0, x2), (0, x3), (9, 0)] []
  refine ev_iload_n dX8_deed_18 rfl ?_
  refine ev_aload_n dX8_deed_19 rfl (pW hx0).1 ?_
  refine ev_getf (j := 4) (t := 2) (x := (x0 + 5)) dX8_deed_20 cf_X8 wf_X8_25 (sW hx0) (pW hx0).1 (pW hx0).2 rfl (by decide) (rW4 _ hx0) ?_
  refine ev_iload_n dX8_deed_23 rfl ?_
  refine ev_iald dX8_deed_24 (sW4 hx0) (pW4 hx0).1 (pW4 hx0).2 h (fun h => ?_)
  refine ev_icmp_ge (tgt := 71) dX8_deed_25 rfl h (fun cb h => ?_) (fun cb h => ?_)
  · obtain rfl := Option.some.inj h
    exact ev_sub (L2 := [(2, x0), (0, x1), (0, x2), (9, 0), (9, 0)]) K ⟨.inr rfl, .inr rfl, .inr rfl, .inl rfl, .inl rfl, trivial⟩
  refine ev_iload_n dX8_deed_28 rfl ?_
  refine ev_iconst dX8_deed_29 (by decide) ?_
  refine ev_imul dX8_deed_30 ?_
  refine ev_iload_n dX8_deed_31 rfl ?_
  refine ev_iadd dX8_deed_32 ?_
  refine ev_istoreG dX8_deed_33 h rfl (by decide) (fun v3 h => ?_)
  show Ev _ _ _ _ 35 _ _ _ [(2, x0), (0, x1), (0, x2), (0, x3), (0, v3)] _
  refine ev_aload_n dX8_deed_35 rfl (pW hx0).1 ?_
  refine ev_getf (j := 7) (t := 2) (x := (x0 + 8)) dX8_deed_36 cf_X8 wf_X8_35 (sW hx0) (pW hx0).1 (pW hx0).2 rfl (by decide) (rW7 _ hx0) ?_
  refine ev_iload dX8_deed_39 rfl ?_
  refine ev_iald dX8_deed_41 (sW7 hx0) (pW7 hx0).1 (pW7 hx0).2 h (fun h => ?_)
  refine ev_iload_n dX8_deed_42 rfl ?_
  show Ev _ _ _ _ 43 _ _ _ _ _
  refine ev_icmp_gt (tgt := 65) dX8_deed_43 rfl h (fun cb h => ?_) (fun cb h => ?_)
  · exact ev_sub (L2 := [(2, x0), (0, x1), (0, x2), (0, x3), (9, 0)]) (e_X8_deed_65 σ x0 x1 x2 x3 hx0 h K) ⟨.inr rfl, .inr rfl, .inr rfl, .inr rfl, .inl rfl, trivial⟩
  refine ev_iload_n dX8_deed_46 rfl ?_
  refine ev_aload_n dX8_deed_47 rfl (pW hx0).1 ?_
  refine ev_getf (j := 8) (t := 2) (x := (x0 + 9)) dX8_deed_48 cf_X8 wf_X8_38 (sW hx0) (pW hx0).1 (pW hx0).2 rfl (by decide) (rW8 _ hx0) ?_
  refine ev_iload dX8_deed_51 rfl ?_
  refine ev_iald dX8_deed_53 (sW8 hx0) (pW8 hx0).1 (pW8 hx0).2 h (fun h => ?_)
  refine ev_icmp_ge (tgt := 65) dX8_deed_54 rfl h (fun cb h => ?_) (fun cb h => ?_)
  · exact ev_sub (L2 := [(2, x0), (0, x1), (0, x2), (0, x3), (9, 0)]) (e_X8_deed_65 σ x0 x1 x2 x3 hx0 h K) ⟨.inr rfl, .inr rfl, .inr rfl, .inr rfl, .inl rfl, trivial⟩
  obtain rfl := Option.some.inj h
  exact ev_sub (L2 := [(2, x0), (9, 0), (9, 0), (9, 0), (0, v3)]) K ⟨.inr rfl, .inl rfl, .inl rfl, .inl rfl, .inr rfl, trivial⟩
set_option maxHeartbeats 4000000 in
set_option maxRecDepth 20000 in
theorem e_X8_deed_18 (σ : Mem) (x0 x1 x2 x3 : Int) (hx0 : isW x0) {q : Int} (h : f_X8_deed_18 σ x0 x1 x2 x3 = some q) : Ev M_X8_deed 181 181 (some (0, q), rho, σ) 18 181 rho σ [(2, x0), (0, x1), (0, x2), (0, x3), (9, 0)] [] := by
  unfold f_X8_deed_18 at h
  obtain ⟨e, hl, h⟩ := bind_of h
  refine loop_ev (K := K_X8_deed_18 σ x0 x1 x2 (some (0, q), rho, σ)) (b_X8_deed_18 σ x0 x1 x2 hx0) FU x3 e hl ?_
  rcases e with e | e
  · show Ev M_X8_deed 181 181 _ 57 181 rho σ [(2, x0), (9, 0), (9, 0), (9, 0), (0, e)] []
    replace h : f_X8_deed_57 σ x0 e = some q := h
    exact ev_sub (L2 := [(2, x0), (9, 0), (9, 0), (9, 0), (0, e)]) (e_X8_deed_57 σ x0 e hx0 h) ⟨.inr rfl, .inl rfl, .inl rfl, .inl rfl, .inr rfl, trivial⟩
  · show Ev M_X8_deed 181 181 _ 71 181 rho σ [(2, x0), (0, x1), (0, x2), (9, 0), (9, 0)] []
    replace h : f_X8_deed_71 σ x0 x1 x2 = some q := h
    exact ev_sub (L2 := [(2, x0), (0, x1), (0, x2), (9, 0), (9, 0)]) (e_X8_deed_71 σ x0 x1 x2 hx0 h) ⟨.inr rfl, .inr rfl, .inr rfl, .inl rfl, .inl rfl, trivial⟩
set_option maxHeartbeats 4000000 in
set_option maxRecDepth 20000 in
theorem c_X8_deed {σ : Mem} {x0 x1 x2 : Int} (hx0 : isW x0) {q : Int} (h : f_X8_deed σ x0 x1 x2 = some q) : Ms yX8_deed M_X8_deed 181 181 [(2, x0), (0, x1), (0, x2)] rho σ (some (0, q), rho, σ) := by
  refine Ms.of 2 (by decide +kernel) rfl (fun z => absurd z (by decide)) (fun _ _ _ => trivial) rfl rfl ?_
  unfold f_X8_deed at h
  show Ev M_X8_deed 181 181 _ 0 181 rho σ [(2, x0), (0, x1), (0, x2), (9, 0), (9, 0)] []
  refine ev_iload_n dX8_deed_0 rfl ?_
  refine ev_aload_n dX8_deed_1 rfl (pW hx0).1 ?_
  refine ev_getf (j := 3) (t := 2) (x := (x0 + 4)) dX8_deed_2 cf_X8 wf_X8_22 (sW hx0) (pW hx0).1 (pW hx0).2 rfl (by decide) (rW3 _ hx0) ?_
  refine ev_iload_n dX8_deed_5 rfl ?_
  refine ev_iald dX8_deed_6 (sW3 hx0) (pW3 hx0).1 (pW3 hx0).2 h (fun h => ?_)
  refine ev_icmp_ge (tgt := 16) dX8_deed_7 rfl h (fun cb h => ?_) (fun cb h => ?_)
  · refine ev_iconst dX8_deed_16 (by decide) ?_
    refine ev_istore_n dX8_deed_17 rfl (by decide) ?_
    show Ev _ _ _ _ 18 _ _ _ [(2, x0), (0, x1), (0, x2), (0, (0 : Int)), (9, 0)] _
    exact ev_sub (L2 := [(2, x0), (0, x1), (0, x2), (0, (0 : Int)), (9, 0)]) (e_X8_deed_18 σ x0 x1 x2 (0 : Int) hx0 h) ⟨.inr rfl, .inr rfl, .inr rfl, .inr rfl, .inl rfl, trivial⟩
  refine ev_aload_n dX8_deed_10 rfl (pW hx0).1 ?_
  refine ev_iload_n dX8_deed_11 rfl ?_
  obtain ⟨v1, hc2, h⟩ := bind_of h
  refine ev_invV_v (k := x0) (av := [(0, x1)]) (st := []) (v := (0, v1)) (τ := σ) dX8_deed_12 ml_X8_72 mv_X8_cameTo (T := TX8) (ci := 7) rfl (sW hx0) (pW hx0).1 (pW hx0).2 rfl ⟨Nat.le_of_ble_eq_true rfl, Nat.le_of_ble_eq_true rfl⟩ (Nat.le_of_ble_eq_true rfl) (c_X8_cameTo hx0 hc2) ?_
  obtain rfl := Option.some.inj h
  exact ev_iret dX8_deed_15 rfl rfl
def K_X8_measured_20 (σ : Mem) (x0 x1 x2 x3 : Int) (r : Option V × Mem × Mem) : (Int × Int) ⊕ ((Int)) → Prop := Sum.elim (fun a => Ev M_X8_measured 181 181 r 20 181 rho σ [(2, x0), (2, x1), (0, x2), (0, x3), (0, a.1), (0, a.2), (9, 0)] []) (fun e => Ev M_X8_measured 181 181 r 80 181 rho σ [(9, 0), (9, 0), (9, 0), (9, 0), (0, e), (9, 0), (9, 0)] [])
set_option maxHeartbeats 4000000 in
set_option maxRecDepth 20000 in
theorem b_X8_measured_20 (σ : Mem) (x0 x1 x2 x3 : Int) (hx0 : isW x0) (hx1 : isB x1) {r : Option V × Mem × Mem} : ∀ a x, f_X8_measured_20B σ x0 x1 x2 x3 a = some x → K_X8_measured_20 σ x0 x1 x2 x3 r x → K_X8_measured_20 σ x0 x1 x2 x3 r (.inl a) := by
  intro a x h K
  obtain ⟨x4, x5⟩ := a
  have h : f_X8_measured_20C σ x0 x1 x2 x3 x4 x5 = some x := h
  unfold f_X8_measured_20C at h
  show Ev M_X8_measured 181 181 r 20 181 rho σ [(2, x0), (2, x1), (0, x2), (0, x3), (0, x4), (0, x5), (9, 0)] []
  refine ev_iload dX8_measured_20 rfl ?_
  refine ev_aload_n dX8_measured_22 rfl (pW hx0).1 ?_
  refine ev_getf (j := 4) (t := 2) (x := (x0 + 5)) dX8_measured_23 cf_X8 wf_X8_25 (sW hx0) (pW hx0).1 (pW hx0).2 rfl (by decide) (rW4 _ hx0) ?_
  refine ev_iload_n dX8_measured_26 rfl ?_
  refine ev_iald dX8_measured_27 (sW4 hx0) (pW4 hx0).1 (pW4 hx0).2 h (fun h => ?_)
  refine ev_icmp_ge (tgt := 80) dX8_measured_28 rfl h (fun cb h => ?_) (fun cb h => ?_)
  · obtain rfl := Option.some.inj h
    exact ev_sub (L2 := [(9, 0), (9, 0), (9, 0), (9, 0), (0, x4), (9, 0), (9, 0)]) K ⟨.inl rfl, .inl rfl, .inl rfl, .inl rfl, .inr rfl, .inl rfl, .inl rfl, trivial⟩
  refine ev_iload_n dX8_measured_31 rfl ?_
  refine ev_iconst dX8_measured_32 (by decide) ?_
  refine ev_imul dX8_measured_33 ?_
  refine ev_iload dX8_measured_34 rfl ?_
  refine ev_iadd dX8_measured_36 ?_
  refine ev_istoreG dX8_measured_37 h rfl (by decide) (fun v3 h => ?_)
  show Ev _ _ _ _ 39 _ _ _ [(2, x0), (2, x1), (0, x2), (0, x3), (0, x4), (0, x5), (0, v3)] _
  refine ev_iload_n dX8_measured_39 rfl ?_
  refine ev_iload dX8_measured_40 rfl ?_
  refine ev_aload_n dX8_measured_42 rfl (pW hx0).1 ?_
  refine ev_getf (j := 7) (t := 2) (x := (x0 + 8)) dX8_measured_43 cf_X8 wf_X8_35 (sW hx0) (pW hx0).1 (pW hx0).2 rfl (by decide) (rW7 _ hx0) ?_
  refine ev_iload dX8_measured_46 rfl ?_
  show Ev _ _ _ _ 48 _ _ _ _ _
  refine ev_iald dX8_measured_48 (sW7 hx0) (pW7 hx0).1 (pW7 hx0).2 h (fun h => ?_)
  refine ev_aload_n dX8_measured_49 rfl (pB hx1).1 ?_
  refine ev_getf (j := 1) (t := 2) (x := (x1 + 2)) dX8_measured_50 cf_X0 wf_X8_79 (sB hx1) (pB hx1).1 (pB hx1).2 rfl (by decide) (rB1 _ hx1) ?_
  refine ev_aload_n dX8_measured_53 rfl (pW hx0).1 ?_
  refine ev_getf (j := 6) (t := 2) (x := (x0 + 7)) dX8_measured_54 cf_X8 wf_X8_32 (sW hx0) (pW hx0).1 (pW hx0).2 rfl (by decide) (rW6 _ hx0) ?_
  refine ev_iload dX8_measured_57 rfl ?_
  refine ev_iald dX8_measured_59 (sW6 hx0) (pW6 hx0).1 (pW6 hx0).2 h (fun h => ?_)
  refine ev_iald dX8_measured_60 (sB1 hx1) (pB1 hx1).1 (pB1 hx1).2 h (fun h => ?_)
  refine ev_isub dX8_measured_61 ?_
  refine ev_aload_n dX8_measured_62 rfl (pW hx0).1 ?_
  refine ev_getf (j := 8) (t := 2) (x := (x0 + 9)) dX8_measured_63 cf_X8 wf_X8_38 (sW hx0) (pW hx0).1 (pW hx0).2 rfl (by decide) (rW8 _ hx0) ?_
  refine ev_iload dX8_measured_66 rfl ?_
  show Ev _ _ _ _ 68 _ _ _ _ _
  refine ev_iald dX8_measured_68 (sW8 hx0) (pW8 hx0).1 (pW8 hx0).2 h (fun h => ?_)
  obtain ⟨v4, hc5, h⟩ := bind_of h
  refine ev_invS_v (av := [(0, x3), (0, x4), (0, (jsub (σ (x0 + 8) v3) (σ (x1 + 2) (σ (x0 + 7) v3)))), (0, (σ (x0 + 9) v3))]) (st := []) (v := (0, v4)) (τ := σ) dX8_measured_69 ml_X8_84 mt_X3_join rfl ⟨Nat.le_of_ble_eq_true rfl, Nat.le_of_ble_eq_true rfl⟩ (Nat.le_of_ble_eq_true rfl) (c_X3_join hc5) ?_
  refine ev_istore dX8_measured_72 rfl (by decide) ?_
  show Ev _ _ _ _ 74 _ _ _ [(2, x0), (2, x1), (0, x2), (0, x3), (0, v4), (0, x5), (0, v3)] _
  refine ev_iincG dX8_measured_74 rfl h rfl (fun v6 h => ?_)
  show Ev _ _ _ _ 77 _ _ _ [(2, x0), (2, x1), (0, x2), (0, x3), (0, v4), (0, v6), (0, v3)] _
  refine ev_goto (tgt := 20) dX8_measured_77 rfl ?_
  obtain rfl := Option.some.inj h
  exact ev_sub (L2 := [(2, x0), (2, x1), (0, x2), (0, x3), (0, v4), (0, v6), (9, 0)]) K ⟨.inr rfl, .inr rfl, .inr rfl, .inr rfl, .inr rfl, .inr rfl, .inl rfl, trivial⟩
set_option maxHeartbeats 4000000 in
set_option maxRecDepth 20000 in
theorem e_X8_measured_20 (σ : Mem) (x0 x1 x2 x3 x4 x5 : Int) (hx0 : isW x0) (hx1 : isB x1) {q : Int} (h : f_X8_measured_20 σ x0 x1 x2 x3 x4 x5 = some q) : Ev M_X8_measured 181 181 (some (0, q), rho, σ) 20 181 rho σ [(2, x0), (2, x1), (0, x2), (0, x3), (0, x4), (0, x5), (9, 0)] [] := by
  unfold f_X8_measured_20 at h
  obtain ⟨e, hl, h⟩ := bind_of h
  refine loop_ev (K := K_X8_measured_20 σ x0 x1 x2 x3 (some (0, q), rho, σ)) (b_X8_measured_20 σ x0 x1 x2 x3 hx0 hx1) FU (x4, x5) e hl ?_
  show Ev M_X8_measured 181 181 _ 80 181 rho σ [(9, 0), (9, 0), (9, 0), (9, 0), (0, e), (9, 0), (9, 0)] []
  replace h : some e = some q := h
  refine ev_iload dX8_measured_80 rfl ?_
  obtain rfl := Option.some.inj h
  exact ev_iret dX8_measured_82 rfl rfl
set_option maxHeartbeats 4000000 in
set_option maxRecDepth 20000 in
theorem c_X8_measured {σ : Mem} {x0 x1 x2 x3 : Int} (hx0 : isW x0) (hx1 : isB x1) {q : Int} (h : f_X8_measured σ x0 x1 x2 x3 = some q) : Ms yX8_measured M_X8_measured 181 181 [(2, x0), (2, x1), (0, x2), (0, x3)] rho σ (some (0, q), rho, σ) := by
  refine Ms.of 3 (by decide +kernel) rfl (fun z => absurd z (by decide)) (fun _ _ _ => trivial) rfl rfl ?_
  unfold f_X8_measured at h
  show Ev M_X8_measured 181 181 _ 0 181 rho σ [(2, x0), (2, x1), (0, x2), (0, x3), (9, 0), (9, 0), (9, 0)] []
  refine ev_iload_n dX8_measured_0 rfl ?_
  refine ev_if_ne (tgt := 14) dX8_measured_1 rfl h (fun cb h => ?_) (fun cb h => ?_)
  · refine ev_iconst dX8_measured_14 (by decide) ?_
    refine ev_istore dX8_measured_15 rfl (by decide) ?_
    show Ev _ _ _ _ 17 _ _ _ [(2, x0), (2, x1), (0, x2), (0, x3), (0, (0 : Int)), (9, 0), (9, 0)] _
    refine ev_iconst dX8_measured_17 (by decide) ?_
    refine ev_istore dX8_measured_18 rfl (by decide) ?_
    show Ev _ _ _ _ 20 _ _ _ [(2, x0), (2, x1), (0, x2), (0, x3), (0, (0 : Int)), (0, (0 : Int)), (9, 0)] _
    exact ev_sub (L2 := [(2, x0), (2, x1), (0, x2), (0, x3), (0, (0 : Int)), (0, (0 : Int)), (9, 0)]) (e_X8_measured_20 σ x0 x1 x2 x3 (0 : Int) (0 : Int) hx0 hx1 h) ⟨.inr rfl, .inr rfl, .inr rfl, .inr rfl, .inr rfl, .inr rfl, .inl rfl, trivial⟩
  refine ev_aload_n dX8_measured_4 rfl (pW hx0).1 ?_
  refine ev_getf (j := 5) (t := 2) (x := (x0 + 6)) dX8_measured_5 cf_X8 wf_X8_28 (sW hx0) (pW hx0).1 (pW hx0).2 rfl (by decide) (rW5 _ hx0) ?_
  refine ev_iload_n dX8_measured_8 rfl ?_
  refine ev_lald dX8_measured_9 (sW5 hx0) (pW5 hx0).1 (pW5 hx0).2 h (fun h => ?_)
  obtain ⟨v1, hc2, h⟩ := bind_of h
  refine ev_invS_v (av := [(1, (σ (x0 + 6) x2))]) (st := []) (v := (0, v1)) (τ := σ) dX8_measured_10 ml_X8_66 mt_J13_bitCount_95d88 rfl ⟨Nat.le_of_ble_eq_true rfl, Nat.le_of_ble_eq_true rfl⟩ (Nat.le_of_ble_eq_true rfl) (c_J13_bitCount_95d88 hc2) ?_
  obtain rfl := Option.some.inj h
  exact ev_iret dX8_measured_13 rfl rfl
