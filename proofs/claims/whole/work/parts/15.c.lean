def K_X11_move_2 (x0 x1 : Int) (r : Option V × Mem × Mem) : (Int × Mem) ⊕ ((Mem)) → Prop := Sum.elim (fun a => Ev M_X11_move 218 218 r 2 218 rho a.2 [(2, x0), (2, x1), (0, a.1)] []) (fun e => Ev M_X11_move 218 218 r 20 218 rho e [(9, 0), (9, 0), (9, 0)] [])
set_option maxHeartbeats 4000000 in
set_option maxRecDepth 20000 in
theorem b_X11_move_2 (x0 x1 : Int) (hx0 : isM x0) (hx1 : isM x1) {r : Option V × Mem × Mem} : ∀ a x, f_X11_move_2B x0 x1 a = some x → K_X11_move_2 x0 x1 r x → K_X11_move_2 x0 x1 r (.inl a) := by
  intro a x h K
  obtain ⟨x2, σ⟩ := a
  have h : f_X11_move_2C x0 x1 x2 σ = some x := h
  unfold f_X11_move_2C at h
  show Ev M_X11_move 218 218 r 2 218 rho σ [(2, x0), (2, x1), (0, x2)] []
  refine ev_iload_n dX11_move_2 rfl ?_
  refine ev_bipush dX11_move_3 (by decide) (by decide) ?_
  refine ev_icmp_ge (tgt := 20) dX11_move_5 rfl h (fun cb h => ?_) (fun cb h => ?_)
  · obtain rfl := Option.some.inj h
    exact ev_sub (L2 := [(9, 0), (9, 0), (9, 0)]) K ⟨.inl rfl, .inl rfl, .inl rfl, trivial⟩
  refine ev_aload_n dX11_move_8 rfl (pM hx1).1 ?_
  refine ev_iload_n dX11_move_9 rfl ?_
  refine ev_aload_n dX11_move_10 rfl (pM hx0).1 ?_
  refine ev_iload_n dX11_move_11 rfl ?_
  refine ev_iald dX11_move_12 (sM hx0) (pM hx0).1 (pM hx0).2 h (fun h => ?_)
  refine ev_iastG dX11_move_13 (sM hx1) (pM hx1).1 (pM hx1).2 h (fun σ1 h => ?_)
  refine ev_iincG dX11_move_14 rfl h rfl (fun v2 h => ?_)
  show Ev _ _ _ _ 17 _ _ _ [(2, x0), (2, x1), (0, v2)] _
  refine ev_goto (tgt := 2) dX11_move_17 rfl ?_
  obtain rfl := Option.some.inj h
  exact ev_sub (L2 := [(2, x0), (2, x1), (0, v2)]) K ⟨.inr rfl, .inr rfl, .inr rfl, trivial⟩
set_option maxHeartbeats 4000000 in
set_option maxRecDepth 20000 in
theorem e_X11_move_2 (σ : Mem) (x0 x1 x2 : Int) (hx0 : isM x0) (hx1 : isM x1) {q : Mem} (h : f_X11_move_2 σ x0 x1 x2 = some q) : Ev M_X11_move 218 218 (none, rho, q) 2 218 rho σ [(2, x0), (2, x1), (0, x2)] [] := by
  unfold f_X11_move_2 at h
  obtain ⟨e, hl, h⟩ := bind_of h
  refine loop_ev (K := K_X11_move_2 x0 x1 (none, rho, q)) (b_X11_move_2 x0 x1 hx0 hx1) FU (x2, σ) e hl ?_
  show Ev M_X11_move 218 218 _ 20 218 rho e [(9, 0), (9, 0), (9, 0)] []
  replace h : some e = some q := h
  obtain rfl := Option.some.inj h
  exact ev_vret dX11_move_20 rfl rfl
set_option maxHeartbeats 4000000 in
set_option maxRecDepth 20000 in
theorem c_X11_move {σ : Mem} {x0 x1 : Int} (hx0 : isM x0) (hx1 : isM x1) {q : Mem} (h : f_X11_move σ x0 x1 = some q) : Ms yX11_move M_X11_move 218 218 [(2, x0), (2, x1)] rho σ (none, rho, q) := by
  refine Ms.of 1 (by decide +kernel) rfl (fun z => absurd z (by decide)) (fun _ _ _ => trivial) rfl rfl ?_
  unfold f_X11_move at h
  show Ev M_X11_move 218 218 _ 0 218 rho σ [(2, x0), (2, x1), (9, 0)] []
  refine ev_iconst dX11_move_0 (by decide) ?_
  refine ev_istore_n dX11_move_1 rfl (by decide) ?_
  show Ev _ _ _ _ 2 _ _ _ [(2, x0), (2, x1), (0, (0 : Int))] _
  exact ev_sub (L2 := [(2, x0), (2, x1), (0, (0 : Int))]) (e_X11_move_2 σ x0 x1 (0 : Int) hx0 hx1 h) ⟨.inr rfl, .inr rfl, .inr rfl, trivial⟩
def K_X11_book_25 (r : Option V × Mem × Mem) : (Int × Int × Mem) ⊕ ((Int × Mem)) → Prop := Sum.elim (fun a => Ev M_X11_book 218 218 r 25 218 rho a.2.2 [(2, (181 : Int)), (0, a.1), (0, a.2.1)] []) (fun e => Ev M_X11_book 218 218 r 117 218 rho e.2 [(2, (181 : Int)), (0, e.1), (9, 0)] [])
set_option maxHeartbeats 4000000 in
set_option maxRecDepth 20000 in
theorem e_X11_book_104 (σ : Mem) (x1 x2 : Int)  {q : ((Int × Int × Mem) ⊕ ((Int × Mem)))} (h : f_X11_book_104 σ x1 x2 = some q) {r : Option V × Mem × Mem} (K : K_X11_book_25  r q) : Ev M_X11_book 218 218 r 104 218 rho σ [(2, (181 : Int)), (0, x1), (0, x2)] [] := by
  unfold f_X11_book_104 at h
  refine ev_aload_n dX11_book_104 rfl (by decide) ?_
  refine ev_dup dX11_book_105 (show (2 : Nat) ≠ 1 by decide) ?_
  refine ev_getf (j := 10) (t := 0) (x := (σ (181 : Int) 10)) dX11_book_106 cf_X11 wf_X11_209 sp181 (by decide) (by decide) rfl (by decide) rfl ?_
  refine ev_iconst dX11_book_109 (by decide) ?_
  refine ev_iadd dX11_book_110 ?_
  refine ev_putfG (j := 10) (t := 0) dX11_book_111 cf_X11 wf_X11_209 sp181 (by decide) (by decide) rfl (by decide) (by decide) rfl (fun z => absurd z (by decide +kernel)) h (fun σ17 h => ?_)
  refine ev_goto (tgt := 25) dX11_book_114 rfl ?_
  obtain rfl := Option.some.inj h
  exact ev_sub (L2 := [(2, (181 : Int)), (0, x1), (0, x2)]) K ⟨.inr rfl, .inr rfl, .inr rfl, trivial⟩
set_option maxHeartbeats 4000000 in
set_option maxRecDepth 20000 in
theorem e_X11_book_84 (σ : Mem) (x1 s0 : Int)  {q : ((Int × Int × Mem) ⊕ ((Int × Mem)))} (h : f_X11_book_84 σ x1 s0 = some q) {r : Option V × Mem × Mem} (K : K_X11_book_25  r q) : Ev M_X11_book 218 218 r 84 218 rho σ [(2, (181 : Int)), (0, x1), (9, 0)] [(0, s0)] := by
  unfold f_X11_book_84 at h
  refine ev_istore_n dX11_book_84 rfl (by decide) ?_
  show Ev _ _ _ _ 85 _ _ _ [(2, (181 : Int)), (0, x1), (0, s0)] _
  refine ev_iload_n dX11_book_85 rfl ?_
  refine ev_if_ne (tgt := 104) dX11_book_86 rfl h (fun cb h => ?_) (fun cb h => ?_)
  · exact ev_sub (L2 := [(2, (181 : Int)), (0, x1), (0, s0)]) (e_X11_book_104 σ x1 s0 h K) ⟨.inr rfl, .inr rfl, .inr rfl, trivial⟩
  refine ev_aload_n dX11_book_89 rfl (by decide) ?_
  refine ev_getf (j := 10) (t := 0) (x := (σ (181 : Int) 10)) dX11_book_90 cf_X11 wf_X11_209 sp181 (by decide) (by decide) rfl (by decide) rfl ?_
  refine ev_aload_n dX11_book_93 rfl (by decide) ?_
  refine ev_getf (j := 9) (t := 0) (x := (σ (181 : Int) 9)) dX11_book_94 cf_X11 wf_X11_205 sp181 (by decide) (by decide) rfl (by decide) rfl ?_
  refine ev_icmp_ge (tgt := 104) dX11_book_97 rfl h (fun cb h => ?_) (fun cb h => ?_)
  · exact ev_sub (L2 := [(2, (181 : Int)), (0, x1), (0, s0)]) (e_X11_book_104 σ x1 s0 h K) ⟨.inr rfl, .inr rfl, .inr rfl, trivial⟩
  refine ev_aload_n dX11_book_100 rfl (by decide) ?_
  obtain ⟨σ10, hc11, h⟩ := bind_of h
  refine ev_invV_n (k := (181 : Int)) (av := []) (st := []) (τ := σ10) dX11_book_101 ml_X11_227 mv_X11_wrong (T := TX11) (ci := 10) rfl sp181 (by decide) (by decide) rfl ⟨Nat.le_of_ble_eq_true rfl, Nat.le_of_ble_eq_true rfl⟩ (Nat.le_of_ble_eq_true rfl) (c_X11_wrong hc11) ?_
  exact ev_sub (L2 := [(2, (181 : Int)), (0, x1), (0, s0)]) (e_X11_book_104 σ10 x1 s0 h K) ⟨.inr rfl, .inr rfl, .inr rfl, trivial⟩
set_option maxHeartbeats 4000000 in
set_option maxRecDepth 20000 in
theorem e_X11_book_83 (σ : Mem) (x1 : Int)  {q : ((Int × Int × Mem) ⊕ ((Int × Mem)))} (h : f_X11_book_83 σ x1 = some q) {r : Option V × Mem × Mem} (K : K_X11_book_25  r q) : Ev M_X11_book 218 218 r 83 218 rho σ [(2, (181 : Int)), (0, x1), (9, 0)] [] := by
  unfold f_X11_book_83 at h
  refine ev_iconst dX11_book_83 (by decide) ?_
  exact ev_sub (L2 := [(2, (181 : Int)), (0, x1), (9, 0)]) (e_X11_book_84 σ x1 (0 : Int) h K) ⟨.inr rfl, .inr rfl, .inl rfl, trivial⟩
set_option maxHeartbeats 4000000 in
set_option maxRecDepth 20000 in
theorem e_X11_book_117 (σ : Mem) (x1 : Int)  {q : (Int × Mem)} (h : f_X11_book_117 σ x1 = some q) : Ev M_X11_book 218 218 (some (0, q.1), rho, q.2) 117 218 rho σ [(2, (181 : Int)), (0, x1), (9, 0)] [] := by
  unfold f_X11_book_117 at h
  refine ev_aload_n dX11_book_117 rfl (by decide) ?_
  refine ev_iconst dX11_book_118 (by decide) ?_
  refine ev_putfG (j := 9) (t := 0) dX11_book_119 cf_X11 wf_X11_205 sp181 (by decide) (by decide) rfl (by decide) (by decide) rfl (fun z => absurd z (by decide +kernel)) h (fun σ12 h => ?_)
  refine ev_aload_n dX11_book_122 rfl (by decide) ?_
  refine ev_getf (j := 13) (t := 0) (x := (σ12 (181 : Int) 13)) dX11_book_123 cf_X11 wf_X11_215 sp181 (by decide) (by decide) rfl (by decide) rfl ?_
  refine ev_if_lt (tgt := 156) dX11_book_126 rfl h (fun cb h => ?_) (fun cb h => ?_)
  · refine ev_iload_n dX11_book_156 rfl ?_
    obtain rfl := Option.some.inj h
    dsimp only
    exact ev_iret dX11_book_157 rfl rfl
  refine ev_aload_n dX11_book_129 rfl (by decide) ?_
  refine ev_getf (j := 15) (t := 2) (x := (191 : Int)) dX11_book_130 cf_X11 wf_X11_39 sp181 (by decide) (by decide) rfl (by decide) (rp181_15 _) ?_
  refine ev_aload_n dX11_book_133 rfl (by decide) ?_
  refine ev_getf (j := 0) (t := 2) (x := (182 : Int)) dX11_book_134 cf_X11 wf_X11_7 sp181 (by decide) (by decide) rfl (by decide) (rp181_0 _) ?_
  obtain ⟨σ13, hc14, h⟩ := bind_of h
  refine ev_invS_n (av := [(2, (191 : Int)), (2, (182 : Int))]) (st := []) (τ := σ13) dX11_book_137 ml_X11_245 mt_X11_move rfl ⟨Nat.le_of_ble_eq_true rfl, Nat.le_of_ble_eq_true rfl⟩ (Nat.le_of_ble_eq_true rfl) (c_X11_move hM191 hM182 hc14) ?_
  refine ev_aload_n dX11_book_140 rfl (by decide) ?_
  refine ev_bipush dX11_book_141 (by decide) (by decide) ?_
  obtain ⟨v15, hc16, h⟩ := bind_of h
  refine ev_invV_v (k := (181 : Int)) (av := [(0, (-52 : Int))]) (st := []) (v := (0, v15.1)) (τ := v15.2) dX11_book_143 ml_X11_151 mv_X11_no (T := TX11) (ci := 10) rfl sp181 (by decide) (by decide) rfl ⟨Nat.le_of_ble_eq_true rfl, Nat.le_of_ble_eq_true rfl⟩ (Nat.le_of_ble_eq_true rfl) (c_X11_no hc16) ?_
  refine ev_pop dX11_book_146 (show (0 : Nat) ≠ 1 by decide) ?_
  refine ev_sipush dX11_book_147 (by decide) (by decide) ?_
  refine ev_aload_n dX11_book_150 rfl (by decide) ?_
  show Ev _ _ _ _ 151 _ _ _ _ _
  refine ev_getf (j := 13) (t := 0) (x := (v15.2 (181 : Int) 13)) dX11_book_151 cf_X11 wf_X11_215 sp181 (by decide) (by decide) rfl (by decide) rfl ?_
  refine ev_isub dX11_book_154 ?_
  obtain rfl := Option.some.inj h
  dsimp only
  exact ev_iret dX11_book_155 rfl rfl
set_option maxHeartbeats 4000000 in
set_option maxRecDepth 20000 in
theorem b_X11_book_25  {r : Option V × Mem × Mem} : ∀ a x, f_X11_book_25B  a = some x → K_X11_book_25  r x → K_X11_book_25  r (.inl a) := by
  intro a x h K
  obtain ⟨x1, x2, σ⟩ := a
  have h : f_X11_book_25C  x1 x2 σ = some x := h
  unfold f_X11_book_25C at h
  show Ev M_X11_book 218 218 r 25 218 rho σ [(2, (181 : Int)), (0, x1), (0, x2)] []
  refine ev_iload_n dX11_book_25 rfl ?_
  refine ev_if_eq (tgt := 117) dX11_book_26 rfl h (fun cb h => ?_) (fun cb h => ?_)
  · obtain rfl := Option.some.inj h
    exact ev_sub (L2 := [(2, (181 : Int)), (0, x1), (9, 0)]) K ⟨.inr rfl, .inr rfl, .inl rfl, trivial⟩
  refine ev_aload_n dX11_book_29 rfl (by decide) ?_
  refine ev_getf (j := 13) (t := 0) (x := (σ (181 : Int) 13)) dX11_book_30 cf_X11 wf_X11_215 sp181 (by decide) (by decide) rfl (by decide) rfl ?_
  refine ev_if_ge (tgt := 117) dX11_book_33 rfl h (fun cb h => ?_) (fun cb h => ?_)
  · obtain rfl := Option.some.inj h
    exact ev_sub (L2 := [(2, (181 : Int)), (0, x1), (9, 0)]) K ⟨.inr rfl, .inr rfl, .inl rfl, trivial⟩
  refine ev_aload_n dX11_book_36 rfl (by decide) ?_
  obtain ⟨σ5, hc6, h⟩ := bind_of h
  refine ev_invV_n (k := (181 : Int)) (av := []) (st := []) (τ := σ5) dX11_book_37 ml_X11_249 mv_X11_statement (T := TX11) (ci := 10) rfl sp181 (by decide) (by decide) rfl ⟨Nat.le_of_ble_eq_true rfl, Nat.le_of_ble_eq_true rfl⟩ (Nat.le_of_ble_eq_true rfl) (c_X11_statement hc6) ?_
  refine ev_iincG dX11_book_40 rfl h rfl (fun v7 h => ?_)
  show Ev _ _ _ _ 43 _ _ _ [(2, (181 : Int)), (0, v7), (0, x2)] _
  refine ev_aload_n dX11_book_43 rfl (by decide) ?_
  refine ev_getf (j := 13) (t := 0) (x := (σ5 (181 : Int) 13)) dX11_book_44 cf_X11 wf_X11_215 sp181 (by decide) (by decide) rfl (by decide) rfl ?_
  refine ev_if_ge (tgt := 25) dX11_book_47 rfl h (fun cb h => ?_) (fun cb h => ?_)
  · obtain rfl := Option.some.inj h
    exact ev_sub (L2 := [(2, (181 : Int)), (0, v7), (0, x2)]) K ⟨.inr rfl, .inr rfl, .inr rfl, trivial⟩
  refine ev_aload_n dX11_book_50 rfl (by decide) ?_
  obtain ⟨σ8, hc9, h⟩ := bind_of h
  refine ev_invV_n (k := (181 : Int)) (av := []) (st := []) (τ := σ8) dX11_book_51 ml_X11_218 mv_X11_blanks (T := TX11) (ci := 10) rfl sp181 (by decide) (by decide) rfl ⟨Nat.le_of_ble_eq_true rfl, Nat.le_of_ble_eq_true rfl⟩ (Nat.le_of_ble_eq_true rfl) (c_X11_blanks hc9) ?_
  refine ev_aload_n dX11_book_54 rfl (by decide) ?_
  refine ev_getf (j := 10) (t := 0) (x := (σ8 (181 : Int) 10)) dX11_book_55 cf_X11 wf_X11_209 sp181 (by decide) (by decide) rfl (by decide) rfl ?_
  refine ev_aload_n dX11_book_58 rfl (by decide) ?_
  refine ev_getf (j := 9) (t := 0) (x := (σ8 (181 : Int) 9)) dX11_book_59 cf_X11 wf_X11_205 sp181 (by decide) (by decide) rfl (by decide) rfl ?_
  refine ev_icmp_ge (tgt := 83) dX11_book_62 rfl h (fun cb h => ?_) (fun cb h => ?_)
  · exact ev_sub (L2 := [(2, (181 : Int)), (0, v7), (9, 0)]) (e_X11_book_83 σ8 v7 h K) ⟨.inr rfl, .inr rfl, .inl rfl, trivial⟩
  refine ev_aload_n dX11_book_65 rfl (by decide) ?_
  refine ev_getf (j := 8) (t := 2) (x := (189 : Int)) dX11_book_66 cf_X11 wf_X11_32 sp181 (by decide) (by decide) rfl (by decide) (rp181_8 _) ?_
  refine ev_aload_n dX11_book_69 rfl (by decide) ?_
  refine ev_getf (j := 10) (t := 0) (x := (σ8 (181 : Int) 10)) dX11_book_70 cf_X11 wf_X11_209 sp181 (by decide) (by decide) rfl (by decide) rfl ?_
  refine ev_iald dX11_book_73 sp189 (by decide) (by decide) h (fun h => ?_)
  refine ev_bipush dX11_book_74 (by decide) (by decide) ?_
  refine ev_icmp_ne (tgt := 83) dX11_book_76 rfl h (fun cb h => ?_) (fun cb h => ?_)
  · exact ev_sub (L2 := [(2, (181 : Int)), (0, v7), (9, 0)]) (e_X11_book_83 σ8 v7 h K) ⟨.inr rfl, .inr rfl, .inl rfl, trivial⟩
  refine ev_iconst dX11_book_79 (by decide) ?_
  refine ev_goto (tgt := 84) dX11_book_80 rfl ?_
  exact ev_sub (L2 := [(2, (181 : Int)), (0, v7), (9, 0)]) (e_X11_book_84 σ8 v7 (1 : Int) h K) ⟨.inr rfl, .inr rfl, .inl rfl, trivial⟩
set_option maxHeartbeats 4000000 in
set_option maxRecDepth 20000 in
theorem e_X11_book_25 (σ : Mem) (x1 x2 : Int)  {q : (Int × Mem)} (h : f_X11_book_25 σ x1 x2 = some q) : Ev M_X11_book 218 218 (some (0, q.1), rho, q.2) 25 218 rho σ [(2, (181 : Int)), (0, x1), (0, x2)] [] := by
  unfold f_X11_book_25 at h
  obtain ⟨e, hl, h⟩ := bind_of h
  refine loop_ev (K := K_X11_book_25  (some (0, q.1), rho, q.2)) (b_X11_book_25 ) FU (x1, x2, σ) e hl ?_
  show Ev M_X11_book 218 218 _ 117 218 rho e.2 [(2, (181 : Int)), (0, e.1), (9, 0)] []
  replace h : f_X11_book_117 e.2 e.1 = some q := h
  exact ev_sub (L2 := [(2, (181 : Int)), (0, e.1), (9, 0)]) (e_X11_book_117 e.2 e.1 h) ⟨.inr rfl, .inr rfl, .inl rfl, trivial⟩
set_option maxHeartbeats 4000000 in
set_option maxRecDepth 20000 in
theorem c_X11_book {σ : Mem}  {q : (Int × Mem)} (h : f_X11_book σ  = some q) : Ms yX11_book M_X11_book 218 218 [(2, (181 : Int))] rho σ (some (0, q.1), rho, q.2) := by
  refine Ms.of 2 (by decide +kernel) rfl (fun z => absurd z (by decide)) (fun _ _ _ => trivial) rfl rfl ?_
  unfold f_X11_book at h
  show Ev M_X11_book 218 218 _ 0 218 rho σ [(2, (181 : Int)), (9, 0), (9, 0)] []
  refine ev_aload_n dX11_book_0 rfl (by decide) ?_
  refine ev_getf (j := 0) (t := 2) (x := (182 : Int)) dX11_book_1 cf_X11 wf_X11_7 sp181 (by decide) (by decide) rfl (by decide) (rp181_0 _) ?_
  refine ev_aload_n dX11_book_4 rfl (by decide) ?_
  refine ev_getf (j := 15) (t := 2) (x := (191 : Int)) dX11_book_5 cf_X11 wf_X11_39 sp181 (by decide) (by decide) rfl (by decide) (rp181_15 _) ?_
  obtain ⟨σ1, hc2, h⟩ := bind_of h
  refine ev_invS_n (av := [(2, (182 : Int)), (2, (191 : Int))]) (st := []) (τ := σ1) dX11_book_8 ml_X11_245 mt_X11_move rfl ⟨Nat.le_of_ble_eq_true rfl, Nat.le_of_ble_eq_true rfl⟩ (Nat.le_of_ble_eq_true rfl) (c_X11_move hM182 hM191 hc2) ?_
  refine ev_aload_n dX11_book_11 rfl (by decide) ?_
  refine ev_iconst dX11_book_12 (by decide) ?_
  refine ev_putfG (j := 10) (t := 0) dX11_book_13 cf_X11 wf_X11_209 sp181 (by decide) (by decide) rfl (by decide) (by decide) rfl (fun z => absurd z (by decide +kernel)) h (fun σ3 h => ?_)
  refine ev_aload_n dX11_book_16 rfl (by decide) ?_
  refine ev_iconst dX11_book_17 (by decide) ?_
  refine ev_putfG (j := 13) (t := 0) dX11_book_18 cf_X11 wf_X11_215 sp181 (by decide) (by decide) rfl (by decide) (by decide) rfl (fun z => absurd z (by decide +kernel)) h (fun σ4 h => ?_)
  show Ev _ _ _ _ 21 _ _ _ _ _
  refine ev_iconst dX11_book_21 (by decide) ?_
  refine ev_istore_n dX11_book_22 rfl (by decide) ?_
  show Ev _ _ _ _ 23 _ _ _ [(2, (181 : Int)), (0, (0 : Int)), (9, 0)] _
  refine ev_iconst dX11_book_23 (by decide) ?_
  refine ev_istore_n dX11_book_24 rfl (by decide) ?_
  show Ev _ _ _ _ 25 _ _ _ [(2, (181 : Int)), (0, (0 : Int)), (0, (1 : Int))] _
  exact ev_sub (L2 := [(2, (181 : Int)), (0, (0 : Int)), (0, (1 : Int))]) (e_X11_book_25 σ4 (0 : Int) (1 : Int) h) ⟨.inr rfl, .inr rfl, .inr rfl, trivial⟩
def K_X11_rows_4 (x1 : Int) (r : Option V × Mem × Mem) : (Int × Int × Mem) ⊕ ((Int × Mem)) → Prop := Sum.elim (fun a => Ev M_X11_rows 218 218 r 4 218 rho a.2.2 [(2, (181 : Int)), (0, x1), (0, a.1), (0, a.2.1)] []) (fun e => Ev M_X11_rows 218 218 r 35 218 rho e.2 [(9, 0), (9, 0), (0, e.1), (9, 0)] [])
set_option maxHeartbeats 4000000 in
set_option maxRecDepth 20000 in
theorem e_X11_rows_29 (σ : Mem) (x1 x2 x3 : Int)  {q : ((Int × Int × Mem) ⊕ ((Int × Mem)))} (h : f_X11_rows_29 σ x1 x2 x3 = some q) {r : Option V × Mem × Mem} (K : K_X11_rows_4 x1 r q) : Ev M_X11_rows 218 218 r 29 218 rho σ [(2, (181 : Int)), (0, x1), (0, x2), (0, x3)] [] := by
  unfold f_X11_rows_29 at h
  refine ev_iincG dX11_rows_29 rfl h rfl (fun v3 h => ?_)
  show Ev _ _ _ _ 32 _ _ _ [(2, (181 : Int)), (0, x1), (0, x2), (0, v3)] _
  refine ev_goto (tgt := 4) dX11_rows_32 rfl ?_
  obtain rfl := Option.some.inj h
  exact ev_sub (L2 := [(2, (181 : Int)), (0, x1), (0, x2), (0, v3)]) K ⟨.inr rfl, .inr rfl, .inr rfl, .inr rfl, trivial⟩
set_option maxHeartbeats 4000000 in
set_option maxRecDepth 20000 in
theorem b_X11_rows_4 (x1 : Int)  {r : Option V × Mem × Mem} : ∀ a x, f_X11_rows_4B x1 a = some x → K_X11_rows_4 x1 r x → K_X11_rows_4 x1 r (.inl a) := by
  intro a x h K
  obtain ⟨x2, x3, σ⟩ := a
  have h : f_X11_rows_4C x1 x2 x3 σ = some x := h
  unfold f_X11_rows_4C at h
  show Ev M_X11_rows 218 218 r 4 218 rho σ [(2, (181 : Int)), (0, x1), (0, x2), (0, x3)] []
  refine ev_iload_n dX11_rows_4 rfl ?_
  refine ev_bipush dX11_rows_5 (by decide) (by decide) ?_
  refine ev_icmp_ge (tgt := 35) dX11_rows_7 rfl h (fun cb h => ?_) (fun cb h => ?_)
  · obtain rfl := Option.some.inj h
    exact ev_sub (L2 := [(9, 0), (9, 0), (0, x2), (9, 0)]) K ⟨.inl rfl, .inl rfl, .inr rfl, .inl rfl, trivial⟩
  refine ev_iload_n dX11_rows_10 rfl ?_
  refine ev_iload_n dX11_rows_11 rfl ?_
  refine ev_ishr dX11_rows_12 ?_
  refine ev_iconst dX11_rows_13 (by decide) ?_
  refine ev_iand dX11_rows_14 ?_
  refine ev_iconst dX11_rows_15 (by decide) ?_
  refine ev_icmp_ne (tgt := 29) dX11_rows_16 rfl h (fun cb h => ?_) (fun cb h => ?_)
  · exact ev_sub (L2 := [(2, (181 : Int)), (0, x1), (0, x2), (0, x3)]) (e_X11_rows_29 σ x1 x2 x3 h K) ⟨.inr rfl, .inr rfl, .inr rfl, .inr rfl, trivial⟩
  refine ev_aload_n dX11_rows_19 rfl (by decide) ?_
  refine ev_getf (j := 16) (t := 2) (x := (192 : Int)) dX11_rows_20 cf_X11 wf_X11_42 sp181 (by decide) (by decide) rfl (by decide) (rp181_16 _) ?_
  refine ev_iload_n dX11_rows_23 rfl ?_
  refine ev_iload_n dX11_rows_24 rfl ?_
  refine ev_iastG dX11_rows_25 sp192 (by decide) (by decide) h (fun σ1 h => ?_)
  refine ev_iincG dX11_rows_26 rfl h rfl (fun v2 h => ?_)
  show Ev _ _ _ _ 29 _ _ _ [(2, (181 : Int)), (0, x1), (0, v2), (0, x3)] _
  exact ev_sub (L2 := [(2, (181 : Int)), (0, x1), (0, v2), (0, x3)]) (e_X11_rows_29 σ1 x1 v2 x3 h K) ⟨.inr rfl, .inr rfl, .inr rfl, .inr rfl, trivial⟩
set_option maxHeartbeats 4000000 in
set_option maxRecDepth 20000 in
theorem e_X11_rows_4 (σ : Mem) (x1 x2 x3 : Int)  {q : (Int × Mem)} (h : f_X11_rows_4 σ x1 x2 x3 = some q) : Ev M_X11_rows 218 218 (some (0, q.1), rho, q.2) 4 218 rho σ [(2, (181 : Int)), (0, x1), (0, x2), (0, x3)] [] := by
  unfold f_X11_rows_4 at h
  obtain ⟨e, hl, h⟩ := bind_of h
  refine loop_ev (K := K_X11_rows_4 x1 (some (0, q.1), rho, q.2)) (b_X11_rows_4 x1) FU (x2, x3, σ) e hl ?_
  show Ev M_X11_rows 218 218 _ 35 218 rho e.2 [(9, 0), (9, 0), (0, e.1), (9, 0)] []
  replace h : some (e.1, e.2) = some q := h
  refine ev_iload_n dX11_rows_35 rfl ?_
  obtain rfl := Option.some.inj h
  dsimp only
  exact ev_iret dX11_rows_36 rfl rfl
set_option maxHeartbeats 4000000 in
set_option maxRecDepth 20000 in
theorem c_X11_rows {σ : Mem} {x1 : Int}  {q : (Int × Mem)} (h : f_X11_rows σ x1 = some q) : Ms yX11_rows M_X11_rows 218 218 [(2, (181 : Int)), (0, x1)] rho σ (some (0, q.1), rho, q.2) := by
  refine Ms.of 2 (by decide +kernel) rfl (fun z => absurd z (by decide)) (fun _ _ _ => trivial) rfl rfl ?_
  unfold f_X11_rows at h
  show Ev M_X11_rows 218 218 _ 0 218 rho σ [(2, (181 : Int)), (0, x1), (9, 0), (9, 0)] []
  refine ev_iconst dX11_rows_0 (by decide) ?_
  refine ev_istore_n dX11_rows_1 rfl (by decide) ?_
  show Ev _ _ _ _ 2 _ _ _ [(2, (181 : Int)), (0, x1), (0, (0 : Int)), (9, 0)] _
  refine ev_iconst dX11_rows_2 (by decide) ?_
  refine ev_istore_n dX11_rows_3 rfl (by decide) ?_
  show Ev _ _ _ _ 4 _ _ _ [(2, (181 : Int)), (0, x1), (0, (0 : Int)), (0, (0 : Int))] _
  exact ev_sub (L2 := [(2, (181 : Int)), (0, x1), (0, (0 : Int)), (0, (0 : Int))]) (e_X11_rows_4 σ x1 (0 : Int) (0 : Int) h) ⟨.inr rfl, .inr rfl, .inr rfl, .inr rfl, trivial⟩
def K_X11_next_100 (r : Option V × Mem × Mem) : (Int × Int × Mem) ⊕ ((Mem)) → Prop := Sum.elim (fun a => Ev M_X11_next 218 218 r 100 218 rho a.2.2 [(2, (181 : Int)), (9, 0), (9, 0), (9, 0), (9, 0), (0, a.1), (0, a.2.1)] []) (fun e => Ev M_X11_next 218 218 r 148 218 rho e [(9, 0), (9, 0), (9, 0), (9, 0), (9, 0), (9, 0), (9, 0)] [])
def K_X11_next_41 (σ : Mem) (x1 x2 : Int) (r : Option V × Mem × Mem) : (Int) ⊕ ((Int)) → Prop := Sum.elim (fun a => Ev M_X11_next 218 218 r 41 218 rho σ [(2, (181 : Int)), (0, x1), (0, x2), (0, a), (9, 0), (9, 0), (9, 0)] []) (fun e => Ev M_X11_next 218 218 r 62 218 rho σ [(2, (181 : Int)), (0, x1), (0, x2), (0, e), (9, 0), (9, 0), (9, 0)] [])
def K_X11_next_4 (σ : Mem) (x1 : Int) (r : Option V × Mem × Mem) : (Int) ⊕ ((Int)) → Prop := Sum.elim (fun a => Ev M_X11_next 218 218 r 4 218 rho σ [(2, (181 : Int)), (0, x1), (0, a), (9, 0), (9, 0), (9, 0), (9, 0)] []) (fun e => Ev M_X11_next 218 218 r 31 218 rho σ [(2, (181 : Int)), (0, x1), (0, e), (9, 0), (9, 0), (9, 0), (9, 0)] [])
set_option maxHeartbeats 4000000 in
set_option maxRecDepth 20000 in
theorem b_X11_next_100  {r : Option V × Mem × Mem} : ∀ a x, f_X11_next_100B  a = some x → K_X11_next_100  r x → K_X11_next_100  r (.inl a) := by
  intro a x h K
  obtain ⟨x5, x6, σ⟩ := a
  have h : f_X11_next_100C  x5 x6 σ = some x := h
  unfold f_X11_next_100C at h
  show Ev M_X11_next 218 218 r 100 218 rho σ [(2, (181 : Int)), (9, 0), (9, 0), (9, 0), (9, 0), (0, x5), (0, x6)] []
  refine ev_iload dX11_next_100 rfl ?_
  refine ev_iload dX11_next_102 rfl ?_
  refine ev_icmp_ge (tgt := 148) dX11_next_104 rfl h (fun cb h => ?_) (fun cb h => ?_)
  · obtain rfl := Option.some.inj h
    exact ev_sub (L2 := [(9, 0), (9, 0), (9, 0), (9, 0), (9, 0), (9, 0), (9, 0)]) K ⟨.inl rfl, .inl rfl, .inl rfl, .inl rfl, .inl rfl, .inl rfl, .inl rfl, trivial⟩
  refine ev_aload_n dX11_next_107 rfl (by decide) ?_
  refine ev_getf (j := 16) (t := 2) (x := (192 : Int)) dX11_next_108 cf_X11 wf_X11_42 sp181 (by decide) (by decide) rfl (by decide) (rp181_16 _) ?_
  refine ev_iload dX11_next_111 rfl ?_
  refine ev_iald dX11_next_113 sp192 (by decide) (by decide) h (fun h => ?_)
  refine ev_istoreG dX11_next_114 h rfl (by decide) (fun v10 h => ?_)
  show Ev _ _ _ _ 116 _ _ _ [(2, (181 : Int)), (9, 0), (9, 0), (9, 0), (0, v10), (0, x5), (0, x6)] _
  refine ev_aload_n dX11_next_116 rfl (by decide) ?_
  refine ev_getf (j := 16) (t := 2) (x := (192 : Int)) dX11_next_117 cf_X11 wf_X11_42 sp181 (by decide) (by decide) rfl (by decide) (rp181_16 _) ?_
  refine ev_iload dX11_next_120 rfl ?_
  refine ev_aload_n dX11_next_122 rfl (by decide) ?_
  refine ev_getf (j := 16) (t := 2) (x := (192 : Int)) dX11_next_123 cf_X11 wf_X11_42 sp181 (by decide) (by decide) rfl (by decide) (rp181_16 _) ?_
  refine ev_iload dX11_next_126 rfl ?_
  show Ev _ _ _ _ 128 _ _ _ _ _
  refine ev_iald dX11_next_128 sp192 (by decide) (by decide) h (fun h => ?_)
  refine ev_iastG dX11_next_129 sp192 (by decide) (by decide) h (fun σ11 h => ?_)
  refine ev_aload_n dX11_next_130 rfl (by decide) ?_
  refine ev_getf (j := 16) (t := 2) (x := (192 : Int)) dX11_next_131 cf_X11 wf_X11_42 sp181 (by decide) (by decide) rfl (by decide) (rp181_16 _) ?_
  refine ev_iload dX11_next_134 rfl ?_
  refine ev_iload dX11_next_136 rfl ?_
  refine ev_iastG dX11_next_138 sp192 (by decide) (by decide) h (fun σ12 h => ?_)
  refine ev_iincG dX11_next_139 rfl h rfl (fun v13 h => ?_)
  show Ev _ _ _ _ 142 _ _ _ [(2, (181 : Int)), (9, 0), (9, 0), (9, 0), (0, v10), (0, v13), (0, x6)] _
  refine ev_iincG dX11_next_142 rfl h rfl (fun v14 h => ?_)
  show Ev _ _ _ _ 145 _ _ _ [(2, (181 : Int)), (9, 0), (9, 0), (9, 0), (0, v10), (0, v13), (0, v14)] _
  refine ev_goto (tgt := 100) dX11_next_145 rfl ?_
  obtain rfl := Option.some.inj h
  exact ev_sub (L2 := [(2, (181 : Int)), (9, 0), (9, 0), (9, 0), (9, 0), (0, v13), (0, v14)]) K ⟨.inr rfl, .inl rfl, .inl rfl, .inl rfl, .inl rfl, .inr rfl, .inr rfl, trivial⟩
set_option maxHeartbeats 4000000 in
set_option maxRecDepth 20000 in
theorem e_X11_next_100 (σ : Mem) (x5 x6 : Int)  {q : (Int × Mem)} (h : f_X11_next_100 σ x5 x6 = some q) : Ev M_X11_next 218 218 (some (0, q.1), rho, q.2) 100 218 rho σ [(2, (181 : Int)), (9, 0), (9, 0), (9, 0), (9, 0), (0, x5), (0, x6)] [] := by
  unfold f_X11_next_100 at h
  obtain ⟨e, hl, h⟩ := bind_of h
  refine loop_ev (K := K_X11_next_100  (some (0, q.1), rho, q.2)) (b_X11_next_100 ) FU (x5, x6, σ) e hl ?_
  show Ev M_X11_next 218 218 _ 148 218 rho e [(9, 0), (9, 0), (9, 0), (9, 0), (9, 0), (9, 0), (9, 0)] []
  replace h : some ((1 : Int), e) = some q := h
  refine ev_iconst dX11_next_148 (by decide) ?_
  obtain rfl := Option.some.inj h
  exact ev_zret dX11_next_149 rfl (chk_pos (.inr rfl))
set_option maxHeartbeats 4000000 in
set_option maxRecDepth 20000 in
theorem e_X11_next_62 (σ : Mem) (x1 x2 x3 : Int)  {q : (Int × Mem)} (h : f_X11_next_62 σ x1 x2 x3 = some q) : Ev M_X11_next 218 218 (some (0, q.1), rho, q.2) 62 218 rho σ [(2, (181 : Int)), (0, x1), (0, x2), (0, x3), (9, 0), (9, 0), (9, 0)] [] := by
  unfold f_X11_next_62 at h
  refine ev_aload_n dX11_next_62 rfl (by decide) ?_
  refine ev_getf (j := 16) (t := 2) (x := (192 : Int)) dX11_next_63 cf_X11 wf_X11_42 sp181 (by decide) (by decide) rfl (by decide) (rp181_16 _) ?_
  refine ev_iload_n dX11_next_66 rfl ?_
  refine ev_iald dX11_next_67 sp192 (by decide) (by decide) h (fun h => ?_)
  refine ev_istoreG dX11_next_68 h rfl (by decide) (fun v5 h => ?_)
  show Ev _ _ _ _ 70 _ _ _ [(2, (181 : Int)), (0, x1), (0, x2), (0, x3), (0, v5), (9, 0), (9, 0)] _
  refine ev_aload_n dX11_next_70 rfl (by decide) ?_
  refine ev_getf (j := 16) (t := 2) (x := (192 : Int)) dX11_next_71 cf_X11 wf_X11_42 sp181 (by decide) (by decide) rfl (by decide) (rp181_16 _) ?_
  refine ev_iload_n dX11_next_74 rfl ?_
  refine ev_aload_n dX11_next_75 rfl (by decide) ?_
  refine ev_getf (j := 16) (t := 2) (x := (192 : Int)) dX11_next_76 cf_X11 wf_X11_42 sp181 (by decide) (by decide) rfl (by decide) (rp181_16 _) ?_
  refine ev_iload_n dX11_next_79 rfl ?_
  show Ev _ _ _ _ 80 _ _ _ _ _
  refine ev_iald dX11_next_80 sp192 (by decide) (by decide) h (fun h => ?_)
  refine ev_iastG dX11_next_81 sp192 (by decide) (by decide) h (fun σ6 h => ?_)
  refine ev_aload_n dX11_next_82 rfl (by decide) ?_
  refine ev_getf (j := 16) (t := 2) (x := (192 : Int)) dX11_next_83 cf_X11 wf_X11_42 sp181 (by decide) (by decide) rfl (by decide) (rp181_16 _) ?_
  refine ev_iload_n dX11_next_86 rfl ?_
  refine ev_iload dX11_next_87 rfl ?_
  refine ev_iastG dX11_next_89 sp192 (by decide) (by decide) h (fun σ7 h => ?_)
  refine ev_iload_n dX11_next_90 rfl ?_
  refine ev_iconst dX11_next_91 (by decide) ?_
  refine ev_iadd dX11_next_92 ?_
  refine ev_istoreG dX11_next_93 h rfl (by decide) (fun v8 h => ?_)
  show Ev _ _ _ _ 95 _ _ _ [(2, (181 : Int)), (0, x1), (0, x2), (0, x3), (0, v5), (0, v8), (9, 0)] _
  refine ev_iload_n dX11_next_95 rfl ?_
  show Ev _ _ _ _ 96 _ _ _ _ _
  refine ev_iconst dX11_next_96 (by decide) ?_
  refine ev_isub dX11_next_97 ?_
  refine ev_istoreG dX11_next_98 h rfl (by decide) (fun v9 h => ?_)
  show Ev _ _ _ _ 100 _ _ _ [(2, (181 : Int)), (0, x1), (0, x2), (0, x3), (0, v5), (0, v8), (0, v9)] _
  exact ev_sub (L2 := [(2, (181 : Int)), (9, 0), (9, 0), (9, 0), (9, 0), (0, v8), (0, v9)]) (e_X11_next_100 σ7 v8 v9 h) ⟨.inr rfl, .inl rfl, .inl rfl, .inl rfl, .inl rfl, .inr rfl, .inr rfl, trivial⟩
set_option maxHeartbeats 4000000 in
set_option maxRecDepth 20000 in
theorem b_X11_next_41 (σ : Mem) (x1 x2 : Int)  {r : Option V × Mem × Mem} : ∀ a x, f_X11_next_41B σ x1 x2 a = some x → K_X11_next_41 σ x1 x2 r x → K_X11_next_41 σ x1 x2 r (.inl a) := by
  intro a x h K
  have ⟨x3, ea⟩ : ∃ z, z = a := ⟨_, rfl⟩
  subst ea
  have h : f_X11_next_41C σ x1 x2 x3 = some x := h
  unfold f_X11_next_41C at h
  show Ev M_X11_next 218 218 r 41 218 rho σ [(2, (181 : Int)), (0, x1), (0, x2), (0, x3), (9, 0), (9, 0), (9, 0)] []
  refine ev_aload_n dX11_next_41 rfl (by decide) ?_
  refine ev_getf (j := 16) (t := 2) (x := (192 : Int)) dX11_next_42 cf_X11 wf_X11_42 sp181 (by decide) (by decide) rfl (by decide) (rp181_16 _) ?_
  refine ev_iload_n dX11_next_45 rfl ?_
  refine ev_iald dX11_next_46 sp192 (by decide) (by decide) h (fun h => ?_)
  refine ev_aload_n dX11_next_47 rfl (by decide) ?_
  refine ev_getf (j := 16) (t := 2) (x := (192 : Int)) dX11_next_48 cf_X11 wf_X11_42 sp181 (by decide) (by decide) rfl (by decide) (rp181_16 _) ?_
  refine ev_iload_n dX11_next_51 rfl ?_
  refine ev_iald dX11_next_52 sp192 (by decide) (by decide) h (fun h => ?_)
  refine ev_icmp_ge (tgt := 62) dX11_next_53 rfl h (fun cb h => ?_) (fun cb h => ?_)
  · obtain rfl := Option.some.inj h
    exact ev_sub (L2 := [(2, (181 : Int)), (0, x1), (0, x2), (0, x3), (9, 0), (9, 0), (9, 0)]) K ⟨.inr rfl, .inr rfl, .inr rfl, .inr rfl, .inl rfl, .inl rfl, .inl rfl, trivial⟩
  refine ev_iincG dX11_next_56 rfl h rfl (fun v4 h => ?_)
  show Ev _ _ _ _ 59 _ _ _ [(2, (181 : Int)), (0, x1), (0, x2), (0, v4), (9, 0), (9, 0), (9, 0)] _
  refine ev_goto (tgt := 41) dX11_next_59 rfl ?_
  obtain rfl := Option.some.inj h
  exact ev_sub (L2 := [(2, (181 : Int)), (0, x1), (0, x2), (0, v4), (9, 0), (9, 0), (9, 0)]) K ⟨.inr rfl, .inr rfl, .inr rfl, .inr rfl, .inl rfl, .inl rfl, .inl rfl, trivial⟩
set_option maxHeartbeats 4000000 in
set_option maxRecDepth 20000 in
theorem e_X11_next_41 (σ : Mem) (x1 x2 x3 : Int)  {q : (Int × Mem)} (h : f_X11_next_41 σ x1 x2 x3 = some q) : Ev M_X11_next 218 218 (some (0, q.1), rho, q.2) 41 218 rho σ [(2, (181 : Int)), (0, x1), (0, x2), (0, x3), (9, 0), (9, 0), (9, 0)] [] := by
  unfold f_X11_next_41 at h
  obtain ⟨e, hl, h⟩ := bind_of h
  refine loop_ev (K := K_X11_next_41 σ x1 x2 (some (0, q.1), rho, q.2)) (b_X11_next_41 σ x1 x2) FU x3 e hl ?_
  show Ev M_X11_next 218 218 _ 62 218 rho σ [(2, (181 : Int)), (0, x1), (0, x2), (0, e), (9, 0), (9, 0), (9, 0)] []
  replace h : f_X11_next_62 σ x1 x2 e = some q := h
  exact ev_sub (L2 := [(2, (181 : Int)), (0, x1), (0, x2), (0, e), (9, 0), (9, 0), (9, 0)]) (e_X11_next_62 σ x1 x2 e h) ⟨.inr rfl, .inr rfl, .inr rfl, .inr rfl, .inl rfl, .inl rfl, .inl rfl, trivial⟩
set_option maxHeartbeats 4000000 in
set_option maxRecDepth 20000 in
theorem e_X11_next_31 (σ : Mem) (x1 x2 : Int)  {q : (Int × Mem)} (h : f_X11_next_31 σ x1 x2 = some q) : Ev M_X11_next 218 218 (some (0, q.1), rho, q.2) 31 218 rho σ [(2, (181 : Int)), (0, x1), (0, x2), (9, 0), (9, 0), (9, 0), (9, 0)] [] := by
  unfold f_X11_next_31 at h
  refine ev_iload_n dX11_next_31 rfl ?_
  refine ev_if_ge (tgt := 37) dX11_next_32 rfl h (fun cb h => ?_) (fun cb h => ?_)
  · refine ev_iload_n dX11_next_37 rfl ?_
    refine ev_iconst dX11_next_38 (by decide) ?_
    refine ev_isub dX11_next_39 ?_
    refine ev_istore_nG dX11_next_40 h rfl (by decide) (fun v3 h => ?_)
    show Ev _ _ _ _ 41 _ _ _ [(2, (181 : Int)), (0, x1), (0, x2), (0, v3), (9, 0), (9, 0), (9, 0)] _
    exact ev_sub (L2 := [(2, (181 : Int)), (0, x1), (0, x2), (0, v3), (9, 0), (9, 0), (9, 0)]) (e_X11_next_41 σ x1 x2 v3 h) ⟨.inr rfl, .inr rfl, .inr rfl, .inr rfl, .inl rfl, .inl rfl, .inl rfl, trivial⟩
  refine ev_iconst dX11_next_35 (by decide) ?_
  obtain rfl := Option.some.inj h
  exact ev_zret dX11_next_36 rfl (chk_pos (.inl rfl))
set_option maxHeartbeats 4000000 in
set_option maxRecDepth 20000 in
theorem b_X11_next_4 (σ : Mem) (x1 : Int)  {r : Option V × Mem × Mem} : ∀ a x, f_X11_next_4B σ x1 a = some x → K_X11_next_4 σ x1 r x → K_X11_next_4 σ x1 r (.inl a) := by
  intro a x h K
  have ⟨x2, ea⟩ : ∃ z, z = a := ⟨_, rfl⟩
  subst ea
  have h : f_X11_next_4C σ x1 x2 = some x := h
  unfold f_X11_next_4C at h
  show Ev M_X11_next 218 218 r 4 218 rho σ [(2, (181 : Int)), (0, x1), (0, x2), (9, 0), (9, 0), (9, 0), (9, 0)] []
  refine ev_iload_n dX11_next_4 rfl ?_
  refine ev_if_lt (tgt := 31) dX11_next_5 rfl h (fun cb h => ?_) (fun cb h => ?_)
  · obtain rfl := Option.some.inj h
    exact ev_sub (L2 := [(2, (181 : Int)), (0, x1), (0, x2), (9, 0), (9, 0), (9, 0), (9, 0)]) K ⟨.inr rfl, .inr rfl, .inr rfl, .inl rfl, .inl rfl, .inl rfl, .inl rfl, trivial⟩
  refine ev_aload_n dX11_next_8 rfl (by decide) ?_
  refine ev_getf (j := 16) (t := 2) (x := (192 : Int)) dX11_next_9 cf_X11 wf_X11_42 sp181 (by decide) (by decide) rfl (by decide) (rp181_16 _) ?_
  refine ev_iload_n dX11_next_12 rfl ?_
  refine ev_iald dX11_next_13 sp192 (by decide) (by decide) h (fun h => ?_)
  refine ev_aload_n dX11_next_14 rfl (by decide) ?_
  refine ev_getf (j := 16) (t := 2) (x := (192 : Int)) dX11_next_15 cf_X11 wf_X11_42 sp181 (by decide) (by decide) rfl (by decide) (rp181_16 _) ?_
  refine ev_iload_n dX11_next_18 rfl ?_
  refine ev_iconst dX11_next_19 (by decide) ?_
  refine ev_iadd dX11_next_20 ?_
  refine ev_iald dX11_next_21 sp192 (by decide) (by decide) h (fun h => ?_)
  refine ev_icmp_le (tgt := 31) dX11_next_22 rfl h (fun cb h => ?_) (fun cb h => ?_)
  · obtain rfl := Option.some.inj h
    exact ev_sub (L2 := [(2, (181 : Int)), (0, x1), (0, x2), (9, 0), (9, 0), (9, 0), (9, 0)]) K ⟨.inr rfl, .inr rfl, .inr rfl, .inl rfl, .inl rfl, .inl rfl, .inl rfl, trivial⟩
  refine ev_iincG dX11_next_25 rfl h rfl (fun v2 h => ?_)
  show Ev _ _ _ _ 28 _ _ _ [(2, (181 : Int)), (0, x1), (0, v2), (9, 0), (9, 0), (9, 0), (9, 0)] _
  refine ev_goto (tgt := 4) dX11_next_28 rfl ?_
  obtain rfl := Option.some.inj h
  exact ev_sub (L2 := [(2, (181 : Int)), (0, x1), (0, v2), (9, 0), (9, 0), (9, 0), (9, 0)]) K ⟨.inr rfl, .inr rfl, .inr rfl, .inl rfl, .inl rfl, .inl rfl, .inl rfl, trivial⟩
set_option maxHeartbeats 4000000 in
set_option maxRecDepth 20000 in
theorem e_X11_next_4 (σ : Mem) (x1 x2 : Int)  {q : (Int × Mem)} (h : f_X11_next_4 σ x1 x2 = some q) : Ev M_X11_next 218 218 (some (0, q.1), rho, q.2) 4 218 rho σ [(2, (181 : Int)), (0, x1), (0, x2), (9, 0), (9, 0), (9, 0), (9, 0)] [] := by
  unfold f_X11_next_4 at h
  obtain ⟨e, hl, h⟩ := bind_of h
  refine loop_ev (K := K_X11_next_4 σ x1 (some (0, q.1), rho, q.2)) (b_X11_next_4 σ x1) FU x2 e hl ?_
  show Ev M_X11_next 218 218 _ 31 218 rho σ [(2, (181 : Int)), (0, x1), (0, e), (9, 0), (9, 0), (9, 0), (9, 0)] []
  replace h : f_X11_next_31 σ x1 e = some q := h
  exact ev_sub (L2 := [(2, (181 : Int)), (0, x1), (0, e), (9, 0), (9, 0), (9, 0), (9, 0)]) (e_X11_next_31 σ x1 e h) ⟨.inr rfl, .inr rfl, .inr rfl, .inl rfl, .inl rfl, .inl rfl, .inl rfl, trivial⟩
set_option maxHeartbeats 4000000 in
set_option maxRecDepth 20000 in
theorem c_X11_next {σ : Mem} {x1 : Int}  {q : (Int × Mem)} (h : f_X11_next σ x1 = some q) : Ms yX11_next M_X11_next 218 218 [(2, (181 : Int)), (0, x1)] rho σ (some (0, q.1), rho, q.2) := by
  refine Ms.of 5 (by decide +kernel) rfl (fun z => absurd z (by decide)) (fun _ _ _ => trivial) rfl rfl ?_
  unfold f_X11_next at h
  show Ev M_X11_next 218 218 _ 0 218 rho σ [(2, (181 : Int)), (0, x1), (9, 0), (9, 0), (9, 0), (9, 0), (9, 0)] []
  refine ev_iload_n dX11_next_0 rfl ?_
  refine ev_iconst dX11_next_1 (by decide) ?_
  refine ev_isub dX11_next_2 ?_
  refine ev_istore_nG dX11_next_3 h rfl (by decide) (fun v1 h => ?_)
  show Ev _ _ _ _ 4 _ _ _ [(2, (181 : Int)), (0, x1), (0, v1), (9, 0), (9, 0), (9, 0), (9, 0)] _
  exact ev_sub (L2 := [(2, (181 : Int)), (0, x1), (0, v1), (9, 0), (9, 0), (9, 0), (9, 0)]) (e_X11_next_4 σ x1 v1 h) ⟨.inr rfl, .inr rfl, .inr rfl, .inl rfl, .inl rfl, .inl rfl, .inl rfl, trivial⟩
def K_X11_isLaid_10 (x1 x2 x3 : Int) (r : Option V × Mem × Mem) : (Int × Int × Int × Mem) ⊕ ((Int × Int × Mem)) → Prop := Sum.elim (fun a => Ev M_X11_isLaid 218 218 r 10 218 rho a.2.2.2 [(2, (181 : Int)), (0, x1), (0, x2), (0, x3), (9, 0), (0, a.1), (0, a.2.1), (0, a.2.2.1), (9, 0)] []) (fun e => Ev M_X11_isLaid 218 218 r 139 218 rho e.2.2 [(2, (181 : Int)), (9, 0), (9, 0), (9, 0), (9, 0), (0, e.1), (0, e.2.1), (9, 0), (9, 0)] [])
set_option maxHeartbeats 4000000 in
set_option maxRecDepth 20000 in
theorem e_X11_isLaid_131 (σ : Mem) (x1 x2 x3 x5 x7 s0 : Int)  {q : ((Int × Int × Int × Mem) ⊕ ((Int × Int × Mem)))} (h : f_X11_isLaid_131 σ x1 x2 x3 x5 x7 s0 = some q) {r : Option V × Mem × Mem} (K : K_X11_isLaid_10 x1 x2 x3 r q) : Ev M_X11_isLaid 218 218 r 131 218 rho σ [(2, (181 : Int)), (0, x1), (0, x2), (0, x3), (9, 0), (0, x5), (9, 0), (0, x7), (9, 0)] [(0, s0)] := by
  unfold f_X11_isLaid_131 at h
  refine ev_istore dX11_isLaid_131 rfl (by decide) ?_
  show Ev _ _ _ _ 133 _ _ _ [(2, (181 : Int)), (0, x1), (0, x2), (0, x3), (9, 0), (0, x5), (0, s0), (0, x7), (9, 0)] _
  refine ev_iincG dX11_isLaid_133 rfl h rfl (fun v12 h => ?_)
  show Ev _ _ _ _ 136 _ _ _ [(2, (181 : Int)), (0, x1), (0, x2), (0, x3), (9, 0), (0, x5), (0, s0), (0, v12), (9, 0)] _
  refine ev_goto (tgt := 10) dX11_isLaid_136 rfl ?_
  obtain rfl := Option.some.inj h
  exact ev_sub (L2 := [(2, (181 : Int)), (0, x1), (0, x2), (0, x3), (9, 0), (0, x5), (0, s0), (0, v12), (9, 0)]) K ⟨.inr rfl, .inr rfl, .inr rfl, .inr rfl, .inl rfl, .inr rfl, .inr rfl, .inr rfl, .inl rfl, trivial⟩
set_option maxHeartbeats 4000000 in
set_option maxRecDepth 20000 in
theorem e_X11_isLaid_130 (σ : Mem) (x1 x2 x3 x5 x7 : Int)  {q : ((Int × Int × Int × Mem) ⊕ ((Int × Int × Mem)))} (h : f_X11_isLaid_130 σ x1 x2 x3 x5 x7 = some q) {r : Option V × Mem × Mem} (K : K_X11_isLaid_10 x1 x2 x3 r q) : Ev M_X11_isLaid 218 218 r 130 218 rho σ [(2, (181 : Int)), (0, x1), (0, x2), (0, x3), (9, 0), (0, x5), (9, 0), (0, x7), (9, 0)] [] := by
  unfold f_X11_isLaid_130 at h
  refine ev_iconst dX11_isLaid_130 (by decide) ?_
  exact ev_sub (L2 := [(2, (181 : Int)), (0, x1), (0, x2), (0, x3), (9, 0), (0, x5), (9, 0), (0, x7), (9, 0)]) (e_X11_isLaid_131 σ x1 x2 x3 x5 x7 (0 : Int) h K) ⟨.inr rfl, .inr rfl, .inr rfl, .inr rfl, .inl rfl, .inr rfl, .inl rfl, .inr rfl, .inl rfl, trivial⟩
set_option maxHeartbeats 4000000 in
set_option maxRecDepth 20000 in
theorem e_X11_isLaid_40 (σ : Mem) (x1 x2 x3 x5 x6 x7 s0 : Int)  {q : ((Int × Int × Int × Mem) ⊕ ((Int × Int × Mem)))} (h : f_X11_isLaid_40 σ x1 x2 x3 x5 x6 x7 s0 = some q) {r : Option V × Mem × Mem} (K : K_X11_isLaid_10 x1 x2 x3 r q) : Ev M_X11_isLaid 218 218 r 40 218 rho σ [(2, (181 : Int)), (0, x1), (0, x2), (0, x3), (9, 0), (0, x5), (0, x6), (0, x7), (9, 0)] [(0, s0)] := by
  unfold f_X11_isLaid_40 at h
  refine ev_istore dX11_isLaid_40 rfl (by decide) ?_
  show Ev _ _ _ _ 42 _ _ _ [(2, (181 : Int)), (0, x1), (0, x2), (0, x3), (9, 0), (0, x5), (0, x6), (0, x7), (0, s0)] _
  refine ev_aload_n dX11_isLaid_42 rfl (by decide) ?_
  refine ev_getf (j := 17) (t := 2) (x := (193 : Int)) dX11_isLaid_43 cf_X11 wf_X11_45 sp181 (by decide) (by decide) rfl (by decide) (rp181_17 _) ?_
  refine ev_iload dX11_isLaid_46 rfl ?_
  refine ev_iload dX11_isLaid_48 rfl ?_
  refine ev_aload_n dX11_isLaid_50 rfl (by decide) ?_
  refine ev_aload_n dX11_isLaid_51 rfl (by decide) ?_
  refine ev_getf (j := 16) (t := 2) (x := (192 : Int)) dX11_isLaid_52 cf_X11 wf_X11_42 sp181 (by decide) (by decide) rfl (by decide) (rp181_16 _) ?_
  refine ev_iload dX11_isLaid_55 rfl ?_
  refine ev_iald dX11_isLaid_57 sp192 (by decide) (by decide) h (fun h => ?_)
  obtain ⟨v3, hc4, h⟩ := bind_of h
  refine ev_invV_v (k := (181 : Int)) (av := [(0, (σ (192 : Int) x7))]) (st := [(0, s0), (0, x7), (2, (193 : Int))]) (v := (0, v3)) (τ := σ) dX11_isLaid_58 ml_X11_255 mv_X11_start (T := TX11) (ci := 10) rfl sp181 (by decide) (by decide) rfl ⟨Nat.le_of_ble_eq_true rfl, Nat.le_of_ble_eq_true rfl⟩ (Nat.le_of_ble_eq_true rfl) (c_X11_start hc4) ?_
  show Ev _ _ _ _ 61 _ _ _ _ _
  refine ev_mx dX11_isLaid_61 wa_X11_258 wm_max (by decide) (Nat.le_of_ble_eq_true rfl) ?_
  refine ev_iastG dX11_isLaid_64 sp193 (by decide) (by decide) h (fun σ5 h => ?_)
  refine ev_aload_n dX11_isLaid_65 rfl (by decide) ?_
  refine ev_getf (j := 18) (t := 2) (x := (194 : Int)) dX11_isLaid_66 cf_X11 wf_X11_48 sp181 (by decide) (by decide) rfl (by decide) (rp181_18 _) ?_
  refine ev_iload dX11_isLaid_69 rfl ?_
  refine ev_aload_n dX11_isLaid_71 rfl (by decide) ?_
  refine ev_getf (j := 17) (t := 2) (x := (193 : Int)) dX11_isLaid_72 cf_X11 wf_X11_45 sp181 (by decide) (by decide) rfl (by decide) (rp181_17 _) ?_
  refine ev_iload dX11_isLaid_75 rfl ?_
  refine ev_iald dX11_isLaid_77 sp193 (by decide) (by decide) h (fun h => ?_)
  refine ev_aload_n dX11_isLaid_78 rfl (by decide) ?_
  refine ev_iload_n dX11_isLaid_79 rfl ?_
  refine ev_aload_n dX11_isLaid_80 rfl (by decide) ?_
  show Ev _ _ _ _ 81 _ _ _ _ _
  refine ev_getf (j := 16) (t := 2) (x := (192 : Int)) dX11_isLaid_81 cf_X11 wf_X11_42 sp181 (by decide) (by decide) rfl (by decide) (rp181_16 _) ?_
  refine ev_iload dX11_isLaid_84 rfl ?_
  refine ev_iald dX11_isLaid_86 sp192 (by decide) (by decide) h (fun h => ?_)
  obtain ⟨v6, hc7, h⟩ := bind_of h
  refine ev_invV_v (k := (181 : Int)) (av := [(0, x1), (0, (σ5 (192 : Int) x7))]) (st := [(0, (σ5 (193 : Int) x7)), (0, x7), (2, (194 : Int))]) (v := (0, v6)) (τ := σ5) dX11_isLaid_87 ml_X11_263 mv_X11_timed (T := TX11) (ci := 10) rfl sp181 (by decide) (by decide) rfl ⟨Nat.le_of_ble_eq_true rfl, Nat.le_of_ble_eq_true rfl⟩ (Nat.le_of_ble_eq_true rfl) (c_X11_timed hc7) ?_
  refine ev_iadd dX11_isLaid_90 ?_
  refine ev_iastG dX11_isLaid_91 sp194 (by decide) (by decide) h (fun σ8 h => ?_)
  refine ev_iload dX11_isLaid_92 rfl ?_
  refine ev_aload_n dX11_isLaid_94 rfl (by decide) ?_
  refine ev_iload_n dX11_isLaid_95 rfl ?_
  refine ev_aload_n dX11_isLaid_96 rfl (by decide) ?_
  refine ev_getf (j := 16) (t := 2) (x := (192 : Int)) dX11_isLaid_97 cf_X11 wf_X11_42 sp181 (by decide) (by decide) rfl (by decide) (rp181_16 _) ?_
  refine ev_iload dX11_isLaid_100 rfl ?_
  show Ev _ _ _ _ 102 _ _ _ _ _
  refine ev_iald dX11_isLaid_102 sp192 (by decide) (by decide) h (fun h => ?_)
  obtain ⟨v9, hc10, h⟩ := bind_of h
  refine ev_invV_v (k := (181 : Int)) (av := [(0, x1), (0, (σ8 (192 : Int) x7))]) (st := [(0, x5)]) (v := (0, v9)) (τ := σ8) dX11_isLaid_103 ml_X11_263 mv_X11_timed (T := TX11) (ci := 10) rfl sp181 (by decide) (by decide) rfl ⟨Nat.le_of_ble_eq_true rfl, Nat.le_of_ble_eq_true rfl⟩ (Nat.le_of_ble_eq_true rfl) (c_X11_timed hc10) ?_
  refine ev_iadd dX11_isLaid_106 ?_
  refine ev_istoreG dX11_isLaid_107 h rfl (by decide) (fun v11 h => ?_)
  show Ev _ _ _ _ 109 _ _ _ [(2, (181 : Int)), (0, x1), (0, x2), (0, x3), (9, 0), (0, v11), (0, x6), (0, x7), (0, s0)] _
  refine ev_iload dX11_isLaid_109 rfl ?_
  refine ev_if_eq (tgt := 130) dX11_isLaid_111 rfl h (fun cb h => ?_) (fun cb h => ?_)
  · exact ev_sub (L2 := [(2, (181 : Int)), (0, x1), (0, x2), (0, x3), (9, 0), (0, v11), (9, 0), (0, x7), (9, 0)]) (e_X11_isLaid_130 σ8 x1 x2 x3 v11 x7 h K) ⟨.inr rfl, .inr rfl, .inr rfl, .inr rfl, .inl rfl, .inr rfl, .inl rfl, .inr rfl, .inl rfl, trivial⟩
  refine ev_aload_n dX11_isLaid_114 rfl (by decide) ?_
  refine ev_getf (j := 18) (t := 2) (x := (194 : Int)) dX11_isLaid_115 cf_X11 wf_X11_48 sp181 (by decide) (by decide) rfl (by decide) (rp181_18 _) ?_
  refine ev_iload dX11_isLaid_118 rfl ?_
  refine ev_iald dX11_isLaid_120 sp194 (by decide) (by decide) h (fun h => ?_)
  refine ev_bipush dX11_isLaid_121 (by decide) (by decide) ?_
  refine ev_icmp_gt (tgt := 130) dX11_isLaid_123 rfl h (fun cb h => ?_) (fun cb h => ?_)
  · exact ev_sub (L2 := [(2, (181 : Int)), (0, x1), (0, x2), (0, x3), (9, 0), (0, v11), (9, 0), (0, x7), (9, 0)]) (e_X11_isLaid_130 σ8 x1 x2 x3 v11 x7 h K) ⟨.inr rfl, .inr rfl, .inr rfl, .inr rfl, .inl rfl, .inr rfl, .inl rfl, .inr rfl, .inl rfl, trivial⟩
  refine ev_iconst dX11_isLaid_126 (by decide) ?_
  refine ev_goto (tgt := 131) dX11_isLaid_127 rfl ?_
  exact ev_sub (L2 := [(2, (181 : Int)), (0, x1), (0, x2), (0, x3), (9, 0), (0, v11), (9, 0), (0, x7), (9, 0)]) (e_X11_isLaid_131 σ8 x1 x2 x3 v11 x7 (1 : Int) h K) ⟨.inr rfl, .inr rfl, .inr rfl, .inr rfl, .inl rfl, .inr rfl, .inl rfl, .inr rfl, .inl rfl, trivial⟩
set_option maxHeartbeats 4000000 in
set_option maxRecDepth 20000 in
theorem e_X11_isLaid_139 (σ : Mem) (x5 x6 : Int)  {q : (Int × Mem)} (h : f_X11_isLaid_139 σ x5 x6 = some q) : Ev M_X11_isLaid 218 218 (some (0, q.1), rho, q.2) 139 218 rho σ [(2, (181 : Int)), (9, 0), (9, 0), (9, 0), (9, 0), (0, x5), (0, x6), (9, 0), (9, 0)] [] := by
  unfold f_X11_isLaid_139 at h
  refine ev_iload dX11_isLaid_139 rfl ?_
  refine ev_if_eq (tgt := 160) dX11_isLaid_141 rfl h (fun cb h => ?_) (fun cb h => ?_)
  · refine ev_iconst dX11_isLaid_160 (by decide) ?_
    obtain rfl := Option.some.inj h
    exact ev_zret dX11_isLaid_161 rfl (chk_pos (.inl rfl))
  refine ev_iload dX11_isLaid_144 rfl ?_
  refine ev_aload_n dX11_isLaid_146 rfl (by decide) ?_
  refine ev_getf (j := 0) (t := 2) (x := (182 : Int)) dX11_isLaid_147 cf_X11 wf_X11_7 sp181 (by decide) (by decide) rfl (by decide) (rp181_0 _) ?_
  refine ev_bipush dX11_isLaid_150 (by decide) (by decide) ?_
  refine ev_iald dX11_isLaid_152 sp182 (by decide) (by decide) h (fun h => ?_)
  refine ev_icmp_gt (tgt := 160) dX11_isLaid_153 rfl h (fun cb h => ?_) (fun cb h => ?_)
  · refine ev_iconst dX11_isLaid_160 (by decide) ?_
    obtain rfl := Option.some.inj h
    exact ev_zret dX11_isLaid_161 rfl (chk_pos (.inl rfl))
  refine ev_iconst dX11_isLaid_156 (by decide) ?_
  refine ev_goto (tgt := 161) dX11_isLaid_157 rfl ?_
  obtain rfl := Option.some.inj h
  exact ev_zret dX11_isLaid_161 rfl (chk_pos (.inr rfl))
set_option maxHeartbeats 4000000 in
set_option maxRecDepth 20000 in
theorem b_X11_isLaid_10 (x1 x2 x3 : Int)  {r : Option V × Mem × Mem} : ∀ a x, f_X11_isLaid_10B x1 x2 x3 a = some x → K_X11_isLaid_10 x1 x2 x3 r x → K_X11_isLaid_10 x1 x2 x3 r (.inl a) := by
  intro a x h K
  obtain ⟨x5, x6, x7, σ⟩ := a
  have h : f_X11_isLaid_10C x1 x2 x3 x5 x6 x7 σ = some x := h
  unfold f_X11_isLaid_10C at h
  show Ev M_X11_isLaid 218 218 r 10 218 rho σ [(2, (181 : Int)), (0, x1), (0, x2), (0, x3), (9, 0), (0, x5), (0, x6), (0, x7), (9, 0)] []
  refine ev_iload dX11_isLaid_10 rfl ?_
  refine ev_iload_n dX11_isLaid_12 rfl ?_
  refine ev_icmp_ge (tgt := 139) dX11_isLaid_13 rfl h (fun cb h => ?_) (fun cb h => ?_)
  · obtain rfl := Option.some.inj h
    exact ev_sub (L2 := [(2, (181 : Int)), (9, 0), (9, 0), (9, 0), (9, 0), (0, x5), (0, x6), (9, 0), (9, 0)]) K ⟨.inr rfl, .inl rfl, .inl rfl, .inl rfl, .inl rfl, .inr rfl, .inr rfl, .inl rfl, .inl rfl, trivial⟩
  refine ev_iload dX11_isLaid_16 rfl ?_
  refine ev_if_ne (tgt := 25) dX11_isLaid_18 rfl h (fun cb h => ?_) (fun cb h => ?_)
  · refine ev_aload_n dX11_isLaid_25 rfl (by decide) ?_
    refine ev_getf (j := 18) (t := 2) (x := (194 : Int)) dX11_isLaid_26 cf_X11 wf_X11_48 sp181 (by decide) (by decide) rfl (by decide) (rp181_18 _) ?_
    refine ev_iload dX11_isLaid_29 rfl ?_
    refine ev_iconst dX11_isLaid_31 (by decide) ?_
    refine ev_isub dX11_isLaid_32 ?_
    refine ev_iald dX11_isLaid_33 sp194 (by decide) (by decide) h (fun h => ?_)
    refine ev_aload_n dX11_isLaid_34 rfl (by decide) ?_
    refine ev_iload_n dX11_isLaid_35 rfl ?_
    obtain ⟨v1, hc2, h⟩ := bind_of h
    refine ev_invV_v (k := (181 : Int)) (av := [(0, x1)]) (st := [(0, (σ (194 : Int) (jsub x7 (1 : Int))))]) (v := (0, v1)) (τ := σ) dX11_isLaid_36 ml_X11_252 mv_X11_rest (T := TX11) (ci := 10) rfl sp181 (by decide) (by decide) rfl ⟨Nat.le_of_ble_eq_true rfl, Nat.le_of_ble_eq_true rfl⟩ (Nat.le_of_ble_eq_true rfl) (c_X11_rest hc2) ?_
    refine ev_iadd dX11_isLaid_39 ?_
    exact ev_sub (L2 := [(2, (181 : Int)), (0, x1), (0, x2), (0, x3), (9, 0), (0, x5), (0, x6), (0, x7), (9, 0)]) (e_X11_isLaid_40 σ x1 x2 x3 x5 x6 x7 (jadd (σ (194 : Int) (jsub x7 (1 : Int))) v1) h K) ⟨.inr rfl, .inr rfl, .inr rfl, .inr rfl, .inl rfl, .inr rfl, .inr rfl, .inr rfl, .inl rfl, trivial⟩
  refine ev_iload_n dX11_isLaid_21 rfl ?_
  refine ev_goto (tgt := 40) dX11_isLaid_22 rfl ?_
  exact ev_sub (L2 := [(2, (181 : Int)), (0, x1), (0, x2), (0, x3), (9, 0), (0, x5), (0, x6), (0, x7), (9, 0)]) (e_X11_isLaid_40 σ x1 x2 x3 x5 x6 x7 x3 h K) ⟨.inr rfl, .inr rfl, .inr rfl, .inr rfl, .inl rfl, .inr rfl, .inr rfl, .inr rfl, .inl rfl, trivial⟩
set_option maxHeartbeats 4000000 in
set_option maxRecDepth 20000 in
theorem e_X11_isLaid_10 (σ : Mem) (x1 x2 x3 x5 x6 x7 : Int)  {q : (Int × Mem)} (h : f_X11_isLaid_10 σ x1 x2 x3 x5 x6 x7 = some q) : Ev M_X11_isLaid 218 218 (some (0, q.1), rho, q.2) 10 218 rho σ [(2, (181 : Int)), (0, x1), (0, x2), (0, x3), (9, 0), (0, x5), (0, x6), (0, x7), (9, 0)] [] := by
  unfold f_X11_isLaid_10 at h
  obtain ⟨e, hl, h⟩ := bind_of h
  refine loop_ev (K := K_X11_isLaid_10 x1 x2 x3 (some (0, q.1), rho, q.2)) (b_X11_isLaid_10 x1 x2 x3) FU (x5, x6, x7, σ) e hl ?_
  show Ev M_X11_isLaid 218 218 _ 139 218 rho e.2.2 [(2, (181 : Int)), (9, 0), (9, 0), (9, 0), (9, 0), (0, e.1), (0, e.2.1), (9, 0), (9, 0)] []
  replace h : f_X11_isLaid_139 e.2.2 e.1 e.2.1 = some q := h
  exact ev_sub (L2 := [(2, (181 : Int)), (9, 0), (9, 0), (9, 0), (9, 0), (0, e.1), (0, e.2.1), (9, 0), (9, 0)]) (e_X11_isLaid_139 e.2.2 e.1 e.2.1 h) ⟨.inr rfl, .inl rfl, .inl rfl, .inl rfl, .inl rfl, .inr rfl, .inr rfl, .inl rfl, .inl rfl, trivial⟩
set_option maxHeartbeats 4000000 in
set_option maxRecDepth 20000 in
theorem c_X11_isLaid {σ : Mem} {x1 x2 x3 x4 : Int}  {q : (Int × Mem)} (h : f_X11_isLaid σ x1 x2 x3 x4 = some q) : Ms yX11_isLaid M_X11_isLaid 218 218 [(2, (181 : Int)), (0, x1), (0, x2), (0, x3), (0, x4)] rho σ (some (0, q.1), rho, q.2) := by
  refine Ms.of 4 (by decide +kernel) rfl (fun z => absurd z (by decide)) (fun _ _ _ => trivial) rfl rfl ?_
  unfold f_X11_isLaid at h
  show Ev M_X11_isLaid 218 218 _ 0 218 rho σ [(2, (181 : Int)), (0, x1), (0, x2), (0, x3), (0, x4), (9, 0), (9, 0), (9, 0), (9, 0)] []
  refine ev_iload dX11_isLaid_0 rfl ?_
  refine ev_istore dX11_isLaid_2 rfl (by decide) ?_
  show Ev _ _ _ _ 4 _ _ _ [(2, (181 : Int)), (0, x1), (0, x2), (0, x3), (0, x4), (0, x4), (9, 0), (9, 0), (9, 0)] _
  refine ev_iconst dX11_isLaid_4 (by decide) ?_
  refine ev_istore dX11_isLaid_5 rfl (by decide) ?_
  show Ev _ _ _ _ 7 _ _ _ [(2, (181 : Int)), (0, x1), (0, x2), (0, x3), (0, x4), (0, x4), (0, (1 : Int)), (9, 0), (9, 0)] _
  refine ev_iconst dX11_isLaid_7 (by decide) ?_
  refine ev_istore dX11_isLaid_8 rfl (by decide) ?_
  show Ev _ _ _ _ 10 _ _ _ [(2, (181 : Int)), (0, x1), (0, x2), (0, x3), (0, x4), (0, x4), (0, (1 : Int)), (0, (0 : Int)), (9, 0)] _
  exact ev_sub (L2 := [(2, (181 : Int)), (0, x1), (0, x2), (0, x3), (9, 0), (0, x4), (0, (1 : Int)), (0, (0 : Int)), (9, 0)]) (e_X11_isLaid_10 σ x1 x2 x3 x4 (1 : Int) (0 : Int) h) ⟨.inr rfl, .inr rfl, .inr rfl, .inr rfl, .inl rfl, .inr rfl, .inr rfl, .inr rfl, .inl rfl, trivial⟩
def K_X11_isSitting_5 (σ : Mem) (x1 x2 : Int) (r : Option V × Mem × Mem) : (Int × Int) ⊕ ((Int)) → Prop := Sum.elim (fun a => Ev M_X11_isSitting 218 218 r 5 218 rho σ [(2, (181 : Int)), (0, x1), (0, x2), (0, a.1), (0, a.2)] []) (fun e => Ev M_X11_isSitting 218 218 r 49 218 rho σ [(9, 0), (9, 0), (9, 0), (0, e), (9, 0)] [])
set_option maxHeartbeats 4000000 in
set_option maxRecDepth 20000 in
theorem e_X11_isSitting_42 (σ : Mem) (x1 x2 x4 s0 : Int)  {q : ((Int × Int) ⊕ ((Int)))} (h : f_X11_isSitting_42 σ x1 x2 x4 s0 = some q) {r : Option V × Mem × Mem} (K : K_X11_isSitting_5 σ x1 x2 r q) : Ev M_X11_isSitting 218 218 r 42 218 rho σ [(2, (181 : Int)), (0, x1), (0, x2), (9, 0), (0, x4)] [(0, s0)] := by
  unfold f_X11_isSitting_42 at h
  refine ev_istore_n dX11_isSitting_42 rfl (by decide) ?_
  show Ev _ _ _ _ 43 _ _ _ [(2, (181 : Int)), (0, x1), (0, x2), (0, s0), (0, x4)] _
  refine ev_iincG dX11_isSitting_43 rfl h rfl (fun v1 h => ?_)
  show Ev _ _ _ _ 46 _ _ _ [(2, (181 : Int)), (0, x1), (0, x2), (0, s0), (0, v1)] _
  refine ev_goto (tgt := 5) dX11_isSitting_46 rfl ?_
  obtain rfl := Option.some.inj h
  exact ev_sub (L2 := [(2, (181 : Int)), (0, x1), (0, x2), (0, s0), (0, v1)]) K ⟨.inr rfl, .inr rfl, .inr rfl, .inr rfl, .inr rfl, trivial⟩
set_option maxHeartbeats 4000000 in
set_option maxRecDepth 20000 in
theorem e_X11_isSitting_37 (σ : Mem) (x1 x2 x4 : Int)  {q : ((Int × Int) ⊕ ((Int)))} (h : f_X11_isSitting_37 σ x1 x2 x4 = some q) {r : Option V × Mem × Mem} (K : K_X11_isSitting_5 σ x1 x2 r q) : Ev M_X11_isSitting 218 218 r 37 218 rho σ [(2, (181 : Int)), (0, x1), (0, x2), (9, 0), (0, x4)] [] := by
  unfold f_X11_isSitting_37 at h
  refine ev_iconst dX11_isSitting_37 (by decide) ?_
  refine ev_goto (tgt := 42) dX11_isSitting_38 rfl ?_
  exact ev_sub (L2 := [(2, (181 : Int)), (0, x1), (0, x2), (9, 0), (0, x4)]) (e_X11_isSitting_42 σ x1 x2 x4 (1 : Int) h K) ⟨.inr rfl, .inr rfl, .inr rfl, .inl rfl, .inr rfl, trivial⟩
set_option maxHeartbeats 4000000 in
set_option maxRecDepth 20000 in
theorem e_X11_isSitting_41 (σ : Mem) (x1 x2 x4 : Int)  {q : ((Int × Int) ⊕ ((Int)))} (h : f_X11_isSitting_41 σ x1 x2 x4 = some q) {r : Option V × Mem × Mem} (K : K_X11_isSitting_5 σ x1 x2 r q) : Ev M_X11_isSitting 218 218 r 41 218 rho σ [(2, (181 : Int)), (0, x1), (0, x2), (9, 0), (0, x4)] [] := by
  unfold f_X11_isSitting_41 at h
  refine ev_iconst dX11_isSitting_41 (by decide) ?_
  exact ev_sub (L2 := [(2, (181 : Int)), (0, x1), (0, x2), (9, 0), (0, x4)]) (e_X11_isSitting_42 σ x1 x2 x4 (0 : Int) h K) ⟨.inr rfl, .inr rfl, .inr rfl, .inl rfl, .inr rfl, trivial⟩
set_option maxHeartbeats 4000000 in
set_option maxRecDepth 20000 in
theorem b_X11_isSitting_5 (σ : Mem) (x1 x2 : Int)  {r : Option V × Mem × Mem} : ∀ a x, f_X11_isSitting_5B σ x1 x2 a = some x → K_X11_isSitting_5 σ x1 x2 r x → K_X11_isSitting_5 σ x1 x2 r (.inl a) := by
  intro a x h K
  obtain ⟨x3, x4⟩ := a
  have h : f_X11_isSitting_5C σ x1 x2 x3 x4 = some x := h
  unfold f_X11_isSitting_5C at h
  show Ev M_X11_isSitting 218 218 r 5 218 rho σ [(2, (181 : Int)), (0, x1), (0, x2), (0, x3), (0, x4)] []
  refine ev_iload dX11_isSitting_5 rfl ?_
  refine ev_iload_n dX11_isSitting_7 rfl ?_
  refine ev_icmp_ge (tgt := 49) dX11_isSitting_8 rfl h (fun cb h => ?_) (fun cb h => ?_)
  · obtain rfl := Option.some.inj h
    exact ev_sub (L2 := [(9, 0), (9, 0), (9, 0), (0, x3), (9, 0)]) K ⟨.inl rfl, .inl rfl, .inl rfl, .inr rfl, .inl rfl, trivial⟩
  refine ev_iload_n dX11_isSitting_11 rfl ?_
  refine ev_if_ne (tgt := 37) dX11_isSitting_12 rfl h (fun cb h => ?_) (fun cb h => ?_)
  · exact ev_sub (L2 := [(2, (181 : Int)), (0, x1), (0, x2), (9, 0), (0, x4)]) (e_X11_isSitting_37 σ x1 x2 x4 h K) ⟨.inr rfl, .inr rfl, .inr rfl, .inl rfl, .inr rfl, trivial⟩
  refine ev_iload_n dX11_isSitting_15 rfl ?_
  refine ev_aload_n dX11_isSitting_16 rfl (by decide) ?_
  refine ev_getf (j := 17) (t := 2) (x := (193 : Int)) dX11_isSitting_17 cf_X11 wf_X11_45 sp181 (by decide) (by decide) rfl (by decide) (rp181_17 _) ?_
  refine ev_iload dX11_isSitting_20 rfl ?_
  refine ev_iald dX11_isSitting_22 sp193 (by decide) (by decide) h (fun h => ?_)
  refine ev_icmp_lt (tgt := 41) dX11_isSitting_23 rfl h (fun cb h => ?_) (fun cb h => ?_)
  · exact ev_sub (L2 := [(2, (181 : Int)), (0, x1), (0, x2), (9, 0), (0, x4)]) (e_X11_isSitting_41 σ x1 x2 x4 h K) ⟨.inr rfl, .inr rfl, .inr rfl, .inl rfl, .inr rfl, trivial⟩
  refine ev_iload_n dX11_isSitting_26 rfl ?_
  refine ev_aload_n dX11_isSitting_27 rfl (by decide) ?_
  refine ev_getf (j := 18) (t := 2) (x := (194 : Int)) dX11_isSitting_28 cf_X11 wf_X11_48 sp181 (by decide) (by decide) rfl (by decide) (rp181_18 _) ?_
  refine ev_iload dX11_isSitting_31 rfl ?_
  refine ev_iald dX11_isSitting_33 sp194 (by decide) (by decide) h (fun h => ?_)
  refine ev_icmp_ge (tgt := 41) dX11_isSitting_34 rfl h (fun cb h => ?_) (fun cb h => ?_)
  · exact ev_sub (L2 := [(2, (181 : Int)), (0, x1), (0, x2), (9, 0), (0, x4)]) (e_X11_isSitting_41 σ x1 x2 x4 h K) ⟨.inr rfl, .inr rfl, .inr rfl, .inl rfl, .inr rfl, trivial⟩
  exact ev_sub (L2 := [(2, (181 : Int)), (0, x1), (0, x2), (9, 0), (0, x4)]) (e_X11_isSitting_37 σ x1 x2 x4 h K) ⟨.inr rfl, .inr rfl, .inr rfl, .inl rfl, .inr rfl, trivial⟩
set_option maxHeartbeats 4000000 in
set_option maxRecDepth 20000 in
theorem e_X11_isSitting_5 (σ : Mem) (x1 x2 x3 x4 : Int)  {q : Int} (h : f_X11_isSitting_5 σ x1 x2 x3 x4 = some q) : Ev M_X11_isSitting 218 218 (some (0, q), rho, σ) 5 218 rho σ [(2, (181 : Int)), (0, x1), (0, x2), (0, x3), (0, x4)] [] := by
  unfold f_X11_isSitting_5 at h
  obtain ⟨e, hl, h⟩ := bind_of h
  refine loop_ev (K := K_X11_isSitting_5 σ x1 x2 (some (0, q), rho, σ)) (b_X11_isSitting_5 σ x1 x2) FU (x3, x4) e hl ?_
  show Ev M_X11_isSitting 218 218 _ 49 218 rho σ [(9, 0), (9, 0), (9, 0), (0, e), (9, 0)] []
  replace h : chk (e = 0 ∨ e = 1) (some e) = some q := h
  refine ev_iload_n dX11_isSitting_49 rfl ?_
  obtain ⟨hz, h⟩ := chk_of h
  obtain rfl := Option.some.inj h
  exact ev_zret dX11_isSitting_50 rfl (chk_pos hz)
set_option maxHeartbeats 4000000 in
set_option maxRecDepth 20000 in
theorem c_X11_isSitting {σ : Mem} {x1 x2 : Int}  {q : Int} (h : f_X11_isSitting σ x1 x2 = some q) : Ms yX11_isSitting M_X11_isSitting 218 218 [(2, (181 : Int)), (0, x1), (0, x2)] rho σ (some (0, q), rho, σ) := by
  refine Ms.of 2 (by decide +kernel) rfl (fun z => absurd z (by decide)) (fun _ _ _ => trivial) rfl rfl ?_
  unfold f_X11_isSitting at h
  show Ev M_X11_isSitting 218 218 _ 0 218 rho σ [(2, (181 : Int)), (0, x1), (0, x2), (9, 0), (9, 0)] []
  refine ev_iconst dX11_isSitting_0 (by decide) ?_
  refine ev_istore_n dX11_isSitting_1 rfl (by decide) ?_
  show Ev _ _ _ _ 2 _ _ _ [(2, (181 : Int)), (0, x1), (0, x2), (0, (0 : Int)), (9, 0)] _
  refine ev_iconst dX11_isSitting_2 (by decide) ?_
  refine ev_istore dX11_isSitting_3 rfl (by decide) ?_
  show Ev _ _ _ _ 5 _ _ _ [(2, (181 : Int)), (0, x1), (0, x2), (0, (0 : Int)), (0, (0 : Int))] _
  exact ev_sub (L2 := [(2, (181 : Int)), (0, x1), (0, x2), (0, (0 : Int)), (0, (0 : Int))]) (e_X11_isSitting_5 σ x1 x2 (0 : Int) (0 : Int) h) ⟨.inr rfl, .inr rfl, .inr rfl, .inr rfl, .inr rfl, trivial⟩
def K_X11_isWaiting_23 (σ : Mem) (x1 x3 : Int) (r : Option V × Mem × Mem) : (Int × Int) ⊕ ((Int)) → Prop := Sum.elim (fun a => Ev M_X11_isWaiting 218 218 r 23 218 rho σ [(2, (181 : Int)), (0, x1), (9, 0), (0, x3), (0, a.1), (0, a.2)] []) (fun e => Ev M_X11_isWaiting 218 218 r 73 218 rho σ [(9, 0), (9, 0), (9, 0), (9, 0), (0, e), (9, 0)] [])
set_option maxHeartbeats 4000000 in
set_option maxRecDepth 20000 in
theorem e_X11_isWaiting_65 (σ : Mem) (x1 x3 x5 s0 : Int)  {q : ((Int × Int) ⊕ ((Int)))} (h : f_X11_isWaiting_65 σ x1 x3 x5 s0 = some q) {r : Option V × Mem × Mem} (K : K_X11_isWaiting_23 σ x1 x3 r q) : Ev M_X11_isWaiting 218 218 r 65 218 rho σ [(2, (181 : Int)), (0, x1), (9, 0), (0, x3), (9, 0), (0, x5)] [(0, s0)] := by
  unfold f_X11_isWaiting_65 at h
  refine ev_istore dX11_isWaiting_65 rfl (by decide) ?_
  show Ev _ _ _ _ 67 _ _ _ [(2, (181 : Int)), (0, x1), (9, 0), (0, x3), (0, s0), (0, x5)] _
  refine ev_iincG dX11_isWaiting_67 rfl h rfl (fun v5 h => ?_)
  show Ev _ _ _ _ 70 _ _ _ [(2, (181 : Int)), (0, x1), (9, 0), (0, x3), (0, s0), (0, v5)] _
  refine ev_goto (tgt := 23) dX11_isWaiting_70 rfl ?_
  obtain rfl := Option.some.inj h
  exact ev_sub (L2 := [(2, (181 : Int)), (0, x1), (9, 0), (0, x3), (0, s0), (0, v5)]) K ⟨.inr rfl, .inr rfl, .inl rfl, .inr rfl, .inr rfl, .inr rfl, trivial⟩
set_option maxHeartbeats 4000000 in
set_option maxRecDepth 20000 in
theorem e_X11_isWaiting_60 (σ : Mem) (x1 x3 x5 : Int)  {q : ((Int × Int) ⊕ ((Int)))} (h : f_X11_isWaiting_60 σ x1 x3 x5 = some q) {r : Option V × Mem × Mem} (K : K_X11_isWaiting_23 σ x1 x3 r q) : Ev M_X11_isWaiting 218 218 r 60 218 rho σ [(2, (181 : Int)), (0, x1), (9, 0), (0, x3), (9, 0), (0, x5)] [] := by
  unfold f_X11_isWaiting_60 at h
  refine ev_iconst dX11_isWaiting_60 (by decide) ?_
  refine ev_goto (tgt := 65) dX11_isWaiting_61 rfl ?_
  exact ev_sub (L2 := [(2, (181 : Int)), (0, x1), (9, 0), (0, x3), (9, 0), (0, x5)]) (e_X11_isWaiting_65 σ x1 x3 x5 (1 : Int) h K) ⟨.inr rfl, .inr rfl, .inl rfl, .inr rfl, .inl rfl, .inr rfl, trivial⟩
set_option maxHeartbeats 4000000 in
set_option maxRecDepth 20000 in
theorem e_X11_isWaiting_64 (σ : Mem) (x1 x3 x5 : Int)  {q : ((Int × Int) ⊕ ((Int)))} (h : f_X11_isWaiting_64 σ x1 x3 x5 = some q) {r : Option V × Mem × Mem} (K : K_X11_isWaiting_23 σ x1 x3 r q) : Ev M_X11_isWaiting 218 218 r 64 218 rho σ [(2, (181 : Int)), (0, x1), (9, 0), (0, x3), (9, 0), (0, x5)] [] := by
  unfold f_X11_isWaiting_64 at h
  refine ev_iconst dX11_isWaiting_64 (by decide) ?_
  exact ev_sub (L2 := [(2, (181 : Int)), (0, x1), (9, 0), (0, x3), (9, 0), (0, x5)]) (e_X11_isWaiting_65 σ x1 x3 x5 (0 : Int) h K) ⟨.inr rfl, .inr rfl, .inl rfl, .inr rfl, .inl rfl, .inr rfl, trivial⟩
set_option maxHeartbeats 4000000 in
set_option maxRecDepth 20000 in
theorem b_X11_isWaiting_23 (σ : Mem) (x1 x3 : Int)  {r : Option V × Mem × Mem} : ∀ a x, f_X11_isWaiting_23B σ x1 x3 a = some x → K_X11_isWaiting_23 σ x1 x3 r x → K_X11_isWaiting_23 σ x1 x3 r (.inl a) := by
  intro a x h K
  obtain ⟨x4, x5⟩ := a
  have h : f_X11_isWaiting_23C σ x1 x3 x4 x5 = some x := h
  unfold f_X11_isWaiting_23C at h
  show Ev M_X11_isWaiting 218 218 r 23 218 rho σ [(2, (181 : Int)), (0, x1), (9, 0), (0, x3), (0, x4), (0, x5)] []
  refine ev_iload dX11_isWaiting_23 rfl ?_
  refine ev_iload_n dX11_isWaiting_25 rfl ?_
  refine ev_icmp_ge (tgt := 73) dX11_isWaiting_26 rfl h (fun cb h => ?_) (fun cb h => ?_)
  · obtain rfl := Option.some.inj h
    exact ev_sub (L2 := [(9, 0), (9, 0), (9, 0), (9, 0), (0, x4), (9, 0)]) K ⟨.inl rfl, .inl rfl, .inl rfl, .inl rfl, .inr rfl, .inl rfl, trivial⟩
  refine ev_iload dX11_isWaiting_29 rfl ?_
  refine ev_if_ne (tgt := 60) dX11_isWaiting_31 rfl h (fun cb h => ?_) (fun cb h => ?_)
  · exact ev_sub (L2 := [(2, (181 : Int)), (0, x1), (9, 0), (0, x3), (9, 0), (0, x5)]) (e_X11_isWaiting_60 σ x1 x3 x5 h K) ⟨.inr rfl, .inr rfl, .inl rfl, .inr rfl, .inl rfl, .inr rfl, trivial⟩
  refine ev_iload_n dX11_isWaiting_34 rfl ?_
  refine ev_aload_n dX11_isWaiting_35 rfl (by decide) ?_
  refine ev_aload_n dX11_isWaiting_36 rfl (by decide) ?_
  refine ev_getf (j := 16) (t := 2) (x := (192 : Int)) dX11_isWaiting_37 cf_X11 wf_X11_42 sp181 (by decide) (by decide) rfl (by decide) (rp181_16 _) ?_
  refine ev_iload dX11_isWaiting_40 rfl ?_
  refine ev_iald dX11_isWaiting_42 sp192 (by decide) (by decide) h (fun h => ?_)
  obtain ⟨v3, hc4, h⟩ := bind_of h
  refine ev_invV_v (k := (181 : Int)) (av := [(0, (σ (192 : Int) x5))]) (st := [(0, x3)]) (v := (0, v3)) (τ := σ) dX11_isWaiting_43 ml_X11_255 mv_X11_start (T := TX11) (ci := 10) rfl sp181 (by decide) (by decide) rfl ⟨Nat.le_of_ble_eq_true rfl, Nat.le_of_ble_eq_true rfl⟩ (Nat.le_of_ble_eq_true rfl) (c_X11_start hc4) ?_
  refine ev_icmp_lt (tgt := 64) dX11_isWaiting_46 rfl h (fun cb h => ?_) (fun cb h => ?_)
  · exact ev_sub (L2 := [(2, (181 : Int)), (0, x1), (9, 0), (0, x3), (9, 0), (0, x5)]) (e_X11_isWaiting_64 σ x1 x3 x5 h K) ⟨.inr rfl, .inr rfl, .inl rfl, .inr rfl, .inl rfl, .inr rfl, trivial⟩
  refine ev_iload_n dX11_isWaiting_49 rfl ?_
  refine ev_aload_n dX11_isWaiting_50 rfl (by decide) ?_
  refine ev_getf (j := 17) (t := 2) (x := (193 : Int)) dX11_isWaiting_51 cf_X11 wf_X11_45 sp181 (by decide) (by decide) rfl (by decide) (rp181_17 _) ?_
  refine ev_iload dX11_isWaiting_54 rfl ?_
  refine ev_iald dX11_isWaiting_56 sp193 (by decide) (by decide) h (fun h => ?_)
  refine ev_icmp_ge (tgt := 64) dX11_isWaiting_57 rfl h (fun cb h => ?_) (fun cb h => ?_)
  · exact ev_sub (L2 := [(2, (181 : Int)), (0, x1), (9, 0), (0, x3), (9, 0), (0, x5)]) (e_X11_isWaiting_64 σ x1 x3 x5 h K) ⟨.inr rfl, .inr rfl, .inl rfl, .inr rfl, .inl rfl, .inr rfl, trivial⟩
  exact ev_sub (L2 := [(2, (181 : Int)), (0, x1), (9, 0), (0, x3), (9, 0), (0, x5)]) (e_X11_isWaiting_60 σ x1 x3 x5 h K) ⟨.inr rfl, .inr rfl, .inl rfl, .inr rfl, .inl rfl, .inr rfl, trivial⟩
set_option maxHeartbeats 4000000 in
set_option maxRecDepth 20000 in
theorem e_X11_isWaiting_23 (σ : Mem) (x1 x3 x4 x5 : Int)  {q : Int} (h : f_X11_isWaiting_23 σ x1 x3 x4 x5 = some q) : Ev M_X11_isWaiting 218 218 (some (0, q), rho, σ) 23 218 rho σ [(2, (181 : Int)), (0, x1), (9, 0), (0, x3), (0, x4), (0, x5)] [] := by
  unfold f_X11_isWaiting_23 at h
  obtain ⟨e, hl, h⟩ := bind_of h
  refine loop_ev (K := K_X11_isWaiting_23 σ x1 x3 (some (0, q), rho, σ)) (b_X11_isWaiting_23 σ x1 x3) FU (x4, x5) e hl ?_
  show Ev M_X11_isWaiting 218 218 _ 73 218 rho σ [(9, 0), (9, 0), (9, 0), (9, 0), (0, e), (9, 0)] []
  replace h : chk (e = 0 ∨ e = 1) (some e) = some q := h
  refine ev_iload dX11_isWaiting_73 rfl ?_
  obtain ⟨hz, h⟩ := chk_of h
  obtain rfl := Option.some.inj h
  exact ev_zret dX11_isWaiting_75 rfl (chk_pos hz)
set_option maxHeartbeats 4000000 in
set_option maxRecDepth 20000 in
theorem e_X11_isWaiting_18 (σ : Mem) (x1 x3 s0 : Int)  {q : Int} (h : f_X11_isWaiting_18 σ x1 x3 s0 = some q) : Ev M_X11_isWaiting 218 218 (some (0, q), rho, σ) 18 218 rho σ [(2, (181 : Int)), (0, x1), (9, 0), (0, x3), (9, 0), (9, 0)] [(0, s0)] := by
  unfold f_X11_isWaiting_18 at h
  refine ev_istore dX11_isWaiting_18 rfl (by decide) ?_
  show Ev _ _ _ _ 20 _ _ _ [(2, (181 : Int)), (0, x1), (9, 0), (0, x3), (0, s0), (9, 0)] _
  refine ev_iconst dX11_isWaiting_20 (by decide) ?_
  refine ev_istore dX11_isWaiting_21 rfl (by decide) ?_
  show Ev _ _ _ _ 23 _ _ _ [(2, (181 : Int)), (0, x1), (9, 0), (0, x3), (0, s0), (0, (0 : Int))] _
  exact ev_sub (L2 := [(2, (181 : Int)), (0, x1), (9, 0), (0, x3), (0, s0), (0, (0 : Int))]) (e_X11_isWaiting_23 σ x1 x3 s0 (0 : Int) h) ⟨.inr rfl, .inr rfl, .inl rfl, .inr rfl, .inr rfl, .inr rfl, trivial⟩
set_option maxHeartbeats 4000000 in
set_option maxRecDepth 20000 in
theorem e_X11_isWaiting_17 (σ : Mem) (x1 x3 : Int)  {q : Int} (h : f_X11_isWaiting_17 σ x1 x3 = some q) : Ev M_X11_isWaiting 218 218 (some (0, q), rho, σ) 17 218 rho σ [(2, (181 : Int)), (0, x1), (9, 0), (0, x3), (9, 0), (9, 0)] [] := by
  unfold f_X11_isWaiting_17 at h
  refine ev_iconst dX11_isWaiting_17 (by decide) ?_
  exact ev_sub (L2 := [(2, (181 : Int)), (0, x1), (9, 0), (0, x3), (9, 0), (9, 0)]) (e_X11_isWaiting_18 σ x1 x3 (0 : Int) h) ⟨.inr rfl, .inr rfl, .inl rfl, .inr rfl, .inl rfl, .inl rfl, trivial⟩
set_option maxHeartbeats 4000000 in
set_option maxRecDepth 20000 in
theorem c_X11_isWaiting {σ : Mem} {x1 x2 x3 : Int}  {q : Int} (h : f_X11_isWaiting σ x1 x2 x3 = some q) : Ms yX11_isWaiting M_X11_isWaiting 218 218 [(2, (181 : Int)), (0, x1), (0, x2), (0, x3)] rho σ (some (0, q), rho, σ) := by
  refine Ms.of 2 (by decide +kernel) rfl (fun z => absurd z (by decide)) (fun _ _ _ => trivial) rfl rfl ?_
  unfold f_X11_isWaiting at h
  show Ev M_X11_isWaiting 218 218 _ 0 218 rho σ [(2, (181 : Int)), (0, x1), (0, x2), (0, x3), (9, 0), (9, 0)] []
  refine ev_iload_n dX11_isWaiting_0 rfl ?_
  refine ev_if_lt (tgt := 17) dX11_isWaiting_1 rfl h (fun cb h => ?_) (fun cb h => ?_)
  · exact ev_sub (L2 := [(2, (181 : Int)), (0, x1), (9, 0), (0, x3), (9, 0), (9, 0)]) (e_X11_isWaiting_17 σ x1 x3 h) ⟨.inr rfl, .inr rfl, .inl rfl, .inr rfl, .inl rfl, .inl rfl, trivial⟩
  refine ev_iload_n dX11_isWaiting_4 rfl ?_
  refine ev_aload_n dX11_isWaiting_5 rfl (by decide) ?_
  refine ev_iload_n dX11_isWaiting_6 rfl ?_
  obtain ⟨v1, hc2, h⟩ := bind_of h
  refine ev_invV_v (k := (181 : Int)) (av := [(0, x2)]) (st := [(0, x3)]) (v := (0, v1)) (τ := σ) dX11_isWaiting_7 ml_X11_255 mv_X11_start (T := TX11) (ci := 10) rfl sp181 (by decide) (by decide) rfl ⟨Nat.le_of_ble_eq_true rfl, Nat.le_of_ble_eq_true rfl⟩ (Nat.le_of_ble_eq_true rfl) (c_X11_start hc2) ?_
  refine ev_icmp_lt (tgt := 17) dX11_isWaiting_10 rfl h (fun cb h => ?_) (fun cb h => ?_)
  · exact ev_sub (L2 := [(2, (181 : Int)), (0, x1), (9, 0), (0, x3), (9, 0), (9, 0)]) (e_X11_isWaiting_17 σ x1 x3 h) ⟨.inr rfl, .inr rfl, .inl rfl, .inr rfl, .inl rfl, .inl rfl, trivial⟩
  refine ev_iconst dX11_isWaiting_13 (by decide) ?_
  refine ev_goto (tgt := 18) dX11_isWaiting_14 rfl ?_
  exact ev_sub (L2 := [(2, (181 : Int)), (0, x1), (9, 0), (0, x3), (9, 0), (9, 0)]) (e_X11_isWaiting_18 σ x1 x3 (1 : Int) h) ⟨.inr rfl, .inr rfl, .inl rfl, .inr rfl, .inl rfl, .inl rfl, trivial⟩
def K_X11_keeps_6 (σ : Mem) (x1 x2 : Int) (r : Option V × Mem × Mem) : (Int × Int) ⊕ ((Int)) → Prop := Sum.elim (fun a => Ev M_X11_keeps 218 218 r 6 218 rho σ [(2, (181 : Int)), (0, x1), (0, x2), (9, 0), (0, a.1), (0, a.2)] []) (fun e => Ev M_X11_keeps 218 218 r 50 218 rho σ [(9, 0), (9, 0), (9, 0), (9, 0), (0, e), (9, 0)] [])
set_option maxHeartbeats 4000000 in
set_option maxRecDepth 20000 in
theorem e_X11_keeps_41 (σ : Mem) (x1 x2 x5 s1 s0 : Int)  {q : ((Int × Int) ⊕ ((Int)))} (h : f_X11_keeps_41 σ x1 x2 x5 s1 s0 = some q) {r : Option V × Mem × Mem} (K : K_X11_keeps_6 σ x1 x2 r q) : Ev M_X11_keeps 218 218 r 41 218 rho σ [(2, (181 : Int)), (0, x1), (0, x2), (9, 0), (9, 0), (0, x5)] [(0, s1), (0, s0)] := by
  unfold f_X11_keeps_41 at h
  refine ev_iadd dX11_keeps_41 ?_
  refine ev_istoreG dX11_keeps_42 h rfl (by decide) (fun v5 h => ?_)
  show Ev _ _ _ _ 44 _ _ _ [(2, (181 : Int)), (0, x1), (0, x2), (9, 0), (0, v5), (0, x5)] _
  refine ev_iincG dX11_keeps_44 rfl h rfl (fun v6 h => ?_)
  show Ev _ _ _ _ 47 _ _ _ [(2, (181 : Int)), (0, x1), (0, x2), (9, 0), (0, v5), (0, v6)] _
  refine ev_goto (tgt := 6) dX11_keeps_47 rfl ?_
  obtain rfl := Option.some.inj h
  exact ev_sub (L2 := [(2, (181 : Int)), (0, x1), (0, x2), (9, 0), (0, v5), (0, v6)]) K ⟨.inr rfl, .inr rfl, .inr rfl, .inl rfl, .inr rfl, .inr rfl, trivial⟩
set_option maxHeartbeats 4000000 in
set_option maxRecDepth 20000 in
theorem e_X11_keeps_40 (σ : Mem) (x1 x2 x5 s0 : Int)  {q : ((Int × Int) ⊕ ((Int)))} (h : f_X11_keeps_40 σ x1 x2 x5 s0 = some q) {r : Option V × Mem × Mem} (K : K_X11_keeps_6 σ x1 x2 r q) : Ev M_X11_keeps 218 218 r 40 218 rho σ [(2, (181 : Int)), (0, x1), (0, x2), (9, 0), (9, 0), (0, x5)] [(0, s0)] := by
  unfold f_X11_keeps_40 at h
  refine ev_iconst dX11_keeps_40 (by decide) ?_
  exact ev_sub (L2 := [(2, (181 : Int)), (0, x1), (0, x2), (9, 0), (9, 0), (0, x5)]) (e_X11_keeps_41 σ x1 x2 x5 (0 : Int) s0 h K) ⟨.inr rfl, .inr rfl, .inr rfl, .inl rfl, .inl rfl, .inr rfl, trivial⟩
set_option maxHeartbeats 4000000 in
set_option maxRecDepth 20000 in
theorem b_X11_keeps_6 (σ : Mem) (x1 x2 : Int)  {r : Option V × Mem × Mem} : ∀ a x, f_X11_keeps_6B σ x1 x2 a = some x → K_X11_keeps_6 σ x1 x2 r x → K_X11_keeps_6 σ x1 x2 r (.inl a) := by
  intro a x h K
  obtain ⟨x4, x5⟩ := a
  have h : f_X11_keeps_6C σ x1 x2 x4 x5 = some x := h
  unfold f_X11_keeps_6C at h
  show Ev M_X11_keeps 218 218 r 6 218 rho σ [(2, (181 : Int)), (0, x1), (0, x2), (9, 0), (0, x4), (0, x5)] []
  refine ev_iload dX11_keeps_6 rfl ?_
  refine ev_bipush dX11_keeps_8 (by decide) (by decide) ?_
  refine ev_icmp_ge (tgt := 50) dX11_keeps_10 rfl h (fun cb h => ?_) (fun cb h => ?_)
  · obtain rfl := Option.some.inj h
    exact ev_sub (L2 := [(9, 0), (9, 0), (9, 0), (9, 0), (0, x4), (9, 0)]) K ⟨.inl rfl, .inl rfl, .inl rfl, .inl rfl, .inr rfl, .inl rfl, trivial⟩
  refine ev_iload dX11_keeps_13 rfl ?_
  refine ev_aload_n dX11_keeps_15 rfl (by decide) ?_
  refine ev_iload_n dX11_keeps_16 rfl ?_
  refine ev_iload_n dX11_keeps_17 rfl ?_
  refine ev_iload dX11_keeps_18 rfl ?_
  obtain ⟨v1, hc2, h⟩ := bind_of h
  refine ev_invV_v (k := (181 : Int)) (av := [(0, x1), (0, x2), (0, x5)]) (st := [(0, x4)]) (v := (0, v1)) (τ := σ) dX11_keeps_20 ml_X11_266 mv_X11_isWaiting (T := TX11) (ci := 10) rfl sp181 (by decide) (by decide) rfl ⟨Nat.le_of_ble_eq_true rfl, Nat.le_of_ble_eq_true rfl⟩ (Nat.le_of_ble_eq_true rfl) (c_X11_isWaiting hc2) ?_
  refine ev_if_eq (tgt := 40) dX11_keeps_23 rfl h (fun cb h => ?_) (fun cb h => ?_)
  · exact ev_sub (L2 := [(2, (181 : Int)), (0, x1), (0, x2), (9, 0), (9, 0), (0, x5)]) (e_X11_keeps_40 σ x1 x2 x5 x4 h K) ⟨.inr rfl, .inr rfl, .inr rfl, .inl rfl, .inl rfl, .inr rfl, trivial⟩
  refine ev_aload_n dX11_keeps_26 rfl (by decide) ?_
  refine ev_iload_n dX11_keeps_27 rfl ?_
  refine ev_iload dX11_keeps_28 rfl ?_
  obtain ⟨v3, hc4, h⟩ := bind_of h
  refine ev_invV_v (k := (181 : Int)) (av := [(0, x1), (0, x5)]) (st := [(0, x4)]) (v := (0, v3)) (τ := σ) dX11_keeps_30 ml_X11_270 mv_X11_isSitting (T := TX11) (ci := 10) rfl sp181 (by decide) (by decide) rfl ⟨Nat.le_of_ble_eq_true rfl, Nat.le_of_ble_eq_true rfl⟩ (Nat.le_of_ble_eq_true rfl) (c_X11_isSitting hc4) ?_
  refine ev_if_ne (tgt := 40) dX11_keeps_33 rfl h (fun cb h => ?_) (fun cb h => ?_)
  · exact ev_sub (L2 := [(2, (181 : Int)), (0, x1), (0, x2), (9, 0), (9, 0), (0, x5)]) (e_X11_keeps_40 σ x1 x2 x5 x4 h K) ⟨.inr rfl, .inr rfl, .inr rfl, .inl rfl, .inl rfl, .inr rfl, trivial⟩
  refine ev_iconst dX11_keeps_36 (by decide) ?_
  refine ev_goto (tgt := 41) dX11_keeps_37 rfl ?_
  exact ev_sub (L2 := [(2, (181 : Int)), (0, x1), (0, x2), (9, 0), (9, 0), (0, x5)]) (e_X11_keeps_41 σ x1 x2 x5 (1 : Int) x4 h K) ⟨.inr rfl, .inr rfl, .inr rfl, .inl rfl, .inl rfl, .inr rfl, trivial⟩
set_option maxHeartbeats 4000000 in
set_option maxRecDepth 20000 in
theorem e_X11_keeps_6 (σ : Mem) (x1 x2 x4 x5 : Int)  {q : Int} (h : f_X11_keeps_6 σ x1 x2 x4 x5 = some q) : Ev M_X11_keeps 218 218 (some (0, q), rho, σ) 6 218 rho σ [(2, (181 : Int)), (0, x1), (0, x2), (9, 0), (0, x4), (0, x5)] [] := by
  unfold f_X11_keeps_6 at h
  obtain ⟨e, hl, h⟩ := bind_of h
  refine loop_ev (K := K_X11_keeps_6 σ x1 x2 (some (0, q), rho, σ)) (b_X11_keeps_6 σ x1 x2) FU (x4, x5) e hl ?_
  show Ev M_X11_keeps 218 218 _ 50 218 rho σ [(9, 0), (9, 0), (9, 0), (9, 0), (0, e), (9, 0)] []
  replace h : some e = some q := h
  refine ev_iload dX11_keeps_50 rfl ?_
  obtain rfl := Option.some.inj h
  exact ev_iret dX11_keeps_52 rfl rfl
set_option maxHeartbeats 4000000 in
set_option maxRecDepth 20000 in
theorem c_X11_keeps {σ : Mem} {x1 x2 x3 : Int}  {q : Int} (h : f_X11_keeps σ x1 x2 x3 = some q) : Ms yX11_keeps M_X11_keeps 218 218 [(2, (181 : Int)), (0, x1), (0, x2), (0, x3)] rho σ (some (0, q), rho, σ) := by
  refine Ms.of 2 (by decide +kernel) rfl (fun z => absurd z (by decide)) (fun _ _ _ => trivial) rfl rfl ?_
  unfold f_X11_keeps at h
  show Ev M_X11_keeps 218 218 _ 0 218 rho σ [(2, (181 : Int)), (0, x1), (0, x2), (0, x3), (9, 0), (9, 0)] []
  refine ev_iconst dX11_keeps_0 (by decide) ?_
  refine ev_istore dX11_keeps_1 rfl (by decide) ?_
  show Ev _ _ _ _ 3 _ _ _ [(2, (181 : Int)), (0, x1), (0, x2), (0, x3), (0, (0 : Int)), (9, 0)] _
  refine ev_iload_n dX11_keeps_3 rfl ?_
  refine ev_istore dX11_keeps_4 rfl (by decide) ?_
  show Ev _ _ _ _ 6 _ _ _ [(2, (181 : Int)), (0, x1), (0, x2), (0, x3), (0, (0 : Int)), (0, x3)] _
  exact ev_sub (L2 := [(2, (181 : Int)), (0, x1), (0, x2), (9, 0), (0, (0 : Int)), (0, x3)]) (e_X11_keeps_6 σ x1 x2 (0 : Int) x3 h) ⟨.inr rfl, .inr rfl, .inr rfl, .inl rfl, .inr rfl, .inr rfl, trivial⟩
def K_X11_tries_107 (x1 x2 x4 x5 : Int) (r : Option V × Mem × Mem) : (Int × Mem) ⊕ ((Mem)) → Prop := Sum.elim (fun a => Ev M_X11_tries 218 218 r 107 218 rho a.2 [(2, (181 : Int)), (0, x1), (0, x2), (9, 0), (0, x4), (0, x5), (9, 0), (9, 0), (0, a.1)] []) (fun e => Ev M_X11_tries 218 218 r 156 218 rho e [(2, (181 : Int)), (0, x1), (0, x2), (9, 0), (0, x4), (0, x5), (9, 0), (9, 0), (9, 0)] [])
def K_X11_tries_10 (x1 x2 x4 x5 : Int) (r : Option V × Mem × Mem) : (Int × Mem) ⊕ ((Mem)) → Prop := Sum.elim (fun a => Ev M_X11_tries 218 218 r 10 218 rho a.2 [(2, (181 : Int)), (0, x1), (0, x2), (9, 0), (0, x4), (0, x5), (0, a.1), (9, 0), (9, 0)] []) (fun e => Ev M_X11_tries 218 218 r 167 218 rho e [(9, 0), (9, 0), (9, 0), (9, 0), (9, 0), (9, 0), (9, 0), (9, 0), (9, 0)] [])
set_option maxHeartbeats 4000000 in
set_option maxRecDepth 20000 in
theorem e_X11_tries_156 (σ : Mem) (x1 x2 x4 x5 : Int)  {q : ((Int × Mem) ⊕ ((Mem)))} (h : f_X11_tries_156 σ x1 x2 x4 x5 = some q) {r : Option V × Mem × Mem} (K : K_X11_tries_10 x1 x2 x4 x5 r q) : Ev M_X11_tries 218 218 r 156 218 rho σ [(2, (181 : Int)), (0, x1), (0, x2), (9, 0), (0, x4), (0, x5), (9, 0), (9, 0), (9, 0)] [] := by
  unfold f_X11_tries_156 at h
  refine ev_aload_n dX11_tries_156 rfl (by decide) ?_
  refine ev_iload dX11_tries_157 rfl ?_
  obtain ⟨v8, hc9, h⟩ := bind_of h
  refine ev_invV_v (k := (181 : Int)) (av := [(0, x5)]) (st := []) (v := (0, v8.1)) (τ := v8.2) dX11_tries_159 ml_X11_283 mv_X11_next (T := TX11) (ci := 10) rfl sp181 (by decide) (by decide) rfl ⟨Nat.le_of_ble_eq_true rfl, Nat.le_of_ble_eq_true rfl⟩ (Nat.le_of_ble_eq_true rfl) (c_X11_next hc9) ?_
  refine ev_istoreG dX11_tries_162 h rfl (by decide) (fun v10 h => ?_)
  show Ev _ _ _ _ 164 _ _ _ [(2, (181 : Int)), (0, x1), (0, x2), (9, 0), (0, x4), (0, x5), (0, v10), (9, 0), (9, 0)] _
  refine ev_goto (tgt := 10) dX11_tries_164 rfl ?_
  obtain rfl := Option.some.inj h
  exact ev_sub (L2 := [(2, (181 : Int)), (0, x1), (0, x2), (9, 0), (0, x4), (0, x5), (0, v10), (9, 0), (9, 0)]) K ⟨.inr rfl, .inr rfl, .inr rfl, .inl rfl, .inr rfl, .inr rfl, .inr rfl, .inl rfl, .inl rfl, trivial⟩
set_option maxHeartbeats 4000000 in
set_option maxRecDepth 20000 in
theorem b_X11_tries_107 (x1 x2 x4 x5 : Int)  {r : Option V × Mem × Mem} : ∀ a x, f_X11_tries_107B x1 x2 x4 x5 a = some x → K_X11_tries_107 x1 x2 x4 x5 r x → K_X11_tries_107 x1 x2 x4 x5 r (.inl a) := by
  intro a x h K
  obtain ⟨x8, σ⟩ := a
  have h : f_X11_tries_107C x1 x2 x4 x5 x8 σ = some x := h
  unfold f_X11_tries_107C at h
  show Ev M_X11_tries 218 218 r 107 218 rho σ [(2, (181 : Int)), (0, x1), (0, x2), (9, 0), (0, x4), (0, x5), (9, 0), (9, 0), (0, x8)] []
  refine ev_iload dX11_tries_107 rfl ?_
  refine ev_iload dX11_tries_109 rfl ?_
  refine ev_icmp_ge (tgt := 156) dX11_tries_111 rfl h (fun cb h => ?_) (fun cb h => ?_)
  · obtain rfl := Option.some.inj h
    exact ev_sub (L2 := [(2, (181 : Int)), (0, x1), (0, x2), (9, 0), (0, x4), (0, x5), (9, 0), (9, 0), (9, 0)]) K ⟨.inr rfl, .inr rfl, .inr rfl, .inl rfl, .inr rfl, .inr rfl, .inl rfl, .inl rfl, .inl rfl, trivial⟩
  refine ev_aload_n dX11_tries_114 rfl (by decide) ?_
  refine ev_getf (j := 25) (t := 2) (x := (201 : Int)) dX11_tries_115 cf_X11 wf_X11_69 sp181 (by decide) (by decide) rfl (by decide) (rp181_25 _) ?_
  refine ev_iconst dX11_tries_118 (by decide) ?_
  refine ev_iload_n dX11_tries_119 rfl ?_
  refine ev_imul dX11_tries_120 ?_
  refine ev_iload dX11_tries_121 rfl ?_
  refine ev_iadd dX11_tries_123 ?_
  refine ev_aload_n dX11_tries_124 rfl (by decide) ?_
  refine ev_getf (j := 16) (t := 2) (x := (192 : Int)) dX11_tries_125 cf_X11 wf_X11_42 sp181 (by decide) (by decide) rfl (by decide) (rp181_16 _) ?_
  refine ev_iload dX11_tries_128 rfl ?_
  refine ev_iald dX11_tries_130 sp192 (by decide) (by decide) h (fun h => ?_)
  show Ev _ _ _ _ 131 _ _ _ _ _
  refine ev_iastG dX11_tries_131 sp201 (by decide) (by decide) h (fun σ15 h => ?_)
  refine ev_aload_n dX11_tries_132 rfl (by decide) ?_
  refine ev_getf (j := 26) (t := 2) (x := (202 : Int)) dX11_tries_133 cf_X11 wf_X11_72 sp181 (by decide) (by decide) rfl (by decide) (rp181_26 _) ?_
  refine ev_iconst dX11_tries_136 (by decide) ?_
  refine ev_iload_n dX11_tries_137 rfl ?_
  refine ev_imul dX11_tries_138 ?_
  refine ev_iload dX11_tries_139 rfl ?_
  refine ev_iadd dX11_tries_141 ?_
  refine ev_aload_n dX11_tries_142 rfl (by decide) ?_
  refine ev_getf (j := 17) (t := 2) (x := (193 : Int)) dX11_tries_143 cf_X11 wf_X11_45 sp181 (by decide) (by decide) rfl (by decide) (rp181_17 _) ?_
  refine ev_iload dX11_tries_146 rfl ?_
  refine ev_iald dX11_tries_148 sp193 (by decide) (by decide) h (fun h => ?_)
  show Ev _ _ _ _ 149 _ _ _ _ _
  refine ev_iastG dX11_tries_149 sp202 (by decide) (by decide) h (fun σ16 h => ?_)
  refine ev_iincG dX11_tries_150 rfl h rfl (fun v17 h => ?_)
  show Ev _ _ _ _ 153 _ _ _ [(2, (181 : Int)), (0, x1), (0, x2), (9, 0), (0, x4), (0, x5), (9, 0), (9, 0), (0, v17)] _
  refine ev_goto (tgt := 107) dX11_tries_153 rfl ?_
  obtain rfl := Option.some.inj h
  exact ev_sub (L2 := [(2, (181 : Int)), (0, x1), (0, x2), (9, 0), (0, x4), (0, x5), (9, 0), (9, 0), (0, v17)]) K ⟨.inr rfl, .inr rfl, .inr rfl, .inl rfl, .inr rfl, .inr rfl, .inl rfl, .inl rfl, .inr rfl, trivial⟩
set_option maxHeartbeats 4000000 in
set_option maxRecDepth 20000 in
theorem e_X11_tries_107 (σ : Mem) (x1 x2 x4 x5 x8 : Int)  {q : ((Int × Mem) ⊕ ((Mem)))} (h : f_X11_tries_107 σ x1 x2 x4 x5 x8 = some q) {r : Option V × Mem × Mem} (K : K_X11_tries_10 x1 x2 x4 x5 r q) : Ev M_X11_tries 218 218 r 107 218 rho σ [(2, (181 : Int)), (0, x1), (0, x2), (9, 0), (0, x4), (0, x5), (9, 0), (9, 0), (0, x8)] [] := by
  unfold f_X11_tries_107 at h
  obtain ⟨e, hl, h⟩ := bind_of h
  refine loop_ev (K := K_X11_tries_107 x1 x2 x4 x5 r) (b_X11_tries_107 x1 x2 x4 x5) FU (x8, σ) e hl ?_
  show Ev M_X11_tries 218 218 r 156 218 rho e [(2, (181 : Int)), (0, x1), (0, x2), (9, 0), (0, x4), (0, x5), (9, 0), (9, 0), (9, 0)] []
  replace h : f_X11_tries_156 e x1 x2 x4 x5 = some q := h
  exact ev_sub (L2 := [(2, (181 : Int)), (0, x1), (0, x2), (9, 0), (0, x4), (0, x5), (9, 0), (9, 0), (9, 0)]) (e_X11_tries_156 e x1 x2 x4 x5 h K) ⟨.inr rfl, .inr rfl, .inr rfl, .inl rfl, .inr rfl, .inr rfl, .inl rfl, .inl rfl, .inl rfl, trivial⟩
set_option maxHeartbeats 4000000 in
set_option maxRecDepth 20000 in
theorem e_X11_tries_73 (σ : Mem) (x1 x2 x4 x5 x7 : Int)  {q : ((Int × Mem) ⊕ ((Mem)))} (h : f_X11_tries_73 σ x1 x2 x4 x5 x7 = some q) {r : Option V × Mem × Mem} (K : K_X11_tries_10 x1 x2 x4 x5 r q) : Ev M_X11_tries 218 218 r 73 218 rho σ [(2, (181 : Int)), (0, x1), (0, x2), (9, 0), (0, x4), (0, x5), (9, 0), (0, x7), (9, 0)] [] := by
  unfold f_X11_tries_73 at h
  refine ev_aload_n dX11_tries_73 rfl (by decide) ?_
  refine ev_getf (j := 19) (t := 2) (x := (195 : Int)) dX11_tries_74 cf_X11 wf_X11_51 sp181 (by decide) (by decide) rfl (by decide) (rp181_19 _) ?_
  refine ev_iload_n dX11_tries_77 rfl ?_
  refine ev_iconst dX11_tries_78 (by decide) ?_
  refine ev_iastG dX11_tries_79 sp195 (by decide) (by decide) h (fun σ11 h => ?_)
  refine ev_aload_n dX11_tries_80 rfl (by decide) ?_
  refine ev_getf (j := 20) (t := 2) (x := (196 : Int)) dX11_tries_81 cf_X11 wf_X11_54 sp181 (by decide) (by decide) rfl (by decide) (rp181_20 _) ?_
  refine ev_iload_n dX11_tries_84 rfl ?_
  refine ev_iload dX11_tries_85 rfl ?_
  refine ev_iastG dX11_tries_87 sp196 (by decide) (by decide) h (fun σ12 h => ?_)
  refine ev_aload_n dX11_tries_88 rfl (by decide) ?_
  show Ev _ _ _ _ 89 _ _ _ _ _
  refine ev_getf (j := 21) (t := 2) (x := (197 : Int)) dX11_tries_89 cf_X11 wf_X11_57 sp181 (by decide) (by decide) rfl (by decide) (rp181_21 _) ?_
  refine ev_iload_n dX11_tries_92 rfl ?_
  refine ev_iload dX11_tries_93 rfl ?_
  refine ev_iastG dX11_tries_95 sp197 (by decide) (by decide) h (fun σ13 h => ?_)
  refine ev_aload_n dX11_tries_96 rfl (by decide) ?_
  refine ev_getf (j := 24) (t := 2) (x := (200 : Int)) dX11_tries_97 cf_X11 wf_X11_66 sp181 (by decide) (by decide) rfl (by decide) (rp181_24 _) ?_
  refine ev_iload_n dX11_tries_100 rfl ?_
  refine ev_iload dX11_tries_101 rfl ?_
  refine ev_iastG dX11_tries_103 sp200 (by decide) (by decide) h (fun σ14 h => ?_)
  refine ev_iconst dX11_tries_104 (by decide) ?_
  refine ev_istore dX11_tries_105 rfl (by decide) ?_
  show Ev _ _ _ _ 107 _ _ _ [(2, (181 : Int)), (0, x1), (0, x2), (9, 0), (0, x4), (0, x5), (9, 0), (0, x7), (0, (0 : Int))] _
  exact ev_sub (L2 := [(2, (181 : Int)), (0, x1), (0, x2), (9, 0), (0, x4), (0, x5), (9, 0), (9, 0), (0, (0 : Int))]) (e_X11_tries_107 σ14 x1 x2 x4 x5 (0 : Int) h K) ⟨.inr rfl, .inr rfl, .inr rfl, .inl rfl, .inr rfl, .inr rfl, .inl rfl, .inl rfl, .inr rfl, trivial⟩
set_option maxHeartbeats 4000000 in
set_option maxRecDepth 20000 in
theorem b_X11_tries_10 (x1 x2 x4 x5 : Int)  {r : Option V × Mem × Mem} : ∀ a x, f_X11_tries_10B x1 x2 x4 x5 a = some x → K_X11_tries_10 x1 x2 x4 x5 r x → K_X11_tries_10 x1 x2 x4 x5 r (.inl a) := by
  intro a x h K
  obtain ⟨x6, σ⟩ := a
  have h : f_X11_tries_10C x1 x2 x4 x5 x6 σ = some x := h
  unfold f_X11_tries_10C at h
  show Ev M_X11_tries 218 218 r 10 218 rho σ [(2, (181 : Int)), (0, x1), (0, x2), (9, 0), (0, x4), (0, x5), (0, x6), (9, 0), (9, 0)] []
  refine ev_iload dX11_tries_10 rfl ?_
  refine ev_if_eq (tgt := 167) dX11_tries_12 rfl h (fun cb h => ?_) (fun cb h => ?_)
  · obtain rfl := Option.some.inj h
    exact ev_sub (L2 := [(9, 0), (9, 0), (9, 0), (9, 0), (9, 0), (9, 0), (9, 0), (9, 0), (9, 0)]) K ⟨.inl rfl, .inl rfl, .inl rfl, .inl rfl, .inl rfl, .inl rfl, .inl rfl, .inl rfl, .inl rfl, trivial⟩
  refine ev_aload_n dX11_tries_15 rfl (by decide) ?_
  refine ev_iload_n dX11_tries_16 rfl ?_
  refine ev_iload dX11_tries_17 rfl ?_
  refine ev_aload_n dX11_tries_19 rfl (by decide) ?_
  refine ev_getf (j := 22) (t := 2) (x := (198 : Int)) dX11_tries_20 cf_X11 wf_X11_60 sp181 (by decide) (by decide) rfl (by decide) (rp181_22 _) ?_
  refine ev_iload_n dX11_tries_23 rfl ?_
  refine ev_iald dX11_tries_24 sp198 (by decide) (by decide) h (fun h => ?_)
  refine ev_aload_n dX11_tries_25 rfl (by decide) ?_
  refine ev_getf (j := 23) (t := 2) (x := (199 : Int)) dX11_tries_26 cf_X11 wf_X11_63 sp181 (by decide) (by decide) rfl (by decide) (rp181_23 _) ?_
  refine ev_iload_n dX11_tries_29 rfl ?_
  refine ev_iald dX11_tries_30 sp199 (by decide) (by decide) h (fun h => ?_)
  show Ev _ _ _ _ 31 _ _ _ _ _
  obtain ⟨v4, hc5, h⟩ := bind_of h
  refine ev_invV_v (k := (181 : Int)) (av := [(0, x1), (0, x5), (0, (σ (198 : Int) x2)), (0, (σ (199 : Int) x2))]) (st := []) (v := (0, v4.1)) (τ := v4.2) dX11_tries_31 ml_X11_276 mv_X11_isLaid (T := TX11) (ci := 10) rfl sp181 (by decide) (by decide) rfl ⟨Nat.le_of_ble_eq_true rfl, Nat.le_of_ble_eq_true rfl⟩ (Nat.le_of_ble_eq_true rfl) (c_X11_isLaid hc5) ?_
  refine ev_if_eq (tgt := 156) dX11_tries_34 rfl h (fun cb h => ?_) (fun cb h => ?_)
  · exact ev_sub (L2 := [(2, (181 : Int)), (0, x1), (0, x2), (9, 0), (0, x4), (0, x5), (9, 0), (9, 0), (9, 0)]) (e_X11_tries_156 v4.2 x1 x2 x4 x5 h K) ⟨.inr rfl, .inr rfl, .inr rfl, .inl rfl, .inr rfl, .inr rfl, .inl rfl, .inl rfl, .inl rfl, trivial⟩
  refine ev_aload_n dX11_tries_37 rfl (by decide) ?_
  refine ev_iload dX11_tries_38 rfl ?_
  refine ev_iload dX11_tries_40 rfl ?_
  refine ev_aload_n dX11_tries_42 rfl (by decide) ?_
  refine ev_getf (j := 23) (t := 2) (x := (199 : Int)) dX11_tries_43 cf_X11 wf_X11_63 sp181 (by decide) (by decide) rfl (by decide) (rp181_23 _) ?_
  refine ev_iload_n dX11_tries_46 rfl ?_
  refine ev_iald dX11_tries_47 sp199 (by decide) (by decide) h (fun h => ?_)
  obtain ⟨v6, hc7, h⟩ := bind_of h
  refine ev_invV_v (k := (181 : Int)) (av := [(0, x5), (0, x4), (0, (v4.2 (199 : Int) x2))]) (st := []) (v := (0, v6)) (τ := v4.2) dX11_tries_48 ml_X11_280 mv_X11_keeps (T := TX11) (ci := 10) rfl sp181 (by decide) (by decide) rfl ⟨Nat.le_of_ble_eq_true rfl, Nat.le_of_ble_eq_true rfl⟩ (Nat.le_of_ble_eq_true rfl) (c_X11_keeps hc7) ?_
  refine ev_istore dX11_tries_51 rfl (by decide) ?_
  show Ev _ _ _ _ 53 _ _ _ [(2, (181 : Int)), (0, x1), (0, x2), (9, 0), (0, x4), (0, x5), (0, x6), (0, v6), (9, 0)] _
  refine ev_aload_n dX11_tries_53 rfl (by decide) ?_
  refine ev_getf (j := 19) (t := 2) (x := (195 : Int)) dX11_tries_54 cf_X11 wf_X11_51 sp181 (by decide) (by decide) rfl (by decide) (rp181_19 _) ?_
  show Ev _ _ _ _ 57 _ _ _ _ _
  refine ev_iload_n dX11_tries_57 rfl ?_
  refine ev_iald dX11_tries_58 sp195 (by decide) (by decide) h (fun h => ?_)
  refine ev_if_eq (tgt := 73) dX11_tries_59 rfl h (fun cb h => ?_) (fun cb h => ?_)
  · exact ev_sub (L2 := [(2, (181 : Int)), (0, x1), (0, x2), (9, 0), (0, x4), (0, x5), (9, 0), (0, v6), (9, 0)]) (e_X11_tries_73 v4.2 x1 x2 x4 x5 v6 h K) ⟨.inr rfl, .inr rfl, .inr rfl, .inl rfl, .inr rfl, .inr rfl, .inl rfl, .inr rfl, .inl rfl, trivial⟩
  refine ev_iload dX11_tries_62 rfl ?_
  refine ev_aload_n dX11_tries_64 rfl (by decide) ?_
  refine ev_getf (j := 20) (t := 2) (x := (196 : Int)) dX11_tries_65 cf_X11 wf_X11_54 sp181 (by decide) (by decide) rfl (by decide) (rp181_20 _) ?_
  refine ev_iload_n dX11_tries_68 rfl ?_
  refine ev_iald dX11_tries_69 sp196 (by decide) (by decide) h (fun h => ?_)
  refine ev_icmp_ge (tgt := 156) dX11_tries_70 rfl h (fun cb h => ?_) (fun cb h => ?_)
  · exact ev_sub (L2 := [(2, (181 : Int)), (0, x1), (0, x2), (9, 0), (0, x4), (0, x5), (9, 0), (9, 0), (9, 0)]) (e_X11_tries_156 v4.2 x1 x2 x4 x5 h K) ⟨.inr rfl, .inr rfl, .inr rfl, .inl rfl, .inr rfl, .inr rfl, .inl rfl, .inl rfl, .inl rfl, trivial⟩
  exact ev_sub (L2 := [(2, (181 : Int)), (0, x1), (0, x2), (9, 0), (0, x4), (0, x5), (9, 0), (0, v6), (9, 0)]) (e_X11_tries_73 v4.2 x1 x2 x4 x5 v6 h K) ⟨.inr rfl, .inr rfl, .inr rfl, .inl rfl, .inr rfl, .inr rfl, .inl rfl, .inr rfl, .inl rfl, trivial⟩
set_option maxHeartbeats 4000000 in
set_option maxRecDepth 20000 in
theorem e_X11_tries_10 (σ : Mem) (x1 x2 x4 x5 x6 : Int)  {q : Mem} (h : f_X11_tries_10 σ x1 x2 x4 x5 x6 = some q) : Ev M_X11_tries 218 218 (none, rho, q) 10 218 rho σ [(2, (181 : Int)), (0, x1), (0, x2), (9, 0), (0, x4), (0, x5), (0, x6), (9, 0), (9, 0)] [] := by
  unfold f_X11_tries_10 at h
  obtain ⟨e, hl, h⟩ := bind_of h
  refine loop_ev (K := K_X11_tries_10 x1 x2 x4 x5 (none, rho, q)) (b_X11_tries_10 x1 x2 x4 x5) FU (x6, σ) e hl ?_
  show Ev M_X11_tries 218 218 _ 167 218 rho e [(9, 0), (9, 0), (9, 0), (9, 0), (9, 0), (9, 0), (9, 0), (9, 0), (9, 0)] []
  replace h : some e = some q := h
  obtain rfl := Option.some.inj h
  exact ev_vret dX11_tries_167 rfl rfl
set_option maxHeartbeats 4000000 in
set_option maxRecDepth 20000 in
theorem c_X11_tries {σ : Mem} {x1 x2 x3 x4 : Int}  {q : Mem} (h : f_X11_tries σ x1 x2 x3 x4 = some q) : Ms yX11_tries M_X11_tries 218 218 [(2, (181 : Int)), (0, x1), (0, x2), (0, x3), (0, x4)] rho σ (none, rho, q) := by
  refine Ms.of 4 (by decide +kernel) rfl (fun z => absurd z (by decide)) (fun _ _ _ => trivial) rfl rfl ?_
  unfold f_X11_tries at h
  show Ev M_X11_tries 218 218 _ 0 218 rho σ [(2, (181 : Int)), (0, x1), (0, x2), (0, x3), (0, x4), (9, 0), (9, 0), (9, 0), (9, 0)] []
  refine ev_aload_n dX11_tries_0 rfl (by decide) ?_
  refine ev_iload_n dX11_tries_1 rfl ?_
  obtain ⟨v1, hc2, h⟩ := bind_of h
  refine ev_invV_v (k := (181 : Int)) (av := [(0, x3)]) (st := []) (v := (0, v1.1)) (τ := v1.2) dX11_tries_2 ml_X11_273 mv_X11_rows (T := TX11) (ci := 10) rfl sp181 (by decide) (by decide) rfl ⟨Nat.le_of_ble_eq_true rfl, Nat.le_of_ble_eq_true rfl⟩ (Nat.le_of_ble_eq_true rfl) (c_X11_rows hc2) ?_
  refine ev_istoreG dX11_tries_5 h rfl (by decide) (fun v3 h => ?_)
  show Ev _ _ _ _ 7 _ _ _ [(2, (181 : Int)), (0, x1), (0, x2), (0, x3), (0, x4), (0, v3), (9, 0), (9, 0), (9, 0)] _
  refine ev_iconst dX11_tries_7 (by decide) ?_
  refine ev_istore dX11_tries_8 rfl (by decide) ?_
  show Ev _ _ _ _ 10 _ _ _ [(2, (181 : Int)), (0, x1), (0, x2), (0, x3), (0, x4), (0, v3), (0, (1 : Int)), (9, 0), (9, 0)] _
  exact ev_sub (L2 := [(2, (181 : Int)), (0, x1), (0, x2), (9, 0), (0, x4), (0, v3), (0, (1 : Int)), (9, 0), (9, 0)]) (e_X11_tries_10 v1.2 x1 x2 x4 v3 (1 : Int) h) ⟨.inr rfl, .inr rfl, .inr rfl, .inl rfl, .inr rfl, .inr rfl, .inr rfl, .inl rfl, .inl rfl, trivial⟩
def K_X11_plans_142 (x1 x2 x4 : Int) (r : Option V × Mem × Mem) : (Int × Mem) ⊕ ((Mem)) → Prop := Sum.elim (fun a => Ev M_X11_plans 218 218 r 142 218 rho a.2 [(2, (181 : Int)), (0, x1), (0, x2), (9, 0), (0, x4), (0, a.1)] []) (fun e => Ev M_X11_plans 218 218 r 212 218 rho e [(2, (181 : Int)), (0, x1), (0, x2), (9, 0), (9, 0), (9, 0)] [])
def K_X11_plans_2 (x1 : Int) (r : Option V × Mem × Mem) : (Int × Mem) ⊕ ((Mem)) → Prop := Sum.elim (fun a => Ev M_X11_plans 218 218 r 2 218 rho a.2 [(2, (181 : Int)), (0, x1), (0, a.1), (9, 0), (9, 0), (9, 0)] []) (fun e => Ev M_X11_plans 218 218 r 218 218 rho e [(9, 0), (9, 0), (9, 0), (9, 0), (9, 0), (9, 0)] [])
set_option maxHeartbeats 4000000 in
set_option maxRecDepth 20000 in
theorem e_X11_plans_206 (σ : Mem) (x1 x2 x4 x5 : Int)  {q : ((Int × Mem) ⊕ ((Mem)))} (h : f_X11_plans_206 σ x1 x2 x4 x5 = some q) {r : Option V × Mem × Mem} (K : K_X11_plans_142 x1 x2 x4 r q) : Ev M_X11_plans 218 218 r 206 218 rho σ [(2, (181 : Int)), (0, x1), (0, x2), (9, 0), (0, x4), (0, x5)] [] := by
  unfold f_X11_plans_206 at h
  refine ev_iincG dX11_plans_206 rfl h rfl (fun v24 h => ?_)
  show Ev _ _ _ _ 209 _ _ _ [(2, (181 : Int)), (0, x1), (0, x2), (9, 0), (0, x4), (0, v24)] _
  refine ev_goto (tgt := 142) dX11_plans_209 rfl ?_
  obtain rfl := Option.some.inj h
  exact ev_sub (L2 := [(2, (181 : Int)), (0, x1), (0, x2), (9, 0), (0, x4), (0, v24)]) K ⟨.inr rfl, .inr rfl, .inr rfl, .inl rfl, .inr rfl, .inr rfl, trivial⟩
set_option maxHeartbeats 4000000 in
set_option maxRecDepth 20000 in
theorem e_X11_plans_212 (σ : Mem) (x1 x2 : Int)  {q : ((Int × Mem) ⊕ ((Mem)))} (h : f_X11_plans_212 σ x1 x2 = some q) {r : Option V × Mem × Mem} (K : K_X11_plans_2 x1 r q) : Ev M_X11_plans 218 218 r 212 218 rho σ [(2, (181 : Int)), (0, x1), (0, x2), (9, 0), (9, 0), (9, 0)] [] := by
  unfold f_X11_plans_212 at h
  refine ev_iincG dX11_plans_212 rfl h rfl (fun v17 h => ?_)
  show Ev _ _ _ _ 215 _ _ _ [(2, (181 : Int)), (0, x1), (0, v17), (9, 0), (9, 0), (9, 0)] _
  refine ev_goto (tgt := 2) dX11_plans_215 rfl ?_
  obtain rfl := Option.some.inj h
  exact ev_sub (L2 := [(2, (181 : Int)), (0, x1), (0, v17), (9, 0), (9, 0), (9, 0)]) K ⟨.inr rfl, .inr rfl, .inr rfl, .inl rfl, .inl rfl, .inl rfl, trivial⟩
set_option maxHeartbeats 4000000 in
set_option maxRecDepth 20000 in
theorem b_X11_plans_142 (x1 x2 x4 : Int)  {r : Option V × Mem × Mem} : ∀ a x, f_X11_plans_142B x1 x2 x4 a = some x → K_X11_plans_142 x1 x2 x4 r x → K_X11_plans_142 x1 x2 x4 r (.inl a) := by
  intro a x h K
  obtain ⟨x5, σ⟩ := a
  have h : f_X11_plans_142C x1 x2 x4 x5 σ = some x := h
  unfold f_X11_plans_142C at h
  show Ev M_X11_plans 218 218 r 142 218 rho σ [(2, (181 : Int)), (0, x1), (0, x2), (9, 0), (0, x4), (0, x5)] []
  refine ev_iload dX11_plans_142 rfl ?_
  refine ev_bipush dX11_plans_144 (by decide) (by decide) ?_
  refine ev_icmp_ge (tgt := 212) dX11_plans_146 rfl h (fun cb h => ?_) (fun cb h => ?_)
  · obtain rfl := Option.some.inj h
    exact ev_sub (L2 := [(2, (181 : Int)), (0, x1), (0, x2), (9, 0), (9, 0), (9, 0)]) K ⟨.inr rfl, .inr rfl, .inr rfl, .inl rfl, .inl rfl, .inl rfl, trivial⟩
  refine ev_iload dX11_plans_149 rfl ?_
  refine ev_iload dX11_plans_151 rfl ?_
  refine ev_ishr dX11_plans_153 ?_
  refine ev_iconst dX11_plans_154 (by decide) ?_
  refine ev_iand dX11_plans_155 ?_
  refine ev_iconst dX11_plans_156 (by decide) ?_
  refine ev_icmp_ne (tgt := 206) dX11_plans_157 rfl h (fun cb h => ?_) (fun cb h => ?_)
  · exact ev_sub (L2 := [(2, (181 : Int)), (0, x1), (0, x2), (9, 0), (0, x4), (0, x5)]) (e_X11_plans_206 σ x1 x2 x4 x5 h K) ⟨.inr rfl, .inr rfl, .inr rfl, .inl rfl, .inr rfl, .inr rfl, trivial⟩
  refine ev_aload_n dX11_plans_160 rfl (by decide) ?_
  refine ev_iload_n dX11_plans_161 rfl ?_
  refine ev_iload dX11_plans_162 rfl ?_
  obtain ⟨v18, hc19, h⟩ := bind_of h
  refine ev_invV_v (k := (181 : Int)) (av := [(0, x1), (0, x5)]) (st := []) (v := (0, v18)) (τ := σ) dX11_plans_164 ml_X11_263 mv_X11_timed (T := TX11) (ci := 10) rfl sp181 (by decide) (by decide) rfl ⟨Nat.le_of_ble_eq_true rfl, Nat.le_of_ble_eq_true rfl⟩ (Nat.le_of_ble_eq_true rfl) (c_X11_timed hc19) ?_
  refine ev_bipush dX11_plans_167 (by decide) (by decide) ?_
  refine ev_icmp_gt (tgt := 206) dX11_plans_169 rfl h (fun cb h => ?_) (fun cb h => ?_)
  · exact ev_sub (L2 := [(2, (181 : Int)), (0, x1), (0, x2), (9, 0), (0, x4), (0, x5)]) (e_X11_plans_206 σ x1 x2 x4 x5 h K) ⟨.inr rfl, .inr rfl, .inr rfl, .inl rfl, .inr rfl, .inr rfl, trivial⟩
  refine ev_aload_n dX11_plans_172 rfl (by decide) ?_
  refine ev_iload_n dX11_plans_173 rfl ?_
  refine ev_iload dX11_plans_174 rfl ?_
  obtain ⟨v20, hc21, h⟩ := bind_of h
  refine ev_invV_v (k := (181 : Int)) (av := [(0, x1), (0, x5)]) (st := []) (v := (0, v20)) (τ := σ) dX11_plans_176 ml_X11_263 mv_X11_timed (T := TX11) (ci := 10) rfl sp181 (by decide) (by decide) rfl ⟨Nat.le_of_ble_eq_true rfl, Nat.le_of_ble_eq_true rfl⟩ (Nat.le_of_ble_eq_true rfl) (c_X11_timed hc21) ?_
  refine ev_aload_n dX11_plans_179 rfl (by decide) ?_
  refine ev_getf (j := 0) (t := 2) (x := (182 : Int)) dX11_plans_180 cf_X11 wf_X11_7 sp181 (by decide) (by decide) rfl (by decide) (rp181_0 _) ?_
  refine ev_bipush dX11_plans_183 (by decide) (by decide) ?_
  refine ev_iald dX11_plans_185 sp182 (by decide) (by decide) h (fun h => ?_)
  refine ev_icmp_gt (tgt := 206) dX11_plans_186 rfl h (fun cb h => ?_) (fun cb h => ?_)
  · exact ev_sub (L2 := [(2, (181 : Int)), (0, x1), (0, x2), (9, 0), (0, x4), (0, x5)]) (e_X11_plans_206 σ x1 x2 x4 x5 h K) ⟨.inr rfl, .inr rfl, .inr rfl, .inl rfl, .inr rfl, .inr rfl, trivial⟩
  refine ev_aload_n dX11_plans_189 rfl (by decide) ?_
  refine ev_iload_n dX11_plans_190 rfl ?_
  refine ev_iload_n dX11_plans_191 rfl ?_
  refine ev_iload dX11_plans_192 rfl ?_
  refine ev_iconst dX11_plans_194 (by decide) ?_
  refine ev_iload dX11_plans_195 rfl ?_
  refine ev_ishl dX11_plans_197 ?_
  refine ev_iconst dX11_plans_198 (by decide) ?_
  refine ev_ixor dX11_plans_199 ?_
  refine ev_iand dX11_plans_200 ?_
  refine ev_iload dX11_plans_201 rfl ?_
  show Ev _ _ _ _ 203 _ _ _ _ _
  obtain ⟨σ22, hc23, h⟩ := bind_of h
  refine ev_invV_n (k := (181 : Int)) (av := [(0, x1), (0, x2), (0, (jand x4 (jxor (jshl (1 : Int) x5) (-1 : Int)))), (0, x5)]) (st := []) (τ := σ22) dX11_plans_203 ml_X11_286 mv_X11_tries (T := TX11) (ci := 10) rfl sp181 (by decide) (by decide) rfl ⟨Nat.le_of_ble_eq_true rfl, Nat.le_of_ble_eq_true rfl⟩ (Nat.le_of_ble_eq_true rfl) (c_X11_tries hc23) ?_
  exact ev_sub (L2 := [(2, (181 : Int)), (0, x1), (0, x2), (9, 0), (0, x4), (0, x5)]) (e_X11_plans_206 σ22 x1 x2 x4 x5 h K) ⟨.inr rfl, .inr rfl, .inr rfl, .inl rfl, .inr rfl, .inr rfl, trivial⟩
set_option maxHeartbeats 4000000 in
set_option maxRecDepth 20000 in
theorem e_X11_plans_142 (σ : Mem) (x1 x2 x4 x5 : Int)  {q : ((Int × Mem) ⊕ ((Mem)))} (h : f_X11_plans_142 σ x1 x2 x4 x5 = some q) {r : Option V × Mem × Mem} (K : K_X11_plans_2 x1 r q) : Ev M_X11_plans 218 218 r 142 218 rho σ [(2, (181 : Int)), (0, x1), (0, x2), (9, 0), (0, x4), (0, x5)] [] := by
  unfold f_X11_plans_142 at h
  obtain ⟨e, hl, h⟩ := bind_of h
  refine loop_ev (K := K_X11_plans_142 x1 x2 x4 r) (b_X11_plans_142 x1 x2 x4) FU (x5, σ) e hl ?_
  show Ev M_X11_plans 218 218 r 212 218 rho e [(2, (181 : Int)), (0, x1), (0, x2), (9, 0), (9, 0), (9, 0)] []
  replace h : f_X11_plans_212 e x1 x2 = some q := h
  exact ev_sub (L2 := [(2, (181 : Int)), (0, x1), (0, x2), (9, 0), (9, 0), (9, 0)]) (e_X11_plans_212 e x1 x2 h K) ⟨.inr rfl, .inr rfl, .inr rfl, .inl rfl, .inl rfl, .inl rfl, trivial⟩
set_option maxHeartbeats 4000000 in
set_option maxRecDepth 20000 in
theorem e_X11_plans_69 (σ : Mem) (x1 x2 s2 s1 : Int)  {q : ((Int × Mem) ⊕ ((Mem)))} (h : f_X11_plans_69 σ x1 x2 s2 s1 = some q) {r : Option V × Mem × Mem} (K : K_X11_plans_2 x1 r q) : Ev M_X11_plans 218 218 r 69 218 rho σ [(2, (181 : Int)), (0, x1), (0, x2), (9, 0), (9, 0), (9, 0)] [(0, s2), (0, s1), (2, (198 : Int))] := by
  unfold f_X11_plans_69 at h
  refine ev_iastG dX11_plans_69 sp198 (by decide) (by decide) h (fun σ6 h => ?_)
  refine ev_aload_n dX11_plans_70 rfl (by decide) ?_
  refine ev_getf (j := 19) (t := 2) (x := (195 : Int)) dX11_plans_71 cf_X11 wf_X11_51 sp181 (by decide) (by decide) rfl (by decide) (rp181_19 _) ?_
  refine ev_iload_n dX11_plans_74 rfl ?_
  refine ev_iconst dX11_plans_75 (by decide) ?_
  refine ev_iastG dX11_plans_76 sp195 (by decide) (by decide) h (fun σ7 h => ?_)
  refine ev_aload_n dX11_plans_77 rfl (by decide) ?_
  refine ev_getf (j := 20) (t := 2) (x := (196 : Int)) dX11_plans_78 cf_X11 wf_X11_54 sp181 (by decide) (by decide) rfl (by decide) (rp181_20 _) ?_
  refine ev_iload_n dX11_plans_81 rfl ?_
  refine ev_iconst dX11_plans_82 (by decide) ?_
  refine ev_iastG dX11_plans_83 sp196 (by decide) (by decide) h (fun σ8 h => ?_)
  show Ev _ _ _ _ 84 _ _ _ _ _
  refine ev_aload_n dX11_plans_84 rfl (by decide) ?_
  refine ev_getf (j := 21) (t := 2) (x := (197 : Int)) dX11_plans_85 cf_X11 wf_X11_57 sp181 (by decide) (by decide) rfl (by decide) (rp181_21 _) ?_
  refine ev_iload_n dX11_plans_88 rfl ?_
  refine ev_iconst dX11_plans_89 (by decide) ?_
  refine ev_iastG dX11_plans_90 sp197 (by decide) (by decide) h (fun σ9 h => ?_)
  refine ev_aload_n dX11_plans_91 rfl (by decide) ?_
  refine ev_getf (j := 24) (t := 2) (x := (200 : Int)) dX11_plans_92 cf_X11 wf_X11_66 sp181 (by decide) (by decide) rfl (by decide) (rp181_24 _) ?_
  refine ev_iload_n dX11_plans_95 rfl ?_
  refine ev_iconst dX11_plans_96 (by decide) ?_
  refine ev_iastG dX11_plans_97 sp200 (by decide) (by decide) h (fun σ10 h => ?_)
  refine ev_aload_n dX11_plans_98 rfl (by decide) ?_
  refine ev_iload_n dX11_plans_99 rfl ?_
  show Ev _ _ _ _ 100 _ _ _ _ _
  refine ev_iload_n dX11_plans_100 rfl ?_
  obtain ⟨v11, hc12, h⟩ := bind_of h
  refine ev_invV_v (k := (181 : Int)) (av := [(0, x1), (0, x2)]) (st := []) (v := (0, v11)) (τ := σ10) dX11_plans_101 ml_X11_188 mv_X11_ofDay (T := TX11) (ci := 10) rfl sp181 (by decide) (by decide) rfl ⟨Nat.le_of_ble_eq_true rfl, Nat.le_of_ble_eq_true rfl⟩ (Nat.le_of_ble_eq_true rfl) (c_X11_ofDay hc12) ?_
  refine ev_istore dX11_plans_104 rfl (by decide) ?_
  show Ev _ _ _ _ 106 _ _ _ [(2, (181 : Int)), (0, x1), (0, x2), (9, 0), (0, v11), (9, 0)] _
  refine ev_aload_n dX11_plans_106 rfl (by decide) ?_
  refine ev_iload_n dX11_plans_107 rfl ?_
  refine ev_iload_n dX11_plans_108 rfl ?_
  refine ev_iload dX11_plans_109 rfl ?_
  refine ev_iconst dX11_plans_111 (by decide) ?_
  obtain ⟨σ13, hc14, h⟩ := bind_of h
  refine ev_invV_n (k := (181 : Int)) (av := [(0, x1), (0, x2), (0, v11), (0, (-1 : Int))]) (st := []) (τ := σ13) dX11_plans_112 ml_X11_286 mv_X11_tries (T := TX11) (ci := 10) rfl sp181 (by decide) (by decide) rfl ⟨Nat.le_of_ble_eq_true rfl, Nat.le_of_ble_eq_true rfl⟩ (Nat.le_of_ble_eq_true rfl) (c_X11_tries hc14) ?_
  refine ev_aload_n dX11_plans_115 rfl (by decide) ?_
  refine ev_getf (j := 19) (t := 2) (x := (195 : Int)) dX11_plans_116 cf_X11 wf_X11_51 sp181 (by decide) (by decide) rfl (by decide) (rp181_19 _) ?_
  refine ev_iload_n dX11_plans_119 rfl ?_
  show Ev _ _ _ _ 120 _ _ _ _ _
  refine ev_iald dX11_plans_120 sp195 (by decide) (by decide) h (fun h => ?_)
  refine ev_if_ne (tgt := 212) dX11_plans_121 rfl h (fun cb h => ?_) (fun cb h => ?_)
  · exact ev_sub (L2 := [(2, (181 : Int)), (0, x1), (0, x2), (9, 0), (9, 0), (9, 0)]) (e_X11_plans_212 σ13 x1 x2 h K) ⟨.inr rfl, .inr rfl, .inr rfl, .inl rfl, .inl rfl, .inl rfl, trivial⟩
  refine ev_aload_n dX11_plans_124 rfl (by decide) ?_
  refine ev_iload_n dX11_plans_125 rfl ?_
  refine ev_iconst dX11_plans_126 (by decide) ?_
  obtain ⟨v15, hc16, h⟩ := bind_of h
  refine ev_invV_v (k := (181 : Int)) (av := [(0, x1), (0, (2 : Int))]) (st := []) (v := (0, v15)) (τ := σ13) dX11_plans_127 ml_X11_128 mv_X11_who (T := TX11) (ci := 10) rfl sp181 (by decide) (by decide) rfl ⟨Nat.le_of_ble_eq_true rfl, Nat.le_of_ble_eq_true rfl⟩ (Nat.le_of_ble_eq_true rfl) (c_X11_who hc16) ?_
  refine ev_iconst dX11_plans_130 (by decide) ?_
  refine ev_icmp_ne (tgt := 212) dX11_plans_131 rfl h (fun cb h => ?_) (fun cb h => ?_)
  · exact ev_sub (L2 := [(2, (181 : Int)), (0, x1), (0, x2), (9, 0), (9, 0), (9, 0)]) (e_X11_plans_212 σ13 x1 x2 h K) ⟨.inr rfl, .inr rfl, .inr rfl, .inl rfl, .inl rfl, .inl rfl, trivial⟩
  refine ev_iload_n dX11_plans_134 rfl ?_
  refine ev_iconst dX11_plans_135 (by decide) ?_
  refine ev_icmp_ge (tgt := 212) dX11_plans_136 rfl h (fun cb h => ?_) (fun cb h => ?_)
  · exact ev_sub (L2 := [(2, (181 : Int)), (0, x1), (0, x2), (9, 0), (9, 0), (9, 0)]) (e_X11_plans_212 σ13 x1 x2 h K) ⟨.inr rfl, .inr rfl, .inr rfl, .inl rfl, .inl rfl, .inl rfl, trivial⟩
  refine ev_iconst dX11_plans_139 (by decide) ?_
  refine ev_istore dX11_plans_140 rfl (by decide) ?_
  show Ev _ _ _ _ 142 _ _ _ [(2, (181 : Int)), (0, x1), (0, x2), (9, 0), (0, v11), (0, (0 : Int))] _
  exact ev_sub (L2 := [(2, (181 : Int)), (0, x1), (0, x2), (9, 0), (0, v11), (0, (0 : Int))]) (e_X11_plans_142 σ13 x1 x2 v11 (0 : Int) h K) ⟨.inr rfl, .inr rfl, .inr rfl, .inl rfl, .inr rfl, .inr rfl, trivial⟩
set_option maxHeartbeats 4000000 in
set_option maxRecDepth 20000 in
theorem e_X11_plans_43 (σ : Mem) (x1 x2 x3 s2 s1 : Int)  {q : ((Int × Mem) ⊕ ((Mem)))} (h : f_X11_plans_43 σ x1 x2 x3 s2 s1 = some q) {r : Option V × Mem × Mem} (K : K_X11_plans_2 x1 r q) : Ev M_X11_plans 218 218 r 43 218 rho σ [(2, (181 : Int)), (0, x1), (0, x2), (0, x3), (9, 0), (9, 0)] [(0, s2), (0, s1), (2, (199 : Int))] := by
  unfold f_X11_plans_43 at h
  refine ev_iastG dX11_plans_43 sp199 (by decide) (by decide) h (fun σ3 h => ?_)
  refine ev_aload_n dX11_plans_44 rfl (by decide) ?_
  refine ev_getf (j := 22) (t := 2) (x := (198 : Int)) dX11_plans_45 cf_X11 wf_X11_60 sp181 (by decide) (by decide) rfl (by decide) (rp181_22 _) ?_
  refine ev_iload_n dX11_plans_48 rfl ?_
  refine ev_iload_n dX11_plans_49 rfl ?_
  refine ev_if_ge (tgt := 57) dX11_plans_50 rfl h (fun cb h => ?_) (fun cb h => ?_)
  · refine ev_aload_n dX11_plans_57 rfl (by decide) ?_
    refine ev_getf (j := 23) (t := 2) (x := (199 : Int)) dX11_plans_58 cf_X11 wf_X11_63 sp181 (by decide) (by decide) rfl (by decide) (rp181_23 _) ?_
    refine ev_iload_n dX11_plans_61 rfl ?_
    refine ev_iald dX11_plans_62 sp199 (by decide) (by decide) h (fun h => ?_)
    refine ev_aload_n dX11_plans_63 rfl (by decide) ?_
    refine ev_iload_n dX11_plans_64 rfl ?_
    obtain ⟨v4, hc5, h⟩ := bind_of h
    refine ev_invV_v (k := (181 : Int)) (av := [(0, x1)]) (st := [(0, (σ3 (199 : Int) x2)), (0, x2), (2, (198 : Int))]) (v := (0, v4)) (τ := σ3) dX11_plans_65 ml_X11_252 mv_X11_rest (T := TX11) (ci := 10) rfl sp181 (by decide) (by decide) rfl ⟨Nat.le_of_ble_eq_true rfl, Nat.le_of_ble_eq_true rfl⟩ (Nat.le_of_ble_eq_true rfl) (c_X11_rest hc5) ?_
    refine ev_iadd dX11_plans_68 ?_
    exact ev_sub (L2 := [(2, (181 : Int)), (0, x1), (0, x2), (9, 0), (9, 0), (9, 0)]) (e_X11_plans_69 σ3 x1 x2 (jadd (σ3 (199 : Int) x2) v4) x2 h K) ⟨.inr rfl, .inr rfl, .inr rfl, .inl rfl, .inl rfl, .inl rfl, trivial⟩
  refine ev_iconst dX11_plans_53 (by decide) ?_
  refine ev_goto (tgt := 69) dX11_plans_54 rfl ?_
  exact ev_sub (L2 := [(2, (181 : Int)), (0, x1), (0, x2), (9, 0), (9, 0), (9, 0)]) (e_X11_plans_69 σ3 x1 x2 (0 : Int) x2 h K) ⟨.inr rfl, .inr rfl, .inr rfl, .inl rfl, .inl rfl, .inl rfl, trivial⟩
set_option maxHeartbeats 4000000 in
set_option maxRecDepth 20000 in
theorem e_X11_plans_23 (σ : Mem) (x1 x2 s0 : Int)  {q : ((Int × Mem) ⊕ ((Mem)))} (h : f_X11_plans_23 σ x1 x2 s0 = some q) {r : Option V × Mem × Mem} (K : K_X11_plans_2 x1 r q) : Ev M_X11_plans 218 218 r 23 218 rho σ [(2, (181 : Int)), (0, x1), (0, x2), (9, 0), (9, 0), (9, 0)] [(0, s0)] := by
  unfold f_X11_plans_23 at h
  refine ev_istore_n dX11_plans_23 rfl (by decide) ?_
  show Ev _ _ _ _ 24 _ _ _ [(2, (181 : Int)), (0, x1), (0, x2), (0, s0), (9, 0), (9, 0)] _
  refine ev_aload_n dX11_plans_24 rfl (by decide) ?_
  refine ev_getf (j := 23) (t := 2) (x := (199 : Int)) dX11_plans_25 cf_X11 wf_X11_63 sp181 (by decide) (by decide) rfl (by decide) (rp181_23 _) ?_
  refine ev_iload_n dX11_plans_28 rfl ?_
  refine ev_iload_n dX11_plans_29 rfl ?_
  refine ev_if_ge (tgt := 37) dX11_plans_30 rfl h (fun cb h => ?_) (fun cb h => ?_)
  · refine ev_aload_n dX11_plans_37 rfl (by decide) ?_
    refine ev_iload_n dX11_plans_38 rfl ?_
    refine ev_iload_n dX11_plans_39 rfl ?_
    obtain ⟨v1, hc2, h⟩ := bind_of h
    refine ev_invV_v (k := (181 : Int)) (av := [(0, x1), (0, s0)]) (st := [(0, x2), (2, (199 : Int))]) (v := (0, v1)) (τ := σ) dX11_plans_40 ml_X11_263 mv_X11_timed (T := TX11) (ci := 10) rfl sp181 (by decide) (by decide) rfl ⟨Nat.le_of_ble_eq_true rfl, Nat.le_of_ble_eq_true rfl⟩ (Nat.le_of_ble_eq_true rfl) (c_X11_timed hc2) ?_
    exact ev_sub (L2 := [(2, (181 : Int)), (0, x1), (0, x2), (0, s0), (9, 0), (9, 0)]) (e_X11_plans_43 σ x1 x2 s0 v1 x2 h K) ⟨.inr rfl, .inr rfl, .inr rfl, .inr rfl, .inl rfl, .inl rfl, trivial⟩
  refine ev_iconst dX11_plans_33 (by decide) ?_
  refine ev_goto (tgt := 43) dX11_plans_34 rfl ?_
  exact ev_sub (L2 := [(2, (181 : Int)), (0, x1), (0, x2), (0, s0), (9, 0), (9, 0)]) (e_X11_plans_43 σ x1 x2 s0 (0 : Int) x2 h K) ⟨.inr rfl, .inr rfl, .inr rfl, .inr rfl, .inl rfl, .inl rfl, trivial⟩
set_option maxHeartbeats 4000000 in
set_option maxRecDepth 20000 in
theorem b_X11_plans_2 (x1 : Int)  {r : Option V × Mem × Mem} : ∀ a x, f_X11_plans_2B x1 a = some x → K_X11_plans_2 x1 r x → K_X11_plans_2 x1 r (.inl a) := by
  intro a x h K
  obtain ⟨x2, σ⟩ := a
  have h : f_X11_plans_2C x1 x2 σ = some x := h
  unfold f_X11_plans_2C at h
  show Ev M_X11_plans 218 218 r 2 218 rho σ [(2, (181 : Int)), (0, x1), (0, x2), (9, 0), (9, 0), (9, 0)] []
  refine ev_iload_n dX11_plans_2 rfl ?_
  refine ev_iconst dX11_plans_3 (by decide) ?_
  refine ev_icmp_ge (tgt := 218) dX11_plans_4 rfl h (fun cb h => ?_) (fun cb h => ?_)
  · obtain rfl := Option.some.inj h
    exact ev_sub (L2 := [(9, 0), (9, 0), (9, 0), (9, 0), (9, 0), (9, 0)]) K ⟨.inl rfl, .inl rfl, .inl rfl, .inl rfl, .inl rfl, .inl rfl, trivial⟩
  refine ev_iload_n dX11_plans_7 rfl ?_
  refine ev_if_ne (tgt := 15) dX11_plans_8 rfl h (fun cb h => ?_) (fun cb h => ?_)
  · refine ev_aload_n dX11_plans_15 rfl (by decide) ?_
    refine ev_getf (j := 21) (t := 2) (x := (197 : Int)) dX11_plans_16 cf_X11 wf_X11_57 sp181 (by decide) (by decide) rfl (by decide) (rp181_21 _) ?_
    refine ev_iload_n dX11_plans_19 rfl ?_
    refine ev_iconst dX11_plans_20 (by decide) ?_
    refine ev_isub dX11_plans_21 ?_
    refine ev_iald dX11_plans_22 sp197 (by decide) (by decide) h (fun h => ?_)
    exact ev_sub (L2 := [(2, (181 : Int)), (0, x1), (0, x2), (9, 0), (9, 0), (9, 0)]) (e_X11_plans_23 σ x1 x2 (σ (197 : Int) (jsub x2 (1 : Int))) h K) ⟨.inr rfl, .inr rfl, .inr rfl, .inl rfl, .inl rfl, .inl rfl, trivial⟩
  refine ev_iconst dX11_plans_11 (by decide) ?_
  refine ev_goto (tgt := 23) dX11_plans_12 rfl ?_
  exact ev_sub (L2 := [(2, (181 : Int)), (0, x1), (0, x2), (9, 0), (9, 0), (9, 0)]) (e_X11_plans_23 σ x1 x2 (-1 : Int) h K) ⟨.inr rfl, .inr rfl, .inr rfl, .inl rfl, .inl rfl, .inl rfl, trivial⟩
set_option maxHeartbeats 4000000 in
set_option maxRecDepth 20000 in
theorem e_X11_plans_2 (σ : Mem) (x1 x2 : Int)  {q : Mem} (h : f_X11_plans_2 σ x1 x2 = some q) : Ev M_X11_plans 218 218 (none, rho, q) 2 218 rho σ [(2, (181 : Int)), (0, x1), (0, x2), (9, 0), (9, 0), (9, 0)] [] := by
  unfold f_X11_plans_2 at h
  obtain ⟨e, hl, h⟩ := bind_of h
  refine loop_ev (K := K_X11_plans_2 x1 (none, rho, q)) (b_X11_plans_2 x1) FU (x2, σ) e hl ?_
  show Ev M_X11_plans 218 218 _ 218 218 rho e [(9, 0), (9, 0), (9, 0), (9, 0), (9, 0), (9, 0)] []
  replace h : some e = some q := h
  obtain rfl := Option.some.inj h
  exact ev_vret dX11_plans_218 rfl rfl
set_option maxHeartbeats 4000000 in
set_option maxRecDepth 20000 in
theorem c_X11_plans {σ : Mem} {x1 : Int}  {q : Mem} (h : f_X11_plans σ x1 = some q) : Ms yX11_plans M_X11_plans 218 218 [(2, (181 : Int)), (0, x1)] rho σ (none, rho, q) := by
  refine Ms.of 4 (by decide +kernel) rfl (fun z => absurd z (by decide)) (fun _ _ _ => trivial) rfl rfl ?_
  unfold f_X11_plans at h
  show Ev M_X11_plans 218 218 _ 0 218 rho σ [(2, (181 : Int)), (0, x1), (9, 0), (9, 0), (9, 0), (9, 0)] []
  refine ev_iconst dX11_plans_0 (by decide) ?_
  refine ev_istore_n dX11_plans_1 rfl (by decide) ?_
  show Ev _ _ _ _ 2 _ _ _ [(2, (181 : Int)), (0, x1), (0, (0 : Int)), (9, 0), (9, 0), (9, 0)] _
  exact ev_sub (L2 := [(2, (181 : Int)), (0, x1), (0, (0 : Int)), (9, 0), (9, 0), (9, 0)]) (e_X11_plans_2 σ x1 (0 : Int) h) ⟨.inr rfl, .inr rfl, .inr rfl, .inl rfl, .inl rfl, .inl rfl, trivial⟩
def K_X11_cants_9 (σ : Mem) (r : Option V × Mem × Mem) : (Int × Int) ⊕ ((Int)) → Prop := Sum.elim (fun a => Ev M_X11_cants 218 218 r 9 218 rho σ [(2, (181 : Int)), (9, 0), (0, a.1), (0, a.2)] []) (fun e => Ev M_X11_cants 218 218 r 31 218 rho σ [(9, 0), (9, 0), (0, e), (9, 0)] [])
set_option maxHeartbeats 4000000 in
set_option maxRecDepth 20000 in
theorem b_X11_cants_9 (σ : Mem)  {r : Option V × Mem × Mem} : ∀ a x, f_X11_cants_9B σ a = some x → K_X11_cants_9 σ r x → K_X11_cants_9 σ r (.inl a) := by
  intro a x h K
  obtain ⟨x2, x3⟩ := a
  have h : f_X11_cants_9C σ x2 x3 = some x := h
  unfold f_X11_cants_9C at h
  show Ev M_X11_cants 218 218 r 9 218 rho σ [(2, (181 : Int)), (9, 0), (0, x2), (0, x3)] []
  refine ev_iload_n dX11_cants_9 rfl ?_
  refine ev_iconst dX11_cants_10 (by decide) ?_
  refine ev_icmp_ge (tgt := 31) dX11_cants_11 rfl h (fun cb h => ?_) (fun cb h => ?_)
  · obtain rfl := Option.some.inj h
    exact ev_sub (L2 := [(9, 0), (9, 0), (0, x2), (9, 0)]) K ⟨.inl rfl, .inl rfl, .inr rfl, .inl rfl, trivial⟩
  refine ev_iload_n dX11_cants_14 rfl ?_
  refine ev_iconst dX11_cants_15 (by decide) ?_
  refine ev_aload_n dX11_cants_16 rfl (by decide) ?_
  refine ev_getf (j := 19) (t := 2) (x := (195 : Int)) dX11_cants_17 cf_X11 wf_X11_51 sp181 (by decide) (by decide) rfl (by decide) (rp181_19 _) ?_
  refine ev_iload_n dX11_cants_20 rfl ?_
  refine ev_iald dX11_cants_21 sp195 (by decide) (by decide) h (fun h => ?_)
  refine ev_isub dX11_cants_22 ?_
  refine ev_iadd dX11_cants_23 ?_
  refine ev_istore_nG dX11_cants_24 h rfl (by decide) (fun v3 h => ?_)
  show Ev _ _ _ _ 25 _ _ _ [(2, (181 : Int)), (9, 0), (0, v3), (0, x3)] _
  refine ev_iincG dX11_cants_25 rfl h rfl (fun v4 h => ?_)
  show Ev _ _ _ _ 28 _ _ _ [(2, (181 : Int)), (9, 0), (0, v3), (0, v4)] _
  refine ev_goto (tgt := 9) dX11_cants_28 rfl ?_
  obtain rfl := Option.some.inj h
  exact ev_sub (L2 := [(2, (181 : Int)), (9, 0), (0, v3), (0, v4)]) K ⟨.inr rfl, .inl rfl, .inr rfl, .inr rfl, trivial⟩
set_option maxHeartbeats 4000000 in
set_option maxRecDepth 20000 in
theorem e_X11_cants_9 (σ : Mem) (x2 x3 : Int)  {q : (Int × Mem)} (h : f_X11_cants_9 σ x2 x3 = some q) : Ev M_X11_cants 218 218 (some (0, q.1), rho, q.2) 9 218 rho σ [(2, (181 : Int)), (9, 0), (0, x2), (0, x3)] [] := by
  unfold f_X11_cants_9 at h
  obtain ⟨e, hl, h⟩ := bind_of h
  refine loop_ev (K := K_X11_cants_9 σ (some (0, q.1), rho, q.2)) (b_X11_cants_9 σ) FU (x2, x3) e hl ?_
  show Ev M_X11_cants 218 218 _ 31 218 rho σ [(9, 0), (9, 0), (0, e), (9, 0)] []
  replace h : some (e, σ) = some q := h
  refine ev_iload_n dX11_cants_31 rfl ?_
  obtain rfl := Option.some.inj h
  dsimp only
  exact ev_iret dX11_cants_32 rfl rfl
set_option maxHeartbeats 4000000 in
set_option maxRecDepth 20000 in
theorem c_X11_cants {σ : Mem} {x1 : Int}  {q : (Int × Mem)} (h : f_X11_cants σ x1 = some q) : Ms yX11_cants M_X11_cants 218 218 [(2, (181 : Int)), (0, x1)] rho σ (some (0, q.1), rho, q.2) := by
  refine Ms.of 2 (by decide +kernel) rfl (fun z => absurd z (by decide)) (fun _ _ _ => trivial) rfl rfl ?_
  unfold f_X11_cants at h
  show Ev M_X11_cants 218 218 _ 0 218 rho σ [(2, (181 : Int)), (0, x1), (9, 0), (9, 0)] []
  refine ev_aload_n dX11_cants_0 rfl (by decide) ?_
  refine ev_iload_n dX11_cants_1 rfl ?_
  obtain ⟨σ1, hc2, h⟩ := bind_of h
  refine ev_invV_n (k := (181 : Int)) (av := [(0, x1)]) (st := []) (τ := σ1) dX11_cants_2 ml_X11_290 mv_X11_plans (T := TX11) (ci := 10) rfl sp181 (by decide) (by decide) rfl ⟨Nat.le_of_ble_eq_true rfl, Nat.le_of_ble_eq_true rfl⟩ (Nat.le_of_ble_eq_true rfl) (c_X11_plans hc2) ?_
  refine ev_iconst dX11_cants_5 (by decide) ?_
  refine ev_istore_n dX11_cants_6 rfl (by decide) ?_
  show Ev _ _ _ _ 7 _ _ _ [(2, (181 : Int)), (0, x1), (0, (0 : Int)), (9, 0)] _
  refine ev_iconst dX11_cants_7 (by decide) ?_
  refine ev_istore_n dX11_cants_8 rfl (by decide) ?_
  show Ev _ _ _ _ 9 _ _ _ [(2, (181 : Int)), (0, x1), (0, (0 : Int)), (0, (0 : Int))] _
  exact ev_sub (L2 := [(2, (181 : Int)), (9, 0), (0, (0 : Int)), (0, (0 : Int))]) (e_X11_cants_9 σ1 (0 : Int) (0 : Int) h) ⟨.inr rfl, .inl rfl, .inr rfl, .inr rfl, trivial⟩
def K_X11_keptInAll_9 (σ : Mem) (r : Option V × Mem × Mem) : (Int × Int) ⊕ ((Int)) → Prop := Sum.elim (fun a => Ev M_X11_keptInAll 218 218 r 9 218 rho σ [(2, (181 : Int)), (9, 0), (0, a.1), (0, a.2)] []) (fun e => Ev M_X11_keptInAll 218 218 r 29 218 rho σ [(9, 0), (9, 0), (0, e), (9, 0)] [])
set_option maxHeartbeats 4000000 in
set_option maxRecDepth 20000 in
theorem b_X11_keptInAll_9 (σ : Mem)  {r : Option V × Mem × Mem} : ∀ a x, f_X11_keptInAll_9B σ a = some x → K_X11_keptInAll_9 σ r x → K_X11_keptInAll_9 σ r (.inl a) := by
  intro a x h K
  obtain ⟨x2, x3⟩ := a
  have h : f_X11_keptInAll_9C σ x2 x3 = some x := h
  unfold f_X11_keptInAll_9C at h
  show Ev M_X11_keptInAll 218 218 r 9 218 rho σ [(2, (181 : Int)), (9, 0), (0, x2), (0, x3)] []
  refine ev_iload_n dX11_keptInAll_9 rfl ?_
  refine ev_iconst dX11_keptInAll_10 (by decide) ?_
  refine ev_icmp_ge (tgt := 29) dX11_keptInAll_11 rfl h (fun cb h => ?_) (fun cb h => ?_)
  · obtain rfl := Option.some.inj h
    exact ev_sub (L2 := [(9, 0), (9, 0), (0, x2), (9, 0)]) K ⟨.inl rfl, .inl rfl, .inr rfl, .inl rfl, trivial⟩
  refine ev_iload_n dX11_keptInAll_14 rfl ?_
  refine ev_aload_n dX11_keptInAll_15 rfl (by decide) ?_
  refine ev_getf (j := 20) (t := 2) (x := (196 : Int)) dX11_keptInAll_16 cf_X11 wf_X11_54 sp181 (by decide) (by decide) rfl (by decide) (rp181_20 _) ?_
  refine ev_iload_n dX11_keptInAll_19 rfl ?_
  refine ev_iald dX11_keptInAll_20 sp196 (by decide) (by decide) h (fun h => ?_)
  refine ev_iadd dX11_keptInAll_21 ?_
  refine ev_istore_nG dX11_keptInAll_22 h rfl (by decide) (fun v3 h => ?_)
  show Ev _ _ _ _ 23 _ _ _ [(2, (181 : Int)), (9, 0), (0, v3), (0, x3)] _
  refine ev_iincG dX11_keptInAll_23 rfl h rfl (fun v4 h => ?_)
  show Ev _ _ _ _ 26 _ _ _ [(2, (181 : Int)), (9, 0), (0, v3), (0, v4)] _
  refine ev_goto (tgt := 9) dX11_keptInAll_26 rfl ?_
  obtain rfl := Option.some.inj h
  exact ev_sub (L2 := [(2, (181 : Int)), (9, 0), (0, v3), (0, v4)]) K ⟨.inr rfl, .inl rfl, .inr rfl, .inr rfl, trivial⟩
set_option maxHeartbeats 4000000 in
set_option maxRecDepth 20000 in
theorem e_X11_keptInAll_9 (σ : Mem) (x2 x3 : Int)  {q : (Int × Mem)} (h : f_X11_keptInAll_9 σ x2 x3 = some q) : Ev M_X11_keptInAll 218 218 (some (0, q.1), rho, q.2) 9 218 rho σ [(2, (181 : Int)), (9, 0), (0, x2), (0, x3)] [] := by
  unfold f_X11_keptInAll_9 at h
  obtain ⟨e, hl, h⟩ := bind_of h
  refine loop_ev (K := K_X11_keptInAll_9 σ (some (0, q.1), rho, q.2)) (b_X11_keptInAll_9 σ) FU (x2, x3) e hl ?_
  show Ev M_X11_keptInAll 218 218 _ 29 218 rho σ [(9, 0), (9, 0), (0, e), (9, 0)] []
  replace h : some (e, σ) = some q := h
  refine ev_iload_n dX11_keptInAll_29 rfl ?_
  obtain rfl := Option.some.inj h
  dsimp only
  exact ev_iret dX11_keptInAll_30 rfl rfl
set_option maxHeartbeats 4000000 in
set_option maxRecDepth 20000 in
theorem c_X11_keptInAll {σ : Mem} {x1 : Int}  {q : (Int × Mem)} (h : f_X11_keptInAll σ x1 = some q) : Ms yX11_keptInAll M_X11_keptInAll 218 218 [(2, (181 : Int)), (0, x1)] rho σ (some (0, q.1), rho, q.2) := by
  refine Ms.of 2 (by decide +kernel) rfl (fun z => absurd z (by decide)) (fun _ _ _ => trivial) rfl rfl ?_
  unfold f_X11_keptInAll at h
  show Ev M_X11_keptInAll 218 218 _ 0 218 rho σ [(2, (181 : Int)), (0, x1), (9, 0), (9, 0)] []
  refine ev_aload_n dX11_keptInAll_0 rfl (by decide) ?_
  refine ev_iload_n dX11_keptInAll_1 rfl ?_
  obtain ⟨σ1, hc2, h⟩ := bind_of h
  refine ev_invV_n (k := (181 : Int)) (av := [(0, x1)]) (st := []) (τ := σ1) dX11_keptInAll_2 ml_X11_290 mv_X11_plans (T := TX11) (ci := 10) rfl sp181 (by decide) (by decide) rfl ⟨Nat.le_of_ble_eq_true rfl, Nat.le_of_ble_eq_true rfl⟩ (Nat.le_of_ble_eq_true rfl) (c_X11_plans hc2) ?_
  refine ev_iconst dX11_keptInAll_5 (by decide) ?_
  refine ev_istore_n dX11_keptInAll_6 rfl (by decide) ?_
  show Ev _ _ _ _ 7 _ _ _ [(2, (181 : Int)), (0, x1), (0, (0 : Int)), (9, 0)] _
  refine ev_iconst dX11_keptInAll_7 (by decide) ?_
  refine ev_istore_n dX11_keptInAll_8 rfl (by decide) ?_
  show Ev _ _ _ _ 9 _ _ _ [(2, (181 : Int)), (0, x1), (0, (0 : Int)), (0, (0 : Int))] _
  exact ev_sub (L2 := [(2, (181 : Int)), (9, 0), (0, (0 : Int)), (0, (0 : Int))]) (e_X11_keptInAll_9 σ1 (0 : Int) (0 : Int) h) ⟨.inr rfl, .inl rfl, .inr rfl, .inr rfl, trivial⟩
def K_X11_isLawful_28 (x1 x2 x4 : Int) (r : Option V × Mem × Mem) : (Int × Mem) ⊕ ((Int × Mem)) → Prop := Sum.elim (fun a => Ev M_X11_isLawful 218 218 r 28 218 rho a.2 [(2, (181 : Int)), (0, x1), (0, x2), (9, 0), (0, x4), (0, a.1)] []) (fun e => Ev M_X11_isLawful 218 218 r 66 218 rho e.2 [(9, 0), (9, 0), (9, 0), (9, 0), (9, 0), (0, e.1)] [])
set_option maxHeartbeats 4000000 in
set_option maxRecDepth 20000 in
theorem b_X11_isLawful_28 (x1 x2 x4 : Int)  {r : Option V × Mem × Mem} : ∀ a x, f_X11_isLawful_28B x1 x2 x4 a = some x → K_X11_isLawful_28 x1 x2 x4 r x → K_X11_isLawful_28 x1 x2 x4 r (.inl a) := by
  intro a x h K
  obtain ⟨x5, σ⟩ := a
  have h : f_X11_isLawful_28C x1 x2 x4 x5 σ = some x := h
  unfold f_X11_isLawful_28C at h
  show Ev M_X11_isLawful 218 218 r 28 218 rho σ [(2, (181 : Int)), (0, x1), (0, x2), (9, 0), (0, x4), (0, x5)] []
  refine ev_iload dX11_isLawful_28 rfl ?_
  refine ev_if_ne (tgt := 66) dX11_isLawful_30 rfl h (fun cb h => ?_) (fun cb h => ?_)
  · obtain rfl := Option.some.inj h
    exact ev_sub (L2 := [(9, 0), (9, 0), (9, 0), (9, 0), (9, 0), (0, x5)]) K ⟨.inl rfl, .inl rfl, .inl rfl, .inl rfl, .inl rfl, .inr rfl, trivial⟩
  refine ev_aload_n dX11_isLawful_33 rfl (by decide) ?_
  refine ev_iload dX11_isLawful_34 rfl ?_
  obtain ⟨v7, hc8, h⟩ := bind_of h
  refine ev_invV_v (k := (181 : Int)) (av := [(0, x4)]) (st := []) (v := (0, v7.1)) (τ := v7.2) dX11_isLawful_36 ml_X11_283 mv_X11_next (T := TX11) (ci := 10) rfl sp181 (by decide) (by decide) rfl ⟨Nat.le_of_ble_eq_true rfl, Nat.le_of_ble_eq_true rfl⟩ (Nat.le_of_ble_eq_true rfl) (c_X11_next hc8) ?_
  refine ev_if_eq (tgt := 66) dX11_isLawful_39 rfl h (fun cb h => ?_) (fun cb h => ?_)
  · obtain rfl := Option.some.inj h
    exact ev_sub (L2 := [(9, 0), (9, 0), (9, 0), (9, 0), (9, 0), (0, x5)]) K ⟨.inl rfl, .inl rfl, .inl rfl, .inl rfl, .inl rfl, .inr rfl, trivial⟩
  refine ev_aload_n dX11_isLawful_42 rfl (by decide) ?_
  refine ev_iload_n dX11_isLawful_43 rfl ?_
  refine ev_iload dX11_isLawful_44 rfl ?_
  refine ev_aload_n dX11_isLawful_46 rfl (by decide) ?_
  refine ev_getf (j := 22) (t := 2) (x := (198 : Int)) dX11_isLawful_47 cf_X11 wf_X11_60 sp181 (by decide) (by decide) rfl (by decide) (rp181_22 _) ?_
  refine ev_iload_n dX11_isLawful_50 rfl ?_
  refine ev_iald dX11_isLawful_51 sp198 (by decide) (by decide) h (fun h => ?_)
  refine ev_aload_n dX11_isLawful_52 rfl (by decide) ?_
  refine ev_getf (j := 23) (t := 2) (x := (199 : Int)) dX11_isLawful_53 cf_X11 wf_X11_63 sp181 (by decide) (by decide) rfl (by decide) (rp181_23 _) ?_
  refine ev_iload_n dX11_isLawful_56 rfl ?_
  refine ev_iald dX11_isLawful_57 sp199 (by decide) (by decide) h (fun h => ?_)
  show Ev _ _ _ _ 58 _ _ _ _ _
  obtain ⟨v9, hc10, h⟩ := bind_of h
  refine ev_invV_v (k := (181 : Int)) (av := [(0, x1), (0, x4), (0, (v7.2 (198 : Int) x2)), (0, (v7.2 (199 : Int) x2))]) (st := []) (v := (0, v9.1)) (τ := v9.2) dX11_isLawful_58 ml_X11_276 mv_X11_isLaid (T := TX11) (ci := 10) rfl sp181 (by decide) (by decide) rfl ⟨Nat.le_of_ble_eq_true rfl, Nat.le_of_ble_eq_true rfl⟩ (Nat.le_of_ble_eq_true rfl) (c_X11_isLaid hc10) ?_
  refine ev_istoreG dX11_isLawful_61 h rfl (by decide) (fun v11 h => ?_)
  show Ev _ _ _ _ 63 _ _ _ [(2, (181 : Int)), (0, x1), (0, x2), (9, 0), (0, x4), (0, v11)] _
  refine ev_goto (tgt := 28) dX11_isLawful_63 rfl ?_
  obtain rfl := Option.some.inj h
  exact ev_sub (L2 := [(2, (181 : Int)), (0, x1), (0, x2), (9, 0), (0, x4), (0, v11)]) K ⟨.inr rfl, .inr rfl, .inr rfl, .inl rfl, .inr rfl, .inr rfl, trivial⟩
set_option maxHeartbeats 4000000 in
set_option maxRecDepth 20000 in
theorem e_X11_isLawful_28 (σ : Mem) (x1 x2 x4 x5 : Int)  {q : (Int × Mem)} (h : f_X11_isLawful_28 σ x1 x2 x4 x5 = some q) : Ev M_X11_isLawful 218 218 (some (0, q.1), rho, q.2) 28 218 rho σ [(2, (181 : Int)), (0, x1), (0, x2), (9, 0), (0, x4), (0, x5)] [] := by
  unfold f_X11_isLawful_28 at h
  obtain ⟨e, hl, h⟩ := bind_of h
  refine loop_ev (K := K_X11_isLawful_28 x1 x2 x4 (some (0, q.1), rho, q.2)) (b_X11_isLawful_28 x1 x2 x4) FU (x5, σ) e hl ?_
  show Ev M_X11_isLawful 218 218 _ 66 218 rho e.2 [(9, 0), (9, 0), (9, 0), (9, 0), (9, 0), (0, e.1)] []
  replace h : chk (e.1 = 0 ∨ e.1 = 1) (some (e.1, e.2)) = some q := h
  refine ev_iload dX11_isLawful_66 rfl ?_
  obtain ⟨hz, h⟩ := chk_of h
  obtain rfl := Option.some.inj h
  exact ev_zret dX11_isLawful_68 rfl (chk_pos hz)
set_option maxHeartbeats 4000000 in
set_option maxRecDepth 20000 in
theorem c_X11_isLawful {σ : Mem} {x1 x2 x3 : Int}  {q : (Int × Mem)} (h : f_X11_isLawful σ x1 x2 x3 = some q) : Ms yX11_isLawful M_X11_isLawful 218 218 [(2, (181 : Int)), (0, x1), (0, x2), (0, x3)] rho σ (some (0, q.1), rho, q.2) := by
  refine Ms.of 2 (by decide +kernel) rfl (fun z => absurd z (by decide)) (fun _ _ _ => trivial) rfl rfl ?_
  unfold f_X11_isLawful at h
  show Ev M_X11_isLawful 218 218 _ 0 218 rho σ [(2, (181 : Int)), (0, x1), (0, x2), (0, x3), (9, 0), (9, 0)] []
  refine ev_aload_n dX11_isLawful_0 rfl (by decide) ?_
  refine ev_iload_n dX11_isLawful_1 rfl ?_
  obtain ⟨v1, hc2, h⟩ := bind_of h
  refine ev_invV_v (k := (181 : Int)) (av := [(0, x3)]) (st := []) (v := (0, v1.1)) (τ := v1.2) dX11_isLawful_2 ml_X11_273 mv_X11_rows (T := TX11) (ci := 10) rfl sp181 (by decide) (by decide) rfl ⟨Nat.le_of_ble_eq_true rfl, Nat.le_of_ble_eq_true rfl⟩ (Nat.le_of_ble_eq_true rfl) (c_X11_rows hc2) ?_
  refine ev_istoreG dX11_isLawful_5 h rfl (by decide) (fun v3 h => ?_)
  show Ev _ _ _ _ 7 _ _ _ [(2, (181 : Int)), (0, x1), (0, x2), (0, x3), (0, v3), (9, 0)] _
  refine ev_aload_n dX11_isLawful_7 rfl (by decide) ?_
  refine ev_iload_n dX11_isLawful_8 rfl ?_
  refine ev_iload dX11_isLawful_9 rfl ?_
  refine ev_aload_n dX11_isLawful_11 rfl (by decide) ?_
  refine ev_getf (j := 22) (t := 2) (x := (198 : Int)) dX11_isLawful_12 cf_X11 wf_X11_60 sp181 (by decide) (by decide) rfl (by decide) (rp181_22 _) ?_
  refine ev_iload_n dX11_isLawful_15 rfl ?_
  refine ev_iald dX11_isLawful_16 sp198 (by decide) (by decide) h (fun h => ?_)
  show Ev _ _ _ _ 17 _ _ _ _ _
  refine ev_aload_n dX11_isLawful_17 rfl (by decide) ?_
  refine ev_getf (j := 23) (t := 2) (x := (199 : Int)) dX11_isLawful_18 cf_X11 wf_X11_63 sp181 (by decide) (by decide) rfl (by decide) (rp181_23 _) ?_
  refine ev_iload_n dX11_isLawful_21 rfl ?_
  refine ev_iald dX11_isLawful_22 sp199 (by decide) (by decide) h (fun h => ?_)
  obtain ⟨v4, hc5, h⟩ := bind_of h
  refine ev_invV_v (k := (181 : Int)) (av := [(0, x1), (0, v3), (0, (v1.2 (198 : Int) x2)), (0, (v1.2 (199 : Int) x2))]) (st := []) (v := (0, v4.1)) (τ := v4.2) dX11_isLawful_23 ml_X11_276 mv_X11_isLaid (T := TX11) (ci := 10) rfl sp181 (by decide) (by decide) rfl ⟨Nat.le_of_ble_eq_true rfl, Nat.le_of_ble_eq_true rfl⟩ (Nat.le_of_ble_eq_true rfl) (c_X11_isLaid hc5) ?_
  refine ev_istoreG dX11_isLawful_26 h rfl (by decide) (fun v6 h => ?_)
  show Ev _ _ _ _ 28 _ _ _ [(2, (181 : Int)), (0, x1), (0, x2), (0, x3), (0, v3), (0, v6)] _
  exact ev_sub (L2 := [(2, (181 : Int)), (0, x1), (0, x2), (9, 0), (0, v3), (0, v6)]) (e_X11_isLawful_28 v4.2 x1 x2 v3 v6 h) ⟨.inr rfl, .inr rfl, .inr rfl, .inl rfl, .inr rfl, .inr rfl, trivial⟩
def K_X11_clash_25 (x1 x2 x3 : Int) (r : Option V × Mem × Mem) : (Int × Int × Mem) ⊕ ((Int × Mem)) → Prop := Sum.elim (fun a => Ev M_X11_clash 218 218 r 25 218 rho a.2.2 [(2, (181 : Int)), (0, x1), (0, x2), (0, x3), (0, a.1), (0, a.2.1)] []) (fun e => Ev M_X11_clash 218 218 r 89 218 rho e.2 [(9, 0), (9, 0), (9, 0), (9, 0), (0, e.1), (9, 0)] [])
set_option maxHeartbeats 4000000 in
set_option maxRecDepth 20000 in
theorem e_X11_clash_78 (σ : Mem) (x1 x2 x3 x4 x5 : Int)  {q : ((Int × Int × Mem) ⊕ ((Int × Mem)))} (h : f_X11_clash_78 σ x1 x2 x3 x4 x5 = some q) {r : Option V × Mem × Mem} (K : K_X11_clash_25 x1 x2 x3 r q) : Ev M_X11_clash 218 218 r 78 218 rho σ [(2, (181 : Int)), (0, x1), (0, x2), (0, x3), (0, x4), (0, x5)] [] := by
  unfold f_X11_clash_78 at h
  refine ev_iload dX11_clash_78 rfl ?_
  refine ev_iconst dX11_clash_80 (by decide) ?_
  refine ev_isub dX11_clash_81 ?_
  refine ev_iload_n dX11_clash_82 rfl ?_
  refine ev_iand dX11_clash_83 ?_
  refine ev_istoreG dX11_clash_84 h rfl (by decide) (fun v13 h => ?_)
  show Ev _ _ _ _ 86 _ _ _ [(2, (181 : Int)), (0, x1), (0, x2), (0, x3), (0, x4), (0, v13)] _
  refine ev_goto (tgt := 25) dX11_clash_86 rfl ?_
  obtain rfl := Option.some.inj h
  exact ev_sub (L2 := [(2, (181 : Int)), (0, x1), (0, x2), (0, x3), (0, x4), (0, v13)]) K ⟨.inr rfl, .inr rfl, .inr rfl, .inr rfl, .inr rfl, .inr rfl, trivial⟩
set_option maxHeartbeats 4000000 in
set_option maxRecDepth 20000 in
theorem e_X11_clash_74 (σ : Mem) (x1 x2 x3 x5 : Int)  {q : ((Int × Int × Mem) ⊕ ((Int × Mem)))} (h : f_X11_clash_74 σ x1 x2 x3 x5 = some q) {r : Option V × Mem × Mem} (K : K_X11_clash_25 x1 x2 x3 r q) : Ev M_X11_clash 218 218 r 74 218 rho σ [(2, (181 : Int)), (0, x1), (0, x2), (0, x3), (9, 0), (0, x5)] [] := by
  unfold f_X11_clash_74 at h
  refine ev_iload dX11_clash_74 rfl ?_
  refine ev_istore dX11_clash_76 rfl (by decide) ?_
  show Ev _ _ _ _ 78 _ _ _ [(2, (181 : Int)), (0, x1), (0, x2), (0, x3), (0, x5), (0, x5)] _
  exact ev_sub (L2 := [(2, (181 : Int)), (0, x1), (0, x2), (0, x3), (0, x5), (0, x5)]) (e_X11_clash_78 σ x1 x2 x3 x5 x5 h K) ⟨.inr rfl, .inr rfl, .inr rfl, .inr rfl, .inr rfl, .inr rfl, trivial⟩
set_option maxHeartbeats 4000000 in
set_option maxRecDepth 20000 in
theorem b_X11_clash_25 (x1 x2 x3 : Int)  {r : Option V × Mem × Mem} : ∀ a x, f_X11_clash_25B x1 x2 x3 a = some x → K_X11_clash_25 x1 x2 x3 r x → K_X11_clash_25 x1 x2 x3 r (.inl a) := by
  intro a x h K
  obtain ⟨x4, x5, σ⟩ := a
  have h : f_X11_clash_25C x1 x2 x3 x4 x5 σ = some x := h
  unfold f_X11_clash_25C at h
  show Ev M_X11_clash 218 218 r 25 218 rho σ [(2, (181 : Int)), (0, x1), (0, x2), (0, x3), (0, x4), (0, x5)] []
  refine ev_iload dX11_clash_25 rfl ?_
  refine ev_if_le (tgt := 89) dX11_clash_27 rfl h (fun cb h => ?_) (fun cb h => ?_)
  · obtain rfl := Option.some.inj h
    exact ev_sub (L2 := [(9, 0), (9, 0), (9, 0), (9, 0), (0, x4), (9, 0)]) K ⟨.inl rfl, .inl rfl, .inl rfl, .inl rfl, .inr rfl, .inl rfl, trivial⟩
  refine ev_aload_n dX11_clash_30 rfl (by decide) ?_
  refine ev_iload_n dX11_clash_31 rfl ?_
  refine ev_iload_n dX11_clash_32 rfl ?_
  refine ev_iload dX11_clash_33 rfl ?_
  obtain ⟨v3, hc4, h⟩ := bind_of h
  refine ev_invV_v (k := (181 : Int)) (av := [(0, x1), (0, x2), (0, x5)]) (st := []) (v := (0, v3.1)) (τ := v3.2) dX11_clash_35 ml_X11_294 mv_X11_isLawful (T := TX11) (ci := 10) rfl sp181 (by decide) (by decide) rfl ⟨Nat.le_of_ble_eq_true rfl, Nat.le_of_ble_eq_true rfl⟩ (Nat.le_of_ble_eq_true rfl) (c_X11_isLawful hc4) ?_
  refine ev_if_ne (tgt := 78) dX11_clash_38 rfl h (fun cb h => ?_) (fun cb h => ?_)
  · exact ev_sub (L2 := [(2, (181 : Int)), (0, x1), (0, x2), (0, x3), (0, x4), (0, x5)]) (e_X11_clash_78 v3.2 x1 x2 x3 x4 x5 h K) ⟨.inr rfl, .inr rfl, .inr rfl, .inr rfl, .inr rfl, .inr rfl, trivial⟩
  refine ev_iload dX11_clash_41 rfl ?_
  obtain ⟨v5, hc6, h⟩ := bind_of h
  refine ev_invS_v (av := [(0, x5)]) (st := []) (v := (0, v5)) (τ := v3.2) dX11_clash_43 ml_X11_191 mt_X11_many rfl ⟨Nat.le_of_ble_eq_true rfl, Nat.le_of_ble_eq_true rfl⟩ (Nat.le_of_ble_eq_true rfl) (c_X11_many hc6) ?_
  refine ev_iload dX11_clash_46 rfl ?_
  obtain ⟨v7, hc8, h⟩ := bind_of h
  refine ev_invS_v (av := [(0, x4)]) (st := [(0, v5)]) (v := (0, v7)) (τ := v3.2) dX11_clash_48 ml_X11_191 mt_X11_many rfl ⟨Nat.le_of_ble_eq_true rfl, Nat.le_of_ble_eq_true rfl⟩ (Nat.le_of_ble_eq_true rfl) (c_X11_many hc8) ?_
  refine ev_icmp_lt (tgt := 74) dX11_clash_51 rfl h (fun cb h => ?_) (fun cb h => ?_)
  · exact ev_sub (L2 := [(2, (181 : Int)), (0, x1), (0, x2), (0, x3), (9, 0), (0, x5)]) (e_X11_clash_74 v3.2 x1 x2 x3 x5 h K) ⟨.inr rfl, .inr rfl, .inr rfl, .inr rfl, .inl rfl, .inr rfl, trivial⟩
  refine ev_iload dX11_clash_54 rfl ?_
  obtain ⟨v9, hc10, h⟩ := bind_of h
  refine ev_invS_v (av := [(0, x5)]) (st := []) (v := (0, v9)) (τ := v3.2) dX11_clash_56 ml_X11_191 mt_X11_many rfl ⟨Nat.le_of_ble_eq_true rfl, Nat.le_of_ble_eq_true rfl⟩ (Nat.le_of_ble_eq_true rfl) (c_X11_many hc10) ?_
  refine ev_iload dX11_clash_59 rfl ?_
  obtain ⟨v11, hc12, h⟩ := bind_of h
  refine ev_invS_v (av := [(0, x4)]) (st := [(0, v9)]) (v := (0, v11)) (τ := v3.2) dX11_clash_61 ml_X11_191 mt_X11_many rfl ⟨Nat.le_of_ble_eq_true rfl, Nat.le_of_ble_eq_true rfl⟩ (Nat.le_of_ble_eq_true rfl) (c_X11_many hc12) ?_
  refine ev_icmp_ne (tgt := 78) dX11_clash_64 rfl h (fun cb h => ?_) (fun cb h => ?_)
  · exact ev_sub (L2 := [(2, (181 : Int)), (0, x1), (0, x2), (0, x3), (0, x4), (0, x5)]) (e_X11_clash_78 v3.2 x1 x2 x3 x4 x5 h K) ⟨.inr rfl, .inr rfl, .inr rfl, .inr rfl, .inr rfl, .inr rfl, trivial⟩
  refine ev_iload dX11_clash_67 rfl ?_
  refine ev_iload dX11_clash_69 rfl ?_
  refine ev_icmp_ge (tgt := 78) dX11_clash_71 rfl h (fun cb h => ?_) (fun cb h => ?_)
  · exact ev_sub (L2 := [(2, (181 : Int)), (0, x1), (0, x2), (0, x3), (0, x4), (0, x5)]) (e_X11_clash_78 v3.2 x1 x2 x3 x4 x5 h K) ⟨.inr rfl, .inr rfl, .inr rfl, .inr rfl, .inr rfl, .inr rfl, trivial⟩
  exact ev_sub (L2 := [(2, (181 : Int)), (0, x1), (0, x2), (0, x3), (9, 0), (0, x5)]) (e_X11_clash_74 v3.2 x1 x2 x3 x5 h K) ⟨.inr rfl, .inr rfl, .inr rfl, .inr rfl, .inl rfl, .inr rfl, trivial⟩
set_option maxHeartbeats 4000000 in
set_option maxRecDepth 20000 in
theorem e_X11_clash_25 (σ : Mem) (x1 x2 x3 x4 x5 : Int)  {q : (Int × Mem)} (h : f_X11_clash_25 σ x1 x2 x3 x4 x5 = some q) : Ev M_X11_clash 218 218 (some (0, q.1), rho, q.2) 25 218 rho σ [(2, (181 : Int)), (0, x1), (0, x2), (0, x3), (0, x4), (0, x5)] [] := by
  unfold f_X11_clash_25 at h
  obtain ⟨e, hl, h⟩ := bind_of h
  refine loop_ev (K := K_X11_clash_25 x1 x2 x3 (some (0, q.1), rho, q.2)) (b_X11_clash_25 x1 x2 x3) FU (x4, x5, σ) e hl ?_
  show Ev M_X11_clash 218 218 _ 89 218 rho e.2 [(9, 0), (9, 0), (9, 0), (9, 0), (0, e.1), (9, 0)] []
  replace h : some (e.1, e.2) = some q := h
  refine ev_iload dX11_clash_89 rfl ?_
  obtain rfl := Option.some.inj h
  dsimp only
  exact ev_iret dX11_clash_91 rfl rfl
set_option maxHeartbeats 4000000 in
set_option maxRecDepth 20000 in
theorem c_X11_clash {σ : Mem} {x1 x2 : Int}  {q : (Int × Mem)} (h : f_X11_clash σ x1 x2 = some q) : Ms yX11_clash M_X11_clash 218 218 [(2, (181 : Int)), (0, x1), (0, x2)] rho σ (some (0, q.1), rho, q.2) := by
  refine Ms.of 3 (by decide +kernel) rfl (fun z => absurd z (by decide)) (fun _ _ _ => trivial) rfl rfl ?_
  unfold f_X11_clash at h
  show Ev M_X11_clash 218 218 _ 0 218 rho σ [(2, (181 : Int)), (0, x1), (0, x2), (9, 0), (9, 0), (9, 0)] []
  refine ev_aload_n dX11_clash_0 rfl (by decide) ?_
  refine ev_getf (j := 19) (t := 2) (x := (195 : Int)) dX11_clash_1 cf_X11 wf_X11_51 sp181 (by decide) (by decide) rfl (by decide) (rp181_19 _) ?_
  refine ev_iload_n dX11_clash_4 rfl ?_
  refine ev_iald dX11_clash_5 sp195 (by decide) (by decide) h (fun h => ?_)
  refine ev_iconst dX11_clash_6 (by decide) ?_
  refine ev_icmp_ne (tgt := 12) dX11_clash_7 rfl h (fun cb h => ?_) (fun cb h => ?_)
  · refine ev_aload_n dX11_clash_12 rfl (by decide) ?_
    refine ev_iload_n dX11_clash_13 rfl ?_
    refine ev_iload_n dX11_clash_14 rfl ?_
    obtain ⟨v1, hc2, h⟩ := bind_of h
    refine ev_invV_v (k := (181 : Int)) (av := [(0, x1), (0, x2)]) (st := []) (v := (0, v1)) (τ := σ) dX11_clash_15 ml_X11_188 mv_X11_ofDay (T := TX11) (ci := 10) rfl sp181 (by decide) (by decide) rfl ⟨Nat.le_of_ble_eq_true rfl, Nat.le_of_ble_eq_true rfl⟩ (Nat.le_of_ble_eq_true rfl) (c_X11_ofDay hc2) ?_
    refine ev_istore_n dX11_clash_18 rfl (by decide) ?_
    show Ev _ _ _ _ 19 _ _ _ [(2, (181 : Int)), (0, x1), (0, x2), (0, v1), (9, 0), (9, 0)] _
    refine ev_iload_n dX11_clash_19 rfl ?_
    refine ev_istore dX11_clash_20 rfl (by decide) ?_
    show Ev _ _ _ _ 22 _ _ _ [(2, (181 : Int)), (0, x1), (0, x2), (0, v1), (0, v1), (9, 0)] _
    refine ev_iload_n dX11_clash_22 rfl ?_
    refine ev_istore dX11_clash_23 rfl (by decide) ?_
    show Ev _ _ _ _ 25 _ _ _ [(2, (181 : Int)), (0, x1), (0, x2), (0, v1), (0, v1), (0, v1)] _
    exact ev_sub (L2 := [(2, (181 : Int)), (0, x1), (0, x2), (0, v1), (0, v1), (0, v1)]) (e_X11_clash_25 σ x1 x2 v1 v1 v1 h) ⟨.inr rfl, .inr rfl, .inr rfl, .inr rfl, .inr rfl, .inr rfl, trivial⟩
  refine ev_iconst dX11_clash_10 (by decide) ?_
  obtain rfl := Option.some.inj h
  dsimp only
  exact ev_iret dX11_clash_11 rfl rfl
def K_X11_doing_60 (σ : Mem) (x1 x2 x3 x4 : Int) (r : Option V × Mem × Mem) : (Int × Int) ⊕ ((Int) ⊕ (Int)) → Prop := Sum.elim (fun a => Ev M_X11_doing 218 218 r 60 218 rho σ [(2, (181 : Int)), (0, x1), (0, x2), (0, x3), (0, x4), (0, a.1), (0, a.2), (9, 0), (9, 0)] []) (Sum.elim (fun e => Ev M_X11_doing 218 218 r 113 218 rho σ [(9, 0), (9, 0), (9, 0), (9, 0), (9, 0), (9, 0), (9, 0), (0, e), (9, 0)] []) (fun e => Ev M_X11_doing 218 218 r 150 218 rho σ [(9, 0), (9, 0), (9, 0), (9, 0), (9, 0), (0, e), (9, 0), (9, 0), (9, 0)] []))
set_option maxHeartbeats 4000000 in
set_option maxRecDepth 20000 in
theorem e_X11_doing_142 (σ : Mem) (x1 x2 x3 x4 x6 s0 : Int)  {q : ((Int × Int) ⊕ ((Int) ⊕ (Int)))} (h : f_X11_doing_142 σ x1 x2 x3 x4 x6 s0 = some q) {r : Option V × Mem × Mem} (K : K_X11_doing_60 σ x1 x2 x3 x4 r q) : Ev M_X11_doing 218 218 r 142 218 rho σ [(2, (181 : Int)), (0, x1), (0, x2), (0, x3), (0, x4), (9, 0), (0, x6), (9, 0), (9, 0)] [(0, s0)] := by
  unfold f_X11_doing_142 at h
  refine ev_istore dX11_doing_142 rfl (by decide) ?_
  show Ev _ _ _ _ 144 _ _ _ [(2, (181 : Int)), (0, x1), (0, x2), (0, x3), (0, x4), (0, s0), (0, x6), (9, 0), (9, 0)] _
  refine ev_iincG dX11_doing_144 rfl h rfl (fun v10 h => ?_)
  show Ev _ _ _ _ 147 _ _ _ [(2, (181 : Int)), (0, x1), (0, x2), (0, x3), (0, x4), (0, s0), (0, v10), (9, 0), (9, 0)] _
  refine ev_goto (tgt := 60) dX11_doing_147 rfl ?_
  obtain rfl := Option.some.inj h
  exact ev_sub (L2 := [(2, (181 : Int)), (0, x1), (0, x2), (0, x3), (0, x4), (0, s0), (0, v10), (9, 0), (9, 0)]) K ⟨.inr rfl, .inr rfl, .inr rfl, .inr rfl, .inr rfl, .inr rfl, .inr rfl, .inl rfl, .inl rfl, trivial⟩
set_option maxHeartbeats 4000000 in
set_option maxRecDepth 20000 in
theorem e_X11_doing_137 (σ : Mem) (x1 x2 x3 x4 x6 : Int)  {q : ((Int × Int) ⊕ ((Int) ⊕ (Int)))} (h : f_X11_doing_137 σ x1 x2 x3 x4 x6 = some q) {r : Option V × Mem × Mem} (K : K_X11_doing_60 σ x1 x2 x3 x4 r q) : Ev M_X11_doing 218 218 r 137 218 rho σ [(2, (181 : Int)), (0, x1), (0, x2), (0, x3), (0, x4), (9, 0), (0, x6), (9, 0), (9, 0)] [] := by
  unfold f_X11_doing_137 at h
  refine ev_iconst dX11_doing_137 (by decide) ?_
  refine ev_goto (tgt := 142) dX11_doing_138 rfl ?_
  exact ev_sub (L2 := [(2, (181 : Int)), (0, x1), (0, x2), (0, x3), (0, x4), (9, 0), (0, x6), (9, 0), (9, 0)]) (e_X11_doing_142 σ x1 x2 x3 x4 x6 (1 : Int) h K) ⟨.inr rfl, .inr rfl, .inr rfl, .inr rfl, .inr rfl, .inl rfl, .inr rfl, .inl rfl, .inl rfl, trivial⟩
set_option maxHeartbeats 4000000 in
set_option maxRecDepth 20000 in
theorem e_X11_doing_141 (σ : Mem) (x1 x2 x3 x4 x6 : Int)  {q : ((Int × Int) ⊕ ((Int) ⊕ (Int)))} (h : f_X11_doing_141 σ x1 x2 x3 x4 x6 = some q) {r : Option V × Mem × Mem} (K : K_X11_doing_60 σ x1 x2 x3 x4 r q) : Ev M_X11_doing 218 218 r 141 218 rho σ [(2, (181 : Int)), (0, x1), (0, x2), (0, x3), (0, x4), (9, 0), (0, x6), (9, 0), (9, 0)] [] := by
  unfold f_X11_doing_141 at h
  refine ev_iconst dX11_doing_141 (by decide) ?_
  exact ev_sub (L2 := [(2, (181 : Int)), (0, x1), (0, x2), (0, x3), (0, x4), (9, 0), (0, x6), (9, 0), (9, 0)]) (e_X11_doing_142 σ x1 x2 x3 x4 x6 (0 : Int) h K) ⟨.inr rfl, .inr rfl, .inr rfl, .inr rfl, .inr rfl, .inl rfl, .inr rfl, .inl rfl, .inl rfl, trivial⟩
set_option maxHeartbeats 4000000 in
set_option maxRecDepth 20000 in
theorem e_X11_doing_116 (σ : Mem) (x1 x2 x3 x4 x5 x6 x7 x8 : Int)  {q : ((Int × Int) ⊕ ((Int) ⊕ (Int)))} (h : f_X11_doing_116 σ x1 x2 x3 x4 x5 x6 x7 x8 = some q) {r : Option V × Mem × Mem} (K : K_X11_doing_60 σ x1 x2 x3 x4 r q) : Ev M_X11_doing 218 218 r 116 218 rho σ [(2, (181 : Int)), (0, x1), (0, x2), (0, x3), (0, x4), (0, x5), (0, x6), (0, x7), (0, x8)] [] := by
  unfold f_X11_doing_116 at h
  refine ev_iload dX11_doing_116 rfl ?_
  refine ev_if_ne (tgt := 137) dX11_doing_118 rfl h (fun cb h => ?_) (fun cb h => ?_)
  · exact ev_sub (L2 := [(2, (181 : Int)), (0, x1), (0, x2), (0, x3), (0, x4), (9, 0), (0, x6), (9, 0), (9, 0)]) (e_X11_doing_137 σ x1 x2 x3 x4 x6 h K) ⟨.inr rfl, .inr rfl, .inr rfl, .inr rfl, .inr rfl, .inl rfl, .inr rfl, .inl rfl, .inl rfl, trivial⟩
  refine ev_iload_n dX11_doing_121 rfl ?_
  refine ev_aload_n dX11_doing_122 rfl (by decide) ?_
  refine ev_iload dX11_doing_123 rfl ?_
  obtain ⟨v8, hc9, h⟩ := bind_of h
  refine ev_invV_v (k := (181 : Int)) (av := [(0, x7)]) (st := [(0, x3)]) (v := (0, v8)) (τ := σ) dX11_doing_125 ml_X11_255 mv_X11_start (T := TX11) (ci := 10) rfl sp181 (by decide) (by decide) rfl ⟨Nat.le_of_ble_eq_true rfl, Nat.le_of_ble_eq_true rfl⟩ (Nat.le_of_ble_eq_true rfl) (c_X11_start hc9) ?_
  refine ev_icmp_lt (tgt := 141) dX11_doing_128 rfl h (fun cb h => ?_) (fun cb h => ?_)
  · exact ev_sub (L2 := [(2, (181 : Int)), (0, x1), (0, x2), (0, x3), (0, x4), (9, 0), (0, x6), (9, 0), (9, 0)]) (e_X11_doing_141 σ x1 x2 x3 x4 x6 h K) ⟨.inr rfl, .inr rfl, .inr rfl, .inr rfl, .inr rfl, .inl rfl, .inr rfl, .inl rfl, .inl rfl, trivial⟩
  refine ev_iload_n dX11_doing_131 rfl ?_
  refine ev_iload dX11_doing_132 rfl ?_
  refine ev_icmp_ge (tgt := 141) dX11_doing_134 rfl h (fun cb h => ?_) (fun cb h => ?_)
  · exact ev_sub (L2 := [(2, (181 : Int)), (0, x1), (0, x2), (0, x3), (0, x4), (9, 0), (0, x6), (9, 0), (9, 0)]) (e_X11_doing_141 σ x1 x2 x3 x4 x6 h K) ⟨.inr rfl, .inr rfl, .inr rfl, .inr rfl, .inr rfl, .inl rfl, .inr rfl, .inl rfl, .inl rfl, trivial⟩
  exact ev_sub (L2 := [(2, (181 : Int)), (0, x1), (0, x2), (0, x3), (0, x4), (9, 0), (0, x6), (9, 0), (9, 0)]) (e_X11_doing_137 σ x1 x2 x3 x4 x6 h K) ⟨.inr rfl, .inr rfl, .inr rfl, .inr rfl, .inr rfl, .inl rfl, .inr rfl, .inl rfl, .inl rfl, trivial⟩
set_option maxHeartbeats 4000000 in
set_option maxRecDepth 20000 in
theorem e_X11_doing_150 (σ : Mem) (x5 : Int)  {q : Int} (h : f_X11_doing_150 σ x5 = some q) : Ev M_X11_doing 218 218 (some (0, q), rho, σ) 150 218 rho σ [(9, 0), (9, 0), (9, 0), (9, 0), (9, 0), (0, x5), (9, 0), (9, 0), (9, 0)] [] := by
  unfold f_X11_doing_150 at h
  refine ev_iload dX11_doing_150 rfl ?_
  refine ev_if_eq (tgt := 160) dX11_doing_152 rfl h (fun cb h => ?_) (fun cb h => ?_)
  · refine ev_iconst dX11_doing_160 (by decide) ?_
    obtain rfl := Option.some.inj h
    exact ev_iret dX11_doing_161 rfl rfl
  refine ev_bipush dX11_doing_155 (by decide) (by decide) ?_
  refine ev_goto (tgt := 161) dX11_doing_157 rfl ?_
  obtain rfl := Option.some.inj h
  exact ev_iret dX11_doing_161 rfl rfl
set_option maxHeartbeats 4000000 in
set_option maxRecDepth 20000 in
theorem b_X11_doing_60 (σ : Mem) (x1 x2 x3 x4 : Int)  {r : Option V × Mem × Mem} : ∀ a x, f_X11_doing_60B σ x1 x2 x3 x4 a = some x → K_X11_doing_60 σ x1 x2 x3 x4 r x → K_X11_doing_60 σ x1 x2 x3 x4 r (.inl a) := by
  intro a x h K
  obtain ⟨x5, x6⟩ := a
  have h : f_X11_doing_60C σ x1 x2 x3 x4 x5 x6 = some x := h
  unfold f_X11_doing_60C at h
  show Ev M_X11_doing 218 218 r 60 218 rho σ [(2, (181 : Int)), (0, x1), (0, x2), (0, x3), (0, x4), (0, x5), (0, x6), (9, 0), (9, 0)] []
  refine ev_iload dX11_doing_60 rfl ?_
  refine ev_iload dX11_doing_62 rfl ?_
  refine ev_icmp_ge (tgt := 150) dX11_doing_64 rfl h (fun cb h => ?_) (fun cb h => ?_)
  · obtain rfl := Option.some.inj h
    exact ev_sub (L2 := [(9, 0), (9, 0), (9, 0), (9, 0), (9, 0), (0, x5), (9, 0), (9, 0), (9, 0)]) K ⟨.inl rfl, .inl rfl, .inl rfl, .inl rfl, .inl rfl, .inr rfl, .inl rfl, .inl rfl, .inl rfl, trivial⟩
  refine ev_aload_n dX11_doing_67 rfl (by decide) ?_
  refine ev_getf (j := 25) (t := 2) (x := (201 : Int)) dX11_doing_68 cf_X11 wf_X11_69 sp181 (by decide) (by decide) rfl (by decide) (rp181_25 _) ?_
  refine ev_iconst dX11_doing_71 (by decide) ?_
  refine ev_iload_n dX11_doing_72 rfl ?_
  refine ev_imul dX11_doing_73 ?_
  refine ev_iload dX11_doing_74 rfl ?_
  refine ev_iadd dX11_doing_76 ?_
  refine ev_iald dX11_doing_77 sp201 (by decide) (by decide) h (fun h => ?_)
  refine ev_istoreG dX11_doing_78 h rfl (by decide) (fun v4 h => ?_)
  show Ev _ _ _ _ 80 _ _ _ [(2, (181 : Int)), (0, x1), (0, x2), (0, x3), (0, x4), (0, x5), (0, x6), (0, v4), (9, 0)] _
  refine ev_aload_n dX11_doing_80 rfl (by decide) ?_
  refine ev_getf (j := 26) (t := 2) (x := (202 : Int)) dX11_doing_81 cf_X11 wf_X11_72 sp181 (by decide) (by decide) rfl (by decide) (rp181_26 _) ?_
  show Ev _ _ _ _ 84 _ _ _ _ _
  refine ev_iconst dX11_doing_84 (by decide) ?_
  refine ev_iload_n dX11_doing_85 rfl ?_
  refine ev_imul dX11_doing_86 ?_
  refine ev_iload dX11_doing_87 rfl ?_
  refine ev_iadd dX11_doing_89 ?_
  refine ev_iald dX11_doing_90 sp202 (by decide) (by decide) h (fun h => ?_)
  refine ev_istoreG dX11_doing_91 h rfl (by decide) (fun v5 h => ?_)
  show Ev _ _ _ _ 93 _ _ _ [(2, (181 : Int)), (0, x1), (0, x2), (0, x3), (0, x4), (0, x5), (0, x6), (0, v4), (0, v5)] _
  refine ev_iload_n dX11_doing_93 rfl ?_
  refine ev_iload dX11_doing_94 rfl ?_
  refine ev_icmp_lt (tgt := 116) dX11_doing_96 rfl h (fun cb h => ?_) (fun cb h => ?_)
  · exact ev_sub (L2 := [(2, (181 : Int)), (0, x1), (0, x2), (0, x3), (0, x4), (0, x5), (0, x6), (0, v4), (0, v5)]) (e_X11_doing_116 σ x1 x2 x3 x4 x5 x6 v4 v5 h K) ⟨.inr rfl, .inr rfl, .inr rfl, .inr rfl, .inr rfl, .inr rfl, .inr rfl, .inr rfl, .inr rfl, trivial⟩
  refine ev_iload_n dX11_doing_99 rfl ?_
  refine ev_iload dX11_doing_100 rfl ?_
  refine ev_aload_n dX11_doing_102 rfl (by decide) ?_
  refine ev_iload_n dX11_doing_103 rfl ?_
  refine ev_iload dX11_doing_104 rfl ?_
  obtain ⟨v6, hc7, h⟩ := bind_of h
  refine ev_invV_v (k := (181 : Int)) (av := [(0, x1), (0, v4)]) (st := [(0, v5), (0, x3)]) (v := (0, v6)) (τ := σ) dX11_doing_106 ml_X11_263 mv_X11_timed (T := TX11) (ci := 10) rfl sp181 (by decide) (by decide) rfl ⟨Nat.le_of_ble_eq_true rfl, Nat.le_of_ble_eq_true rfl⟩ (Nat.le_of_ble_eq_true rfl) (c_X11_timed hc7) ?_
  refine ev_iadd dX11_doing_109 ?_
  refine ev_icmp_ge (tgt := 116) dX11_doing_110 rfl h (fun cb h => ?_) (fun cb h => ?_)
  · exact ev_sub (L2 := [(2, (181 : Int)), (0, x1), (0, x2), (0, x3), (0, x4), (0, x5), (0, x6), (0, v4), (0, v5)]) (e_X11_doing_116 σ x1 x2 x3 x4 x5 x6 v4 v5 h K) ⟨.inr rfl, .inr rfl, .inr rfl, .inr rfl, .inr rfl, .inr rfl, .inr rfl, .inr rfl, .inr rfl, trivial⟩
  obtain rfl := Option.some.inj h
  exact ev_sub (L2 := [(9, 0), (9, 0), (9, 0), (9, 0), (9, 0), (9, 0), (9, 0), (0, v4), (9, 0)]) K ⟨.inl rfl, .inl rfl, .inl rfl, .inl rfl, .inl rfl, .inl rfl, .inl rfl, .inr rfl, .inl rfl, trivial⟩
set_option maxHeartbeats 4000000 in
set_option maxRecDepth 20000 in
theorem e_X11_doing_60 (σ : Mem) (x1 x2 x3 x4 x5 x6 : Int)  {q : Int} (h : f_X11_doing_60 σ x1 x2 x3 x4 x5 x6 = some q) : Ev M_X11_doing 218 218 (some (0, q), rho, σ) 60 218 rho σ [(2, (181 : Int)), (0, x1), (0, x2), (0, x3), (0, x4), (0, x5), (0, x6), (9, 0), (9, 0)] [] := by
  unfold f_X11_doing_60 at h
  obtain ⟨e, hl, h⟩ := bind_of h
  refine loop_ev (K := K_X11_doing_60 σ x1 x2 x3 x4 (some (0, q), rho, σ)) (b_X11_doing_60 σ x1 x2 x3 x4) FU (x5, x6) e hl ?_
  rcases e with e | e
  · show Ev M_X11_doing 218 218 _ 113 218 rho σ [(9, 0), (9, 0), (9, 0), (9, 0), (9, 0), (9, 0), (9, 0), (0, e), (9, 0)] []
    replace h : some e = some q := h
    refine ev_iload dX11_doing_113 rfl ?_
    obtain rfl := Option.some.inj h
    exact ev_iret dX11_doing_115 rfl rfl
  · show Ev M_X11_doing 218 218 _ 150 218 rho σ [(9, 0), (9, 0), (9, 0), (9, 0), (9, 0), (0, e), (9, 0), (9, 0), (9, 0)] []
    replace h : f_X11_doing_150 σ e = some q := h
    exact ev_sub (L2 := [(9, 0), (9, 0), (9, 0), (9, 0), (9, 0), (0, e), (9, 0), (9, 0), (9, 0)]) (e_X11_doing_150 σ e h) ⟨.inl rfl, .inl rfl, .inl rfl, .inl rfl, .inl rfl, .inr rfl, .inl rfl, .inl rfl, .inl rfl, trivial⟩
set_option maxHeartbeats 4000000 in
set_option maxRecDepth 20000 in
theorem e_X11_doing_55 (σ : Mem) (x1 x2 x3 x4 s0 : Int)  {q : Int} (h : f_X11_doing_55 σ x1 x2 x3 x4 s0 = some q) : Ev M_X11_doing 218 218 (some (0, q), rho, σ) 55 218 rho σ [(2, (181 : Int)), (0, x1), (0, x2), (0, x3), (0, x4), (9, 0), (9, 0), (9, 0), (9, 0)] [(0, s0)] := by
  unfold f_X11_doing_55 at h
  refine ev_istore dX11_doing_55 rfl (by decide) ?_
  show Ev _ _ _ _ 57 _ _ _ [(2, (181 : Int)), (0, x1), (0, x2), (0, x3), (0, x4), (0, s0), (9, 0), (9, 0), (9, 0)] _
  refine ev_iconst dX11_doing_57 (by decide) ?_
  refine ev_istore dX11_doing_58 rfl (by decide) ?_
  show Ev _ _ _ _ 60 _ _ _ [(2, (181 : Int)), (0, x1), (0, x2), (0, x3), (0, x4), (0, s0), (0, (0 : Int)), (9, 0), (9, 0)] _
  exact ev_sub (L2 := [(2, (181 : Int)), (0, x1), (0, x2), (0, x3), (0, x4), (0, s0), (0, (0 : Int)), (9, 0), (9, 0)]) (e_X11_doing_60 σ x1 x2 x3 x4 s0 (0 : Int) h) ⟨.inr rfl, .inr rfl, .inr rfl, .inr rfl, .inr rfl, .inr rfl, .inr rfl, .inl rfl, .inl rfl, trivial⟩
set_option maxHeartbeats 4000000 in
set_option maxRecDepth 20000 in
theorem e_X11_doing_54 (σ : Mem) (x1 x2 x3 x4 : Int)  {q : Int} (h : f_X11_doing_54 σ x1 x2 x3 x4 = some q) : Ev M_X11_doing 218 218 (some (0, q), rho, σ) 54 218 rho σ [(2, (181 : Int)), (0, x1), (0, x2), (0, x3), (0, x4), (9, 0), (9, 0), (9, 0), (9, 0)] [] := by
  unfold f_X11_doing_54 at h
  refine ev_iconst dX11_doing_54 (by decide) ?_
  exact ev_sub (L2 := [(2, (181 : Int)), (0, x1), (0, x2), (0, x3), (0, x4), (9, 0), (9, 0), (9, 0), (9, 0)]) (e_X11_doing_55 σ x1 x2 x3 x4 (0 : Int) h) ⟨.inr rfl, .inr rfl, .inr rfl, .inr rfl, .inr rfl, .inl rfl, .inl rfl, .inl rfl, .inl rfl, trivial⟩
set_option maxHeartbeats 4000000 in
set_option maxRecDepth 20000 in
theorem c_X11_doing {σ : Mem} {x1 x2 x3 : Int}  {q : Int} (h : f_X11_doing σ x1 x2 x3 = some q) : Ms yX11_doing M_X11_doing 218 218 [(2, (181 : Int)), (0, x1), (0, x2), (0, x3)] rho σ (some (0, q), rho, σ) := by
  refine Ms.of 5 (by decide +kernel) rfl (fun z => absurd z (by decide)) (fun _ _ _ => trivial) rfl rfl ?_
  unfold f_X11_doing at h
  show Ev M_X11_doing 218 218 _ 0 218 rho σ [(2, (181 : Int)), (0, x1), (0, x2), (0, x3), (9, 0), (9, 0), (9, 0), (9, 0), (9, 0)] []
  refine ev_iload_n dX11_doing_0 rfl ?_
  refine ev_aload_n dX11_doing_1 rfl (by decide) ?_
  refine ev_getf (j := 23) (t := 2) (x := (199 : Int)) dX11_doing_2 cf_X11 wf_X11_63 sp181 (by decide) (by decide) rfl (by decide) (rp181_23 _) ?_
  refine ev_iload_n dX11_doing_5 rfl ?_
  refine ev_iald dX11_doing_6 sp199 (by decide) (by decide) h (fun h => ?_)
  refine ev_icmp_ge (tgt := 19) dX11_doing_7 rfl h (fun cb h => ?_) (fun cb h => ?_)
  · refine ev_aload_n dX11_doing_19 rfl (by decide) ?_
    refine ev_getf (j := 24) (t := 2) (x := (200 : Int)) dX11_doing_20 cf_X11 wf_X11_66 sp181 (by decide) (by decide) rfl (by decide) (rp181_24 _) ?_
    refine ev_iload_n dX11_doing_23 rfl ?_
    refine ev_iald dX11_doing_24 sp200 (by decide) (by decide) h (fun h => ?_)
    refine ev_istoreG dX11_doing_25 h rfl (by decide) (fun v1 h => ?_)
    show Ev _ _ _ _ 27 _ _ _ [(2, (181 : Int)), (0, x1), (0, x2), (0, x3), (0, v1), (9, 0), (9, 0), (9, 0), (9, 0)] _
    refine ev_aload_n dX11_doing_27 rfl (by decide) ?_
    refine ev_getf (j := 21) (t := 2) (x := (197 : Int)) dX11_doing_28 cf_X11 wf_X11_57 sp181 (by decide) (by decide) rfl (by decide) (rp181_21 _) ?_
    refine ev_iload_n dX11_doing_31 rfl ?_
    refine ev_iald dX11_doing_32 sp197 (by decide) (by decide) h (fun h => ?_)
    refine ev_if_lt (tgt := 54) dX11_doing_33 rfl h (fun cb h => ?_) (fun cb h => ?_)
    · exact ev_sub (L2 := [(2, (181 : Int)), (0, x1), (0, x2), (0, x3), (0, v1), (9, 0), (9, 0), (9, 0), (9, 0)]) (e_X11_doing_54 σ x1 x2 x3 v1 h) ⟨.inr rfl, .inr rfl, .inr rfl, .inr rfl, .inr rfl, .inl rfl, .inl rfl, .inl rfl, .inl rfl, trivial⟩
    refine ev_iload_n dX11_doing_36 rfl ?_
    refine ev_aload_n dX11_doing_37 rfl (by decide) ?_
    refine ev_aload_n dX11_doing_38 rfl (by decide) ?_
    refine ev_getf (j := 21) (t := 2) (x := (197 : Int)) dX11_doing_39 cf_X11 wf_X11_57 sp181 (by decide) (by decide) rfl (by decide) (rp181_21 _) ?_
    refine ev_iload_n dX11_doing_42 rfl ?_
    refine ev_iald dX11_doing_43 sp197 (by decide) (by decide) h (fun h => ?_)
    obtain ⟨v2, hc3, h⟩ := bind_of h
    refine ev_invV_v (k := (181 : Int)) (av := [(0, (σ (197 : Int) x2))]) (st := [(0, x3)]) (v := (0, v2)) (τ := σ) dX11_doing_44 ml_X11_255 mv_X11_start (T := TX11) (ci := 10) rfl sp181 (by decide) (by decide) rfl ⟨Nat.le_of_ble_eq_true rfl, Nat.le_of_ble_eq_true rfl⟩ (Nat.le_of_ble_eq_true rfl) (c_X11_start hc3) ?_
    refine ev_icmp_lt (tgt := 54) dX11_doing_47 rfl h (fun cb h => ?_) (fun cb h => ?_)
    · exact ev_sub (L2 := [(2, (181 : Int)), (0, x1), (0, x2), (0, x3), (0, v1), (9, 0), (9, 0), (9, 0), (9, 0)]) (e_X11_doing_54 σ x1 x2 x3 v1 h) ⟨.inr rfl, .inr rfl, .inr rfl, .inr rfl, .inr rfl, .inl rfl, .inl rfl, .inl rfl, .inl rfl, trivial⟩
    refine ev_iconst dX11_doing_50 (by decide) ?_
    refine ev_goto (tgt := 55) dX11_doing_51 rfl ?_
    exact ev_sub (L2 := [(2, (181 : Int)), (0, x1), (0, x2), (0, x3), (0, v1), (9, 0), (9, 0), (9, 0), (9, 0)]) (e_X11_doing_55 σ x1 x2 x3 v1 (1 : Int) h) ⟨.inr rfl, .inr rfl, .inr rfl, .inr rfl, .inr rfl, .inl rfl, .inl rfl, .inl rfl, .inl rfl, trivial⟩
  refine ev_aload_n dX11_doing_10 rfl (by decide) ?_
  refine ev_getf (j := 21) (t := 2) (x := (197 : Int)) dX11_doing_11 cf_X11 wf_X11_57 sp181 (by decide) (by decide) rfl (by decide) (rp181_21 _) ?_
  refine ev_iload_n dX11_doing_14 rfl ?_
  refine ev_iconst dX11_doing_15 (by decide) ?_
  refine ev_isub dX11_doing_16 ?_
  refine ev_iald dX11_doing_17 sp197 (by decide) (by decide) h (fun h => ?_)
  obtain rfl := Option.some.inj h
  exact ev_iret dX11_doing_18 rfl rfl
set_option maxHeartbeats 4000000 in
set_option maxRecDepth 20000 in
theorem e_X11_candOf_20 (σ : Mem)  {q : (Int × Mem)} (h : f_X11_candOf_20 σ  = some q) : Ev M_X11_candOf 218 218 (some (0, q.1), rho, q.2) 20 218 rho σ [(2, (181 : Int)), (9, 0), (9, 0)] [] := by
  unfold f_X11_candOf_20 at h
  refine ev_aload_n dX11_candOf_20 rfl (by decide) ?_
  refine ev_bipush dX11_candOf_21 (by decide) (by decide) ?_
  obtain ⟨v11, hc12, h⟩ := bind_of h
  refine ev_invV_v (k := (181 : Int)) (av := [(0, (-52 : Int))]) (st := []) (v := (0, v11.1)) (τ := v11.2) dX11_candOf_23 ml_X11_151 mv_X11_no (T := TX11) (ci := 10) rfl sp181 (by decide) (by decide) rfl ⟨Nat.le_of_ble_eq_true rfl, Nat.le_of_ble_eq_true rfl⟩ (Nat.le_of_ble_eq_true rfl) (c_X11_no hc12) ?_
  obtain rfl := Option.some.inj h
  dsimp only
  exact ev_iret dX11_candOf_26 rfl rfl
set_option maxHeartbeats 4000000 in
set_option maxRecDepth 20000 in
theorem c_X11_candOf {σ : Mem} {x1 x2 : Int}  {q : (Int × Mem)} (h : f_X11_candOf σ x1 x2 = some q) : Ms yX11_candOf M_X11_candOf 218 218 [(2, (181 : Int)), (0, x1), (0, x2)] rho σ (some (0, q.1), rho, q.2) := by
  refine Ms.of 0 (by decide +kernel) rfl (fun z => absurd z (by decide)) (fun _ _ _ => trivial) rfl rfl ?_
  unfold f_X11_candOf at h
  show Ev M_X11_candOf 218 218 _ 0 218 rho σ [(2, (181 : Int)), (0, x1), (0, x2)] []
  refine ev_aload_n dX11_candOf_0 rfl (by decide) ?_
  refine ev_iload_n dX11_candOf_1 rfl ?_
  obtain ⟨v1, hc2, h⟩ := bind_of h
  refine ev_invV_v (k := (181 : Int)) (av := [(0, x1)]) (st := []) (v := (0, v1)) (τ := σ) dX11_candOf_2 ml_X11_157 mv_X11_isCand (T := TX11) (ci := 10) rfl sp181 (by decide) (by decide) rfl ⟨Nat.le_of_ble_eq_true rfl, Nat.le_of_ble_eq_true rfl⟩ (Nat.le_of_ble_eq_true rfl) (c_X11_isCand hc2) ?_
  refine ev_if_eq (tgt := 20) dX11_candOf_5 rfl h (fun cb h => ?_) (fun cb h => ?_)
  · exact ev_sub (L2 := [(2, (181 : Int)), (9, 0), (9, 0)]) (e_X11_candOf_20 σ h) ⟨.inr rfl, .inl rfl, .inl rfl, trivial⟩
  refine ev_iload_n dX11_candOf_8 rfl ?_
  refine ev_i2lk dX11_candOf_9 ?_
  refine ev_lconst (x := (0 : Int)) dX11_candOf_10 (by decide) (by decide) ?_
  refine ev_ldc2 (x := (5 : Int)) dX11_candOf_11 wc_X11_160 (by decide) (by decide) ?_
  obtain ⟨v3, hc4, h⟩ := bind_of h
  refine ev_invS_v (av := [(1, x2), (1, (0 : Int)), (1, (5 : Int))]) (st := []) (v := (0, v3)) (τ := σ) dX11_candOf_14 ml_X11_120 mt_X11_isIn rfl ⟨Nat.le_of_ble_eq_true rfl, Nat.le_of_ble_eq_true rfl⟩ (Nat.le_of_ble_eq_true rfl) (c_X11_isIn hc4) ?_
  refine ev_if_ne (tgt := 27) dX11_candOf_17 rfl h (fun cb h => ?_) (fun cb h => ?_)
  · refine ev_iload_n dX11_candOf_27 rfl ?_
    refine ev_iconst dX11_candOf_28 (by decide) ?_
    refine ev_icmp_ge (tgt := 41) dX11_candOf_29 rfl h (fun cb h => ?_) (fun cb h => ?_)
    · refine ev_iload_n dX11_candOf_41 rfl ?_
      refine ev_iconst dX11_candOf_42 (by decide) ?_
      refine ev_icmp_ne (tgt := 54) dX11_candOf_43 rfl h (fun cb h => ?_) (fun cb h => ?_)
      · refine ev_aload_n dX11_candOf_54 rfl (by decide) ?_
        refine ev_iload_n dX11_candOf_55 rfl ?_
        obtain ⟨v5, hc6, h⟩ := bind_of h
        refine ev_invV_v (k := (181 : Int)) (av := [(0, x1)]) (st := []) (v := (0, v5.1)) (τ := v5.2) dX11_candOf_56 ml_X11_297 mv_X11_cants (T := TX11) (ci := 10) rfl sp181 (by decide) (by decide) rfl ⟨Nat.le_of_ble_eq_true rfl, Nat.le_of_ble_eq_true rfl⟩ (Nat.le_of_ble_eq_true rfl) (c_X11_cants hc6) ?_
        obtain rfl := Option.some.inj h
        dsimp only
        exact ev_iret dX11_candOf_59 rfl rfl
      refine ev_aload_n dX11_candOf_46 rfl (by decide) ?_
      refine ev_iload_n dX11_candOf_47 rfl ?_
      obtain ⟨v7, hc8, h⟩ := bind_of h
      refine ev_invV_v (k := (181 : Int)) (av := [(0, x1)]) (st := []) (v := (0, v7)) (τ := σ) dX11_candOf_48 ml_X11_252 mv_X11_rest (T := TX11) (ci := 10) rfl sp181 (by decide) (by decide) rfl ⟨Nat.le_of_ble_eq_true rfl, Nat.le_of_ble_eq_true rfl⟩ (Nat.le_of_ble_eq_true rfl) (c_X11_rest hc8) ?_
      refine ev_goto (tgt := 59) dX11_candOf_51 rfl ?_
      obtain rfl := Option.some.inj h
      dsimp only
      exact ev_iret dX11_candOf_59 rfl rfl
    refine ev_aload_n dX11_candOf_32 rfl (by decide) ?_
    refine ev_iload_n dX11_candOf_33 rfl ?_
    refine ev_iload_n dX11_candOf_34 rfl ?_
    obtain ⟨v9, hc10, h⟩ := bind_of h
    refine ev_invV_v (k := (181 : Int)) (av := [(0, x1), (0, x2)]) (st := []) (v := (0, v9)) (τ := σ) dX11_candOf_35 ml_X11_128 mv_X11_who (T := TX11) (ci := 10) rfl sp181 (by decide) (by decide) rfl ⟨Nat.le_of_ble_eq_true rfl, Nat.le_of_ble_eq_true rfl⟩ (Nat.le_of_ble_eq_true rfl) (c_X11_who hc10) ?_
    refine ev_goto (tgt := 59) dX11_candOf_38 rfl ?_
    obtain rfl := Option.some.inj h
    dsimp only
    exact ev_iret dX11_candOf_59 rfl rfl
  exact ev_sub (L2 := [(2, (181 : Int)), (9, 0), (9, 0)]) (e_X11_candOf_20 σ h) ⟨.inr rfl, .inl rfl, .inl rfl, trivial⟩
def K_X11_elsewhere_49 (σ : Mem) (x1 x3 x4 : Int) (r : Option V × Mem × Mem) : (Int × Int) ⊕ ((Int)) → Prop := Sum.elim (fun a => Ev M_X11_elsewhere 218 218 r 49 218 rho σ [(2, (181 : Int)), (0, x1), (0, a.1), (0, x3), (0, x4), (0, a.2)] []) (fun e => Ev M_X11_elsewhere 218 218 r 111 218 rho σ [(2, (181 : Int)), (0, x1), (0, e), (0, x3), (9, 0), (9, 0)] [])
def K_X11_elsewhere_4 (x1 : Int) (r : Option V × Mem × Mem) : (Int × Int × Mem) ⊕ ((Int × Mem)) → Prop := Sum.elim (fun a => Ev M_X11_elsewhere 218 218 r 4 218 rho a.2.2 [(2, (181 : Int)), (0, x1), (0, a.1), (0, a.2.1), (9, 0), (9, 0)] []) (fun e => Ev M_X11_elsewhere 218 218 r 117 218 rho e.2 [(9, 0), (9, 0), (0, e.1), (9, 0), (9, 0), (9, 0)] [])
set_option maxHeartbeats 4000000 in
set_option maxRecDepth 20000 in
theorem e_X11_elsewhere_103 (σ : Mem) (x1 x3 x4 x5 s1 s0 : Int)  {q : ((Int × Int) ⊕ ((Int)))} (h : f_X11_elsewhere_103 σ x1 x3 x4 x5 s1 s0 = some q) {r : Option V × Mem × Mem} (K : K_X11_elsewhere_49 σ x1 x3 x4 r q) : Ev M_X11_elsewhere 218 218 r 103 218 rho σ [(2, (181 : Int)), (0, x1), (9, 0), (0, x3), (0, x4), (0, x5)] [(0, s1), (0, s0)] := by
  unfold f_X11_elsewhere_103 at h
  refine ev_iadd dX11_elsewhere_103 ?_
  refine ev_istore_nG dX11_elsewhere_104 h rfl (by decide) (fun v8 h => ?_)
  show Ev _ _ _ _ 105 _ _ _ [(2, (181 : Int)), (0, x1), (0, v8), (0, x3), (0, x4), (0, x5)] _
  refine ev_iincG dX11_elsewhere_105 rfl h rfl (fun v9 h => ?_)
  show Ev _ _ _ _ 108 _ _ _ [(2, (181 : Int)), (0, x1), (0, v8), (0, x3), (0, x4), (0, v9)] _
  refine ev_goto (tgt := 49) dX11_elsewhere_108 rfl ?_
  obtain rfl := Option.some.inj h
  exact ev_sub (L2 := [(2, (181 : Int)), (0, x1), (0, v8), (0, x3), (0, x4), (0, v9)]) K ⟨.inr rfl, .inr rfl, .inr rfl, .inr rfl, .inr rfl, .inr rfl, trivial⟩
set_option maxHeartbeats 4000000 in
set_option maxRecDepth 20000 in
theorem e_X11_elsewhere_102 (σ : Mem) (x1 x3 x4 x5 s0 : Int)  {q : ((Int × Int) ⊕ ((Int)))} (h : f_X11_elsewhere_102 σ x1 x3 x4 x5 s0 = some q) {r : Option V × Mem × Mem} (K : K_X11_elsewhere_49 σ x1 x3 x4 r q) : Ev M_X11_elsewhere 218 218 r 102 218 rho σ [(2, (181 : Int)), (0, x1), (9, 0), (0, x3), (0, x4), (0, x5)] [(0, s0)] := by
  unfold f_X11_elsewhere_102 at h
  refine ev_iconst dX11_elsewhere_102 (by decide) ?_
  exact ev_sub (L2 := [(2, (181 : Int)), (0, x1), (9, 0), (0, x3), (0, x4), (0, x5)]) (e_X11_elsewhere_103 σ x1 x3 x4 x5 (0 : Int) s0 h K) ⟨.inr rfl, .inr rfl, .inl rfl, .inr rfl, .inr rfl, .inr rfl, trivial⟩
set_option maxHeartbeats 4000000 in
set_option maxRecDepth 20000 in
theorem e_X11_elsewhere_111 (σ : Mem) (x1 x2 x3 : Int)  {q : ((Int × Int × Mem) ⊕ ((Int × Mem)))} (h : f_X11_elsewhere_111 σ x1 x2 x3 = some q) {r : Option V × Mem × Mem} (K : K_X11_elsewhere_4 x1 r q) : Ev M_X11_elsewhere 218 218 r 111 218 rho σ [(2, (181 : Int)), (0, x1), (0, x2), (0, x3), (9, 0), (9, 0)] [] := by
  unfold f_X11_elsewhere_111 at h
  refine ev_iincG dX11_elsewhere_111 rfl h rfl (fun v10 h => ?_)
  show Ev _ _ _ _ 114 _ _ _ [(2, (181 : Int)), (0, x1), (0, x2), (0, v10), (9, 0), (9, 0)] _
  refine ev_goto (tgt := 4) dX11_elsewhere_114 rfl ?_
  obtain rfl := Option.some.inj h
  exact ev_sub (L2 := [(2, (181 : Int)), (0, x1), (0, x2), (0, v10), (9, 0), (9, 0)]) K ⟨.inr rfl, .inr rfl, .inr rfl, .inr rfl, .inl rfl, .inl rfl, trivial⟩
set_option maxHeartbeats 4000000 in
set_option maxRecDepth 20000 in
theorem b_X11_elsewhere_49 (σ : Mem) (x1 x3 x4 : Int)  {r : Option V × Mem × Mem} : ∀ a x, f_X11_elsewhere_49B σ x1 x3 x4 a = some x → K_X11_elsewhere_49 σ x1 x3 x4 r x → K_X11_elsewhere_49 σ x1 x3 x4 r (.inl a) := by
  intro a x h K
  obtain ⟨x2, x5⟩ := a
  have h : f_X11_elsewhere_49C σ x1 x3 x4 x2 x5 = some x := h
  unfold f_X11_elsewhere_49C at h
  show Ev M_X11_elsewhere 218 218 r 49 218 rho σ [(2, (181 : Int)), (0, x1), (0, x2), (0, x3), (0, x4), (0, x5)] []
  refine ev_iload dX11_elsewhere_49 rfl ?_
  refine ev_aload_n dX11_elsewhere_51 rfl (by decide) ?_
  refine ev_getf (j := 24) (t := 2) (x := (200 : Int)) dX11_elsewhere_52 cf_X11 wf_X11_66 sp181 (by decide) (by decide) rfl (by decide) (rp181_24 _) ?_
  refine ev_iload dX11_elsewhere_55 rfl ?_
  refine ev_iald dX11_elsewhere_57 sp200 (by decide) (by decide) h (fun h => ?_)
  refine ev_icmp_ge (tgt := 111) dX11_elsewhere_58 rfl h (fun cb h => ?_) (fun cb h => ?_)
  · obtain rfl := Option.some.inj h
    exact ev_sub (L2 := [(2, (181 : Int)), (0, x1), (0, x2), (0, x3), (9, 0), (9, 0)]) K ⟨.inr rfl, .inr rfl, .inr rfl, .inr rfl, .inl rfl, .inl rfl, trivial⟩
  refine ev_iload_n dX11_elsewhere_61 rfl ?_
  refine ev_aload_n dX11_elsewhere_62 rfl (by decide) ?_
  refine ev_getf (j := 25) (t := 2) (x := (201 : Int)) dX11_elsewhere_63 cf_X11 wf_X11_69 sp181 (by decide) (by decide) rfl (by decide) (rp181_25 _) ?_
  refine ev_iconst dX11_elsewhere_66 (by decide) ?_
  refine ev_iload dX11_elsewhere_67 rfl ?_
  refine ev_imul dX11_elsewhere_69 ?_
  refine ev_iload dX11_elsewhere_70 rfl ?_
  refine ev_iadd dX11_elsewhere_72 ?_
  refine ev_iald dX11_elsewhere_73 sp201 (by decide) (by decide) h (fun h => ?_)
  refine ev_iload_n dX11_elsewhere_74 rfl ?_
  refine ev_icmp_ne (tgt := 102) dX11_elsewhere_75 rfl h (fun cb h => ?_) (fun cb h => ?_)
  · exact ev_sub (L2 := [(2, (181 : Int)), (0, x1), (9, 0), (0, x3), (0, x4), (0, x5)]) (e_X11_elsewhere_102 σ x1 x3 x4 x5 x2 h K) ⟨.inr rfl, .inr rfl, .inl rfl, .inr rfl, .inr rfl, .inr rfl, trivial⟩
  refine ev_aload_n dX11_elsewhere_78 rfl (by decide) ?_
  refine ev_getf (j := 26) (t := 2) (x := (202 : Int)) dX11_elsewhere_79 cf_X11 wf_X11_72 sp181 (by decide) (by decide) rfl (by decide) (rp181_26 _) ?_
  refine ev_iconst dX11_elsewhere_82 (by decide) ?_
  refine ev_iload dX11_elsewhere_83 rfl ?_
  refine ev_imul dX11_elsewhere_85 ?_
  refine ev_iload dX11_elsewhere_86 rfl ?_
  refine ev_iadd dX11_elsewhere_88 ?_
  refine ev_iald dX11_elsewhere_89 sp202 (by decide) (by decide) h (fun h => ?_)
  refine ev_aload_n dX11_elsewhere_90 rfl (by decide) ?_
  refine ev_iload_n dX11_elsewhere_91 rfl ?_
  obtain ⟨v6, hc7, h⟩ := bind_of h
  refine ev_invV_v (k := (181 : Int)) (av := [(0, x1)]) (st := [(0, (σ (202 : Int) (jadd (jmul (4 : Int) x4) x5))), (0, x2)]) (v := (0, v6)) (τ := σ) dX11_elsewhere_92 ml_X11_255 mv_X11_start (T := TX11) (ci := 10) rfl sp181 (by decide) (by decide) rfl ⟨Nat.le_of_ble_eq_true rfl, Nat.le_of_ble_eq_true rfl⟩ (Nat.le_of_ble_eq_true rfl) (c_X11_start hc7) ?_
  show Ev _ _ _ _ 95 _ _ _ _ _
  refine ev_icmp_eq (tgt := 102) dX11_elsewhere_95 rfl h (fun cb h => ?_) (fun cb h => ?_)
  · exact ev_sub (L2 := [(2, (181 : Int)), (0, x1), (9, 0), (0, x3), (0, x4), (0, x5)]) (e_X11_elsewhere_102 σ x1 x3 x4 x5 x2 h K) ⟨.inr rfl, .inr rfl, .inl rfl, .inr rfl, .inr rfl, .inr rfl, trivial⟩
  refine ev_iconst dX11_elsewhere_98 (by decide) ?_
  refine ev_goto (tgt := 103) dX11_elsewhere_99 rfl ?_
  exact ev_sub (L2 := [(2, (181 : Int)), (0, x1), (9, 0), (0, x3), (0, x4), (0, x5)]) (e_X11_elsewhere_103 σ x1 x3 x4 x5 (1 : Int) x2 h K) ⟨.inr rfl, .inr rfl, .inl rfl, .inr rfl, .inr rfl, .inr rfl, trivial⟩
set_option maxHeartbeats 4000000 in
set_option maxRecDepth 20000 in
theorem e_X11_elsewhere_49 (σ : Mem) (x1 x2 x3 x4 x5 : Int)  {q : ((Int × Int × Mem) ⊕ ((Int × Mem)))} (h : f_X11_elsewhere_49 σ x1 x2 x3 x4 x5 = some q) {r : Option V × Mem × Mem} (K : K_X11_elsewhere_4 x1 r q) : Ev M_X11_elsewhere 218 218 r 49 218 rho σ [(2, (181 : Int)), (0, x1), (0, x2), (0, x3), (0, x4), (0, x5)] [] := by
  unfold f_X11_elsewhere_49 at h
  obtain ⟨e, hl, h⟩ := bind_of h
  refine loop_ev (K := K_X11_elsewhere_49 σ x1 x3 x4 r) (b_X11_elsewhere_49 σ x1 x3 x4) FU (x2, x5) e hl ?_
  show Ev M_X11_elsewhere 218 218 r 111 218 rho σ [(2, (181 : Int)), (0, x1), (0, e), (0, x3), (9, 0), (9, 0)] []
  replace h : f_X11_elsewhere_111 σ x1 e x3 = some q := h
  exact ev_sub (L2 := [(2, (181 : Int)), (0, x1), (0, e), (0, x3), (9, 0), (9, 0)]) (e_X11_elsewhere_111 σ x1 e x3 h K) ⟨.inr rfl, .inr rfl, .inr rfl, .inr rfl, .inl rfl, .inl rfl, trivial⟩
set_option maxHeartbeats 4000000 in
set_option maxRecDepth 20000 in
theorem e_X11_elsewhere_44 (σ : Mem) (x1 x3 x4 s1 s0 : Int)  {q : ((Int × Int × Mem) ⊕ ((Int × Mem)))} (h : f_X11_elsewhere_44 σ x1 x3 x4 s1 s0 = some q) {r : Option V × Mem × Mem} (K : K_X11_elsewhere_4 x1 r q) : Ev M_X11_elsewhere 218 218 r 44 218 rho σ [(2, (181 : Int)), (0, x1), (9, 0), (0, x3), (0, x4), (9, 0)] [(0, s1), (0, s0)] := by
  unfold f_X11_elsewhere_44 at h
  refine ev_iadd dX11_elsewhere_44 ?_
  refine ev_istore_nG dX11_elsewhere_45 h rfl (by decide) (fun v5 h => ?_)
  show Ev _ _ _ _ 46 _ _ _ [(2, (181 : Int)), (0, x1), (0, v5), (0, x3), (0, x4), (9, 0)] _
  refine ev_iconst dX11_elsewhere_46 (by decide) ?_
  refine ev_istore dX11_elsewhere_47 rfl (by decide) ?_
  show Ev _ _ _ _ 49 _ _ _ [(2, (181 : Int)), (0, x1), (0, v5), (0, x3), (0, x4), (0, (0 : Int))] _
  exact ev_sub (L2 := [(2, (181 : Int)), (0, x1), (0, v5), (0, x3), (0, x4), (0, (0 : Int))]) (e_X11_elsewhere_49 σ x1 v5 x3 x4 (0 : Int) h K) ⟨.inr rfl, .inr rfl, .inr rfl, .inr rfl, .inr rfl, .inr rfl, trivial⟩
set_option maxHeartbeats 4000000 in
set_option maxRecDepth 20000 in
theorem b_X11_elsewhere_4 (x1 : Int)  {r : Option V × Mem × Mem} : ∀ a x, f_X11_elsewhere_4B x1 a = some x → K_X11_elsewhere_4 x1 r x → K_X11_elsewhere_4 x1 r (.inl a) := by
  intro a x h K
  obtain ⟨x2, x3, σ⟩ := a
  have h : f_X11_elsewhere_4C x1 x2 x3 σ = some x := h
  unfold f_X11_elsewhere_4C at h
  show Ev M_X11_elsewhere 218 218 r 4 218 rho σ [(2, (181 : Int)), (0, x1), (0, x2), (0, x3), (9, 0), (9, 0)] []
  refine ev_iload_n dX11_elsewhere_4 rfl ?_
  refine ev_aload_n dX11_elsewhere_5 rfl (by decide) ?_
  refine ev_getf (j := 0) (t := 2) (x := (182 : Int)) dX11_elsewhere_6 cf_X11 wf_X11_7 sp181 (by decide) (by decide) rfl (by decide) (rp181_0 _) ?_
  refine ev_bipush dX11_elsewhere_9 (by decide) (by decide) ?_
  refine ev_iald dX11_elsewhere_11 sp182 (by decide) (by decide) h (fun h => ?_)
  refine ev_icmp_ge (tgt := 117) dX11_elsewhere_12 rfl h (fun cb h => ?_) (fun cb h => ?_)
  · obtain rfl := Option.some.inj h
    exact ev_sub (L2 := [(9, 0), (9, 0), (0, x2), (9, 0), (9, 0), (9, 0)]) K ⟨.inl rfl, .inl rfl, .inr rfl, .inl rfl, .inl rfl, .inl rfl, trivial⟩
  refine ev_aload_n dX11_elsewhere_15 rfl (by decide) ?_
  refine ev_iload_n dX11_elsewhere_16 rfl ?_
  obtain ⟨σ1, hc2, h⟩ := bind_of h
  refine ev_invV_n (k := (181 : Int)) (av := [(0, x3)]) (st := []) (τ := σ1) dX11_elsewhere_17 ml_X11_290 mv_X11_plans (T := TX11) (ci := 10) rfl sp181 (by decide) (by decide) rfl ⟨Nat.le_of_ble_eq_true rfl, Nat.le_of_ble_eq_true rfl⟩ (Nat.le_of_ble_eq_true rfl) (c_X11_plans hc2) ?_
  refine ev_aload_n dX11_elsewhere_20 rfl (by decide) ?_
  refine ev_iload_n dX11_elsewhere_21 rfl ?_
  obtain ⟨v3, hc4, h⟩ := bind_of h
  refine ev_invV_v (k := (181 : Int)) (av := [(0, x1)]) (st := []) (v := (0, v3)) (τ := σ1) dX11_elsewhere_22 ml_X11_185 mv_X11_day (T := TX11) (ci := 10) rfl sp181 (by decide) (by decide) rfl ⟨Nat.le_of_ble_eq_true rfl, Nat.le_of_ble_eq_true rfl⟩ (Nat.le_of_ble_eq_true rfl) (c_X11_day hc4) ?_
  refine ev_istore dX11_elsewhere_25 rfl (by decide) ?_
  show Ev _ _ _ _ 27 _ _ _ [(2, (181 : Int)), (0, x1), (0, x2), (0, x3), (0, v3), (9, 0)] _
  refine ev_iload_n dX11_elsewhere_27 rfl ?_
  refine ev_aload_n dX11_elsewhere_28 rfl (by decide) ?_
  refine ev_getf (j := 21) (t := 2) (x := (197 : Int)) dX11_elsewhere_29 cf_X11 wf_X11_57 sp181 (by decide) (by decide) rfl (by decide) (rp181_21 _) ?_
  refine ev_iload dX11_elsewhere_32 rfl ?_
  show Ev _ _ _ _ 34 _ _ _ _ _
  refine ev_iald dX11_elsewhere_34 sp197 (by decide) (by decide) h (fun h => ?_)
  refine ev_iload_n dX11_elsewhere_35 rfl ?_
  refine ev_icmp_ne (tgt := 43) dX11_elsewhere_36 rfl h (fun cb h => ?_) (fun cb h => ?_)
  · refine ev_iconst dX11_elsewhere_43 (by decide) ?_
    exact ev_sub (L2 := [(2, (181 : Int)), (0, x1), (9, 0), (0, x3), (0, v3), (9, 0)]) (e_X11_elsewhere_44 σ1 x1 x3 v3 (0 : Int) x2 h K) ⟨.inr rfl, .inr rfl, .inl rfl, .inr rfl, .inr rfl, .inl rfl, trivial⟩
  refine ev_iconst dX11_elsewhere_39 (by decide) ?_
  refine ev_goto (tgt := 44) dX11_elsewhere_40 rfl ?_
  exact ev_sub (L2 := [(2, (181 : Int)), (0, x1), (9, 0), (0, x3), (0, v3), (9, 0)]) (e_X11_elsewhere_44 σ1 x1 x3 v3 (1 : Int) x2 h K) ⟨.inr rfl, .inr rfl, .inl rfl, .inr rfl, .inr rfl, .inl rfl, trivial⟩
set_option maxHeartbeats 4000000 in
set_option maxRecDepth 20000 in
theorem e_X11_elsewhere_4 (σ : Mem) (x1 x2 x3 : Int)  {q : (Int × Mem)} (h : f_X11_elsewhere_4 σ x1 x2 x3 = some q) : Ev M_X11_elsewhere 218 218 (some (0, q.1), rho, q.2) 4 218 rho σ [(2, (181 : Int)), (0, x1), (0, x2), (0, x3), (9, 0), (9, 0)] [] := by
  unfold f_X11_elsewhere_4 at h
  obtain ⟨e, hl, h⟩ := bind_of h
  refine loop_ev (K := K_X11_elsewhere_4 x1 (some (0, q.1), rho, q.2)) (b_X11_elsewhere_4 x1) FU (x2, x3, σ) e hl ?_
  show Ev M_X11_elsewhere 218 218 _ 117 218 rho e.2 [(9, 0), (9, 0), (0, e.1), (9, 0), (9, 0), (9, 0)] []
  replace h : some (e.1, e.2) = some q := h
  refine ev_iload_n dX11_elsewhere_117 rfl ?_
  obtain rfl := Option.some.inj h
  dsimp only
  exact ev_iret dX11_elsewhere_118 rfl rfl
set_option maxHeartbeats 4000000 in
set_option maxRecDepth 20000 in
theorem c_X11_elsewhere {σ : Mem} {x1 : Int}  {q : (Int × Mem)} (h : f_X11_elsewhere σ x1 = some q) : Ms yX11_elsewhere M_X11_elsewhere 218 218 [(2, (181 : Int)), (0, x1)] rho σ (some (0, q.1), rho, q.2) := by
  refine Ms.of 4 (by decide +kernel) rfl (fun z => absurd z (by decide)) (fun _ _ _ => trivial) rfl rfl ?_
  unfold f_X11_elsewhere at h
  show Ev M_X11_elsewhere 218 218 _ 0 218 rho σ [(2, (181 : Int)), (0, x1), (9, 0), (9, 0), (9, 0), (9, 0)] []
  refine ev_iconst dX11_elsewhere_0 (by decide) ?_
  refine ev_istore_n dX11_elsewhere_1 rfl (by decide) ?_
  show Ev _ _ _ _ 2 _ _ _ [(2, (181 : Int)), (0, x1), (0, (0 : Int)), (9, 0), (9, 0), (9, 0)] _
  refine ev_iconst dX11_elsewhere_2 (by decide) ?_
  refine ev_istore_n dX11_elsewhere_3 rfl (by decide) ?_
  show Ev _ _ _ _ 4 _ _ _ [(2, (181 : Int)), (0, x1), (0, (0 : Int)), (0, (0 : Int)), (9, 0), (9, 0)] _
  exact ev_sub (L2 := [(2, (181 : Int)), (0, x1), (0, (0 : Int)), (0, (0 : Int)), (9, 0), (9, 0)]) (e_X11_elsewhere_4 σ x1 (0 : Int) (0 : Int) h) ⟨.inr rfl, .inr rfl, .inr rfl, .inr rfl, .inl rfl, .inl rfl, trivial⟩
def K_X11_paperOf_50 (σ : Mem) (x1 x2 : Int) (r : Option V × Mem × Mem) : (Int × Int) ⊕ ((Int)) → Prop := Sum.elim (fun a => Ev M_X11_paperOf 218 218 r 50 218 rho σ [(2, (181 : Int)), (0, x1), (0, x2), (0, a.1), (0, a.2)] []) (fun e => Ev M_X11_paperOf 218 218 r 86 218 rho σ [(2, (181 : Int)), (0, x1), (0, x2), (0, e), (9, 0)] [])
set_option maxHeartbeats 4000000 in
set_option maxRecDepth 20000 in
theorem e_X11_paperOf_20 (σ : Mem)  {q : (Int × Mem)} (h : f_X11_paperOf_20 σ  = some q) : Ev M_X11_paperOf 218 218 (some (0, q.1), rho, q.2) 20 218 rho σ [(2, (181 : Int)), (9, 0), (9, 0), (9, 0), (9, 0)] [] := by
  unfold f_X11_paperOf_20 at h
  refine ev_aload_n dX11_paperOf_20 rfl (by decide) ?_
  refine ev_bipush dX11_paperOf_21 (by decide) (by decide) ?_
  obtain ⟨v5, hc6, h⟩ := bind_of h
  refine ev_invV_v (k := (181 : Int)) (av := [(0, (-52 : Int))]) (st := []) (v := (0, v5.1)) (τ := v5.2) dX11_paperOf_23 ml_X11_151 mv_X11_no (T := TX11) (ci := 10) rfl sp181 (by decide) (by decide) rfl ⟨Nat.le_of_ble_eq_true rfl, Nat.le_of_ble_eq_true rfl⟩ (Nat.le_of_ble_eq_true rfl) (c_X11_no hc6) ?_
  obtain rfl := Option.some.inj h
  dsimp only
  exact ev_iret dX11_paperOf_26 rfl rfl
set_option maxHeartbeats 4000000 in
set_option maxRecDepth 20000 in
theorem e_X11_paperOf_78 (σ : Mem) (x1 x2 x4 s1 s0 : Int)  {q : ((Int × Int) ⊕ ((Int)))} (h : f_X11_paperOf_78 σ x1 x2 x4 s1 s0 = some q) {r : Option V × Mem × Mem} (K : K_X11_paperOf_50 σ x1 x2 r q) : Ev M_X11_paperOf 218 218 r 78 218 rho σ [(2, (181 : Int)), (0, x1), (0, x2), (9, 0), (0, x4)] [(0, s1), (0, s0)] := by
  unfold f_X11_paperOf_78 at h
  refine ev_iadd dX11_paperOf_78 ?_
  refine ev_istore_nG dX11_paperOf_79 h rfl (by decide) (fun v9 h => ?_)
  show Ev _ _ _ _ 80 _ _ _ [(2, (181 : Int)), (0, x1), (0, x2), (0, v9), (0, x4)] _
  refine ev_iincG dX11_paperOf_80 rfl h rfl (fun v10 h => ?_)
  show Ev _ _ _ _ 83 _ _ _ [(2, (181 : Int)), (0, x1), (0, x2), (0, v9), (0, v10)] _
  refine ev_goto (tgt := 50) dX11_paperOf_83 rfl ?_
  obtain rfl := Option.some.inj h
  exact ev_sub (L2 := [(2, (181 : Int)), (0, x1), (0, x2), (0, v9), (0, v10)]) K ⟨.inr rfl, .inr rfl, .inr rfl, .inr rfl, .inr rfl, trivial⟩
set_option maxHeartbeats 4000000 in
set_option maxRecDepth 20000 in
theorem e_X11_paperOf_86 (σ : Mem) (x1 x2 x3 : Int)  {q : (Int × Mem)} (h : f_X11_paperOf_86 σ x1 x2 x3 = some q) : Ev M_X11_paperOf 218 218 (some (0, q.1), rho, q.2) 86 218 rho σ [(2, (181 : Int)), (0, x1), (0, x2), (0, x3), (9, 0)] [] := by
  unfold f_X11_paperOf_86 at h
  refine ev_iload_n dX11_paperOf_86 rfl ?_
  refine ev_iconst dX11_paperOf_87 (by decide) ?_
  refine ev_icmp_ne (tgt := 95) dX11_paperOf_88 rfl h (fun cb h => ?_) (fun cb h => ?_)
  · refine ev_aload_n dX11_paperOf_95 rfl (by decide) ?_
    refine ev_iload_n dX11_paperOf_96 rfl ?_
    obtain ⟨v11, hc12, h⟩ := bind_of h
    refine ev_invV_v (k := (181 : Int)) (av := [(0, x1)]) (st := []) (v := (0, v11.1)) (τ := v11.2) dX11_paperOf_97 ml_X11_300 mv_X11_elsewhere (T := TX11) (ci := 10) rfl sp181 (by decide) (by decide) rfl ⟨Nat.le_of_ble_eq_true rfl, Nat.le_of_ble_eq_true rfl⟩ (Nat.le_of_ble_eq_true rfl) (c_X11_elsewhere hc12) ?_
    obtain rfl := Option.some.inj h
    dsimp only
    exact ev_iret dX11_paperOf_100 rfl rfl
  refine ev_iload_n dX11_paperOf_91 rfl ?_
  refine ev_goto (tgt := 100) dX11_paperOf_92 rfl ?_
  obtain rfl := Option.some.inj h
  dsimp only
  exact ev_iret dX11_paperOf_100 rfl rfl
set_option maxHeartbeats 4000000 in
set_option maxRecDepth 20000 in
theorem b_X11_paperOf_50 (σ : Mem) (x1 x2 : Int)  {r : Option V × Mem × Mem} : ∀ a x, f_X11_paperOf_50B σ x1 x2 a = some x → K_X11_paperOf_50 σ x1 x2 r x → K_X11_paperOf_50 σ x1 x2 r (.inl a) := by
  intro a x h K
  obtain ⟨x3, x4⟩ := a
  have h : f_X11_paperOf_50C σ x1 x2 x3 x4 = some x := h
  unfold f_X11_paperOf_50C at h
  show Ev M_X11_paperOf 218 218 r 50 218 rho σ [(2, (181 : Int)), (0, x1), (0, x2), (0, x3), (0, x4)] []
  refine ev_iload dX11_paperOf_50 rfl ?_
  refine ev_aload_n dX11_paperOf_52 rfl (by decide) ?_
  refine ev_getf (j := 0) (t := 2) (x := (182 : Int)) dX11_paperOf_53 cf_X11 wf_X11_7 sp181 (by decide) (by decide) rfl (by decide) (rp181_0 _) ?_
  refine ev_bipush dX11_paperOf_56 (by decide) (by decide) ?_
  refine ev_iald dX11_paperOf_58 sp182 (by decide) (by decide) h (fun h => ?_)
  refine ev_icmp_ge (tgt := 86) dX11_paperOf_59 rfl h (fun cb h => ?_) (fun cb h => ?_)
  · obtain rfl := Option.some.inj h
    exact ev_sub (L2 := [(2, (181 : Int)), (0, x1), (0, x2), (0, x3), (9, 0)]) K ⟨.inr rfl, .inr rfl, .inr rfl, .inr rfl, .inl rfl, trivial⟩
  refine ev_iload_n dX11_paperOf_62 rfl ?_
  refine ev_aload_n dX11_paperOf_63 rfl (by decide) ?_
  refine ev_iload dX11_paperOf_64 rfl ?_
  refine ev_iload_n dX11_paperOf_66 rfl ?_
  obtain ⟨v7, hc8, h⟩ := bind_of h
  refine ev_invV_v (k := (181 : Int)) (av := [(0, x4), (0, x1)]) (st := [(0, x3)]) (v := (0, v7)) (τ := σ) dX11_paperOf_67 ml_X11_182 mv_X11_has (T := TX11) (ci := 10) rfl sp181 (by decide) (by decide) rfl ⟨Nat.le_of_ble_eq_true rfl, Nat.le_of_ble_eq_true rfl⟩ (Nat.le_of_ble_eq_true rfl) (c_X11_has hc8) ?_
  refine ev_if_eq (tgt := 77) dX11_paperOf_70 rfl h (fun cb h => ?_) (fun cb h => ?_)
  · refine ev_iconst dX11_paperOf_77 (by decide) ?_
    exact ev_sub (L2 := [(2, (181 : Int)), (0, x1), (0, x2), (9, 0), (0, x4)]) (e_X11_paperOf_78 σ x1 x2 x4 (0 : Int) x3 h K) ⟨.inr rfl, .inr rfl, .inr rfl, .inl rfl, .inr rfl, trivial⟩
  refine ev_iconst dX11_paperOf_73 (by decide) ?_
  refine ev_goto (tgt := 78) dX11_paperOf_74 rfl ?_
  exact ev_sub (L2 := [(2, (181 : Int)), (0, x1), (0, x2), (9, 0), (0, x4)]) (e_X11_paperOf_78 σ x1 x2 x4 (1 : Int) x3 h K) ⟨.inr rfl, .inr rfl, .inr rfl, .inl rfl, .inr rfl, trivial⟩
set_option maxHeartbeats 4000000 in
set_option maxRecDepth 20000 in
theorem e_X11_paperOf_50 (σ : Mem) (x1 x2 x3 x4 : Int)  {q : (Int × Mem)} (h : f_X11_paperOf_50 σ x1 x2 x3 x4 = some q) : Ev M_X11_paperOf 218 218 (some (0, q.1), rho, q.2) 50 218 rho σ [(2, (181 : Int)), (0, x1), (0, x2), (0, x3), (0, x4)] [] := by
  unfold f_X11_paperOf_50 at h
  obtain ⟨e, hl, h⟩ := bind_of h
  refine loop_ev (K := K_X11_paperOf_50 σ x1 x2 (some (0, q.1), rho, q.2)) (b_X11_paperOf_50 σ x1 x2) FU (x3, x4) e hl ?_
  show Ev M_X11_paperOf 218 218 _ 86 218 rho σ [(2, (181 : Int)), (0, x1), (0, x2), (0, e), (9, 0)] []
  replace h : f_X11_paperOf_86 σ x1 x2 e = some q := h
  exact ev_sub (L2 := [(2, (181 : Int)), (0, x1), (0, x2), (0, e), (9, 0)]) (e_X11_paperOf_86 σ x1 x2 e h) ⟨.inr rfl, .inr rfl, .inr rfl, .inr rfl, .inl rfl, trivial⟩
set_option maxHeartbeats 4000000 in
set_option maxRecDepth 20000 in
theorem c_X11_paperOf {σ : Mem} {x1 x2 : Int}  {q : (Int × Mem)} (h : f_X11_paperOf σ x1 x2 = some q) : Ms yX11_paperOf M_X11_paperOf 218 218 [(2, (181 : Int)), (0, x1), (0, x2)] rho σ (some (0, q.1), rho, q.2) := by
  refine Ms.of 2 (by decide +kernel) rfl (fun z => absurd z (by decide)) (fun _ _ _ => trivial) rfl rfl ?_
  unfold f_X11_paperOf at h
  show Ev M_X11_paperOf 218 218 _ 0 218 rho σ [(2, (181 : Int)), (0, x1), (0, x2), (9, 0), (9, 0)] []
  refine ev_aload_n dX11_paperOf_0 rfl (by decide) ?_
  refine ev_iload_n dX11_paperOf_1 rfl ?_
  obtain ⟨v1, hc2, h⟩ := bind_of h
  refine ev_invV_v (k := (181 : Int)) (av := [(0, x1)]) (st := []) (v := (0, v1)) (τ := σ) dX11_paperOf_2 ml_X11_174 mv_X11_isPaper (T := TX11) (ci := 10) rfl sp181 (by decide) (by decide) rfl ⟨Nat.le_of_ble_eq_true rfl, Nat.le_of_ble_eq_true rfl⟩ (Nat.le_of_ble_eq_true rfl) (c_X11_isPaper hc2) ?_
  refine ev_if_eq (tgt := 20) dX11_paperOf_5 rfl h (fun cb h => ?_) (fun cb h => ?_)
  · exact ev_sub (L2 := [(2, (181 : Int)), (9, 0), (9, 0), (9, 0), (9, 0)]) (e_X11_paperOf_20 σ h) ⟨.inr rfl, .inl rfl, .inl rfl, .inl rfl, .inl rfl, trivial⟩
  refine ev_iload_n dX11_paperOf_8 rfl ?_
  refine ev_i2lk dX11_paperOf_9 ?_
  refine ev_lconst (x := (0 : Int)) dX11_paperOf_10 (by decide) (by decide) ?_
  refine ev_ldc2 (x := (4 : Int)) dX11_paperOf_11 wc_X11_124 (by decide) (by decide) ?_
  obtain ⟨v3, hc4, h⟩ := bind_of h
  refine ev_invS_v (av := [(1, x2), (1, (0 : Int)), (1, (4 : Int))]) (st := []) (v := (0, v3)) (τ := σ) dX11_paperOf_14 ml_X11_120 mt_X11_isIn rfl ⟨Nat.le_of_ble_eq_true rfl, Nat.le_of_ble_eq_true rfl⟩ (Nat.le_of_ble_eq_true rfl) (c_X11_isIn hc4) ?_
  refine ev_if_ne (tgt := 27) dX11_paperOf_17 rfl h (fun cb h => ?_) (fun cb h => ?_)
  · refine ev_iload_n dX11_paperOf_27 rfl ?_
    refine ev_iconst dX11_paperOf_28 (by decide) ?_
    refine ev_icmp_ge (tgt := 45) dX11_paperOf_29 rfl h (fun cb h => ?_) (fun cb h => ?_)
    · refine ev_iconst dX11_paperOf_45 (by decide) ?_
      refine ev_istore_n dX11_paperOf_46 rfl (by decide) ?_
      show Ev _ _ _ _ 47 _ _ _ [(2, (181 : Int)), (0, x1), (0, x2), (0, (0 : Int)), (9, 0)] _
      refine ev_iconst dX11_paperOf_47 (by decide) ?_
      refine ev_istore dX11_paperOf_48 rfl (by decide) ?_
      show Ev _ _ _ _ 50 _ _ _ [(2, (181 : Int)), (0, x1), (0, x2), (0, (0 : Int)), (0, (0 : Int))] _
      exact ev_sub (L2 := [(2, (181 : Int)), (0, x1), (0, x2), (0, (0 : Int)), (0, (0 : Int))]) (e_X11_paperOf_50 σ x1 x2 (0 : Int) (0 : Int) h) ⟨.inr rfl, .inr rfl, .inr rfl, .inr rfl, .inr rfl, trivial⟩
    refine ev_aload_n dX11_paperOf_32 rfl (by decide) ?_
    refine ev_getf (j := 0) (t := 2) (x := (182 : Int)) dX11_paperOf_33 cf_X11 wf_X11_7 sp181 (by decide) (by decide) rfl (by decide) (rp181_0 _) ?_
    refine ev_iconst dX11_paperOf_36 (by decide) ?_
    refine ev_iconst dX11_paperOf_37 (by decide) ?_
    refine ev_iload_n dX11_paperOf_38 rfl ?_
    refine ev_imul dX11_paperOf_39 ?_
    refine ev_iadd dX11_paperOf_40 ?_
    refine ev_iload_n dX11_paperOf_41 rfl ?_
    refine ev_iadd dX11_paperOf_42 ?_
    refine ev_iald dX11_paperOf_43 sp182 (by decide) (by decide) h (fun h => ?_)
    obtain rfl := Option.some.inj h
    dsimp only
    exact ev_iret dX11_paperOf_44 rfl rfl
  exact ev_sub (L2 := [(2, (181 : Int)), (9, 0), (9, 0), (9, 0), (9, 0)]) (e_X11_paperOf_20 σ h) ⟨.inr rfl, .inl rfl, .inl rfl, .inl rfl, .inl rfl, trivial⟩
set_option maxHeartbeats 4000000 in
set_option maxRecDepth 20000 in
theorem e_X11_time_25 (σ : Mem)  {q : (Int × Mem)} (h : f_X11_time_25 σ  = some q) : Ev M_X11_time 218 218 (some (0, q.1), rho, q.2) 25 218 rho σ [(2, (181 : Int)), (9, 0), (9, 0)] [] := by
  unfold f_X11_time_25 at h
  refine ev_aload_n dX11_time_25 rfl (by decide) ?_
  refine ev_bipush dX11_time_26 (by decide) (by decide) ?_
  obtain ⟨v7, hc8, h⟩ := bind_of h
  refine ev_invV_v (k := (181 : Int)) (av := [(0, (-52 : Int))]) (st := []) (v := (0, v7.1)) (τ := v7.2) dX11_time_28 ml_X11_151 mv_X11_no (T := TX11) (ci := 10) rfl sp181 (by decide) (by decide) rfl ⟨Nat.le_of_ble_eq_true rfl, Nat.le_of_ble_eq_true rfl⟩ (Nat.le_of_ble_eq_true rfl) (c_X11_no hc8) ?_
  obtain rfl := Option.some.inj h
  dsimp only
  exact ev_iret dX11_time_31 rfl rfl
set_option maxHeartbeats 4000000 in
set_option maxRecDepth 20000 in
theorem c_X11_time {σ : Mem} {x1 x2 : Int}  {q : (Int × Mem)} (h : f_X11_time σ x1 x2 = some q) : Ms yX11_time M_X11_time 218 218 [(2, (181 : Int)), (0, x1), (0, x2)] rho σ (some (0, q.1), rho, q.2) := by
  refine Ms.of 0 (by decide +kernel) rfl (fun z => absurd z (by decide)) (fun _ _ _ => trivial) rfl rfl ?_
  unfold f_X11_time at h
  show Ev M_X11_time 218 218 _ 0 218 rho σ [(2, (181 : Int)), (0, x1), (0, x2)] []
  refine ev_aload_n dX11_time_0 rfl (by decide) ?_
  refine ev_iload_n dX11_time_1 rfl ?_
  obtain ⟨v1, hc2, h⟩ := bind_of h
  refine ev_invV_v (k := (181 : Int)) (av := [(0, x1)]) (st := []) (v := (0, v1)) (τ := σ) dX11_time_2 ml_X11_157 mv_X11_isCand (T := TX11) (ci := 10) rfl sp181 (by decide) (by decide) rfl ⟨Nat.le_of_ble_eq_true rfl, Nat.le_of_ble_eq_true rfl⟩ (Nat.le_of_ble_eq_true rfl) (c_X11_isCand hc2) ?_
  refine ev_if_eq (tgt := 25) dX11_time_5 rfl h (fun cb h => ?_) (fun cb h => ?_)
  · exact ev_sub (L2 := [(2, (181 : Int)), (9, 0), (9, 0)]) (e_X11_time_25 σ h) ⟨.inr rfl, .inl rfl, .inl rfl, trivial⟩
  refine ev_aload_n dX11_time_8 rfl (by decide) ?_
  refine ev_iload_n dX11_time_9 rfl ?_
  obtain ⟨v3, hc4, h⟩ := bind_of h
  refine ev_invV_v (k := (181 : Int)) (av := [(0, x2)]) (st := []) (v := (0, v3)) (τ := σ) dX11_time_10 ml_X11_174 mv_X11_isPaper (T := TX11) (ci := 10) rfl sp181 (by decide) (by decide) rfl ⟨Nat.le_of_ble_eq_true rfl, Nat.le_of_ble_eq_true rfl⟩ (Nat.le_of_ble_eq_true rfl) (c_X11_isPaper hc4) ?_
  refine ev_if_eq (tgt := 25) dX11_time_13 rfl h (fun cb h => ?_) (fun cb h => ?_)
  · exact ev_sub (L2 := [(2, (181 : Int)), (9, 0), (9, 0)]) (e_X11_time_25 σ h) ⟨.inr rfl, .inl rfl, .inl rfl, trivial⟩
  refine ev_aload_n dX11_time_16 rfl (by decide) ?_
  refine ev_iload_n dX11_time_17 rfl ?_
  refine ev_iload_n dX11_time_18 rfl ?_
  obtain ⟨v5, hc6, h⟩ := bind_of h
  refine ev_invV_v (k := (181 : Int)) (av := [(0, x1), (0, x2)]) (st := []) (v := (0, v5)) (τ := σ) dX11_time_19 ml_X11_263 mv_X11_timed (T := TX11) (ci := 10) rfl sp181 (by decide) (by decide) rfl ⟨Nat.le_of_ble_eq_true rfl, Nat.le_of_ble_eq_true rfl⟩ (Nat.le_of_ble_eq_true rfl) (c_X11_timed hc6) ?_
  refine ev_goto (tgt := 31) dX11_time_22 rfl ?_
  obtain rfl := Option.some.inj h
  dsimp only
  exact ev_iret dX11_time_31 rfl rfl
set_option maxHeartbeats 4000000 in
set_option maxRecDepth 20000 in
theorem e_X11_plan_27 (σ : Mem)  {q : (Int × Mem)} (h : f_X11_plan_27 σ  = some q) : Ev M_X11_plan 218 218 (some (0, q.1), rho, q.2) 27 218 rho σ [(2, (181 : Int)), (9, 0), (9, 0), (9, 0)] [] := by
  unfold f_X11_plan_27 at h
  refine ev_aload_n dX11_plan_27 rfl (by decide) ?_
  refine ev_bipush dX11_plan_28 (by decide) (by decide) ?_
  obtain ⟨v11, hc12, h⟩ := bind_of h
  refine ev_invV_v (k := (181 : Int)) (av := [(0, (-52 : Int))]) (st := []) (v := (0, v11.1)) (τ := v11.2) dX11_plan_30 ml_X11_151 mv_X11_no (T := TX11) (ci := 10) rfl sp181 (by decide) (by decide) rfl ⟨Nat.le_of_ble_eq_true rfl, Nat.le_of_ble_eq_true rfl⟩ (Nat.le_of_ble_eq_true rfl) (c_X11_no hc12) ?_
  obtain rfl := Option.some.inj h
  dsimp only
  exact ev_iret dX11_plan_33 rfl rfl
set_option maxHeartbeats 4000000 in
set_option maxRecDepth 20000 in
theorem c_X11_plan {σ : Mem} {x1 x2 x3 : Int}  {q : (Int × Mem)} (h : f_X11_plan σ x1 x2 x3 = some q) : Ms yX11_plan M_X11_plan 218 218 [(2, (181 : Int)), (0, x1), (0, x2), (0, x3)] rho σ (some (0, q.1), rho, q.2) := by
  refine Ms.of 0 (by decide +kernel) rfl (fun z => absurd z (by decide)) (fun _ _ _ => trivial) rfl rfl ?_
  unfold f_X11_plan at h
  show Ev M_X11_plan 218 218 _ 0 218 rho σ [(2, (181 : Int)), (0, x1), (0, x2), (0, x3)] []
  refine ev_aload_n dX11_plan_0 rfl (by decide) ?_
  refine ev_iload_n dX11_plan_1 rfl ?_
  obtain ⟨v1, hc2, h⟩ := bind_of h
  refine ev_invV_v (k := (181 : Int)) (av := [(0, x1)]) (st := []) (v := (0, v1)) (τ := σ) dX11_plan_2 ml_X11_157 mv_X11_isCand (T := TX11) (ci := 10) rfl sp181 (by decide) (by decide) rfl ⟨Nat.le_of_ble_eq_true rfl, Nat.le_of_ble_eq_true rfl⟩ (Nat.le_of_ble_eq_true rfl) (c_X11_isCand hc2) ?_
  refine ev_if_eq (tgt := 27) dX11_plan_5 rfl h (fun cb h => ?_) (fun cb h => ?_)
  · exact ev_sub (L2 := [(2, (181 : Int)), (9, 0), (9, 0), (9, 0)]) (e_X11_plan_27 σ h) ⟨.inr rfl, .inl rfl, .inl rfl, .inl rfl, trivial⟩
  refine ev_iload_n dX11_plan_8 rfl ?_
  obtain ⟨v3, hc4, h⟩ := bind_of h
  refine ev_invS_v (av := [(0, x2)]) (st := []) (v := (0, v3)) (τ := σ) dX11_plan_9 ml_X11_168 mt_X11_isDay rfl ⟨Nat.le_of_ble_eq_true rfl, Nat.le_of_ble_eq_true rfl⟩ (Nat.le_of_ble_eq_true rfl) (c_X11_isDay hc4) ?_
  refine ev_if_eq (tgt := 27) dX11_plan_12 rfl h (fun cb h => ?_) (fun cb h => ?_)
  · exact ev_sub (L2 := [(2, (181 : Int)), (9, 0), (9, 0), (9, 0)]) (e_X11_plan_27 σ h) ⟨.inr rfl, .inl rfl, .inl rfl, .inl rfl, trivial⟩
  refine ev_iload_n dX11_plan_15 rfl ?_
  refine ev_i2lk dX11_plan_16 ?_
  refine ev_lconst (x := (0 : Int)) dX11_plan_17 (by decide) (by decide) ?_
  refine ev_ldc2 (x := (6 : Int)) dX11_plan_18 wc_X11_303 (by decide) (by decide) ?_
  obtain ⟨v5, hc6, h⟩ := bind_of h
  refine ev_invS_v (av := [(1, x3), (1, (0 : Int)), (1, (6 : Int))]) (st := []) (v := (0, v5)) (τ := σ) dX11_plan_21 ml_X11_120 mt_X11_isIn rfl ⟨Nat.le_of_ble_eq_true rfl, Nat.le_of_ble_eq_true rfl⟩ (Nat.le_of_ble_eq_true rfl) (c_X11_isIn hc6) ?_
  refine ev_if_ne (tgt := 34) dX11_plan_24 rfl h (fun cb h => ?_) (fun cb h => ?_)
  · refine ev_aload_n dX11_plan_34 rfl (by decide) ?_
    refine ev_iload_n dX11_plan_35 rfl ?_
    obtain ⟨σ7, hc8, h⟩ := bind_of h
    refine ev_invV_n (k := (181 : Int)) (av := [(0, x1)]) (st := []) (τ := σ7) dX11_plan_36 ml_X11_290 mv_X11_plans (T := TX11) (ci := 10) rfl sp181 (by decide) (by decide) rfl ⟨Nat.le_of_ble_eq_true rfl, Nat.le_of_ble_eq_true rfl⟩ (Nat.le_of_ble_eq_true rfl) (c_X11_plans hc8) ?_
    refine ev_iload_n dX11_plan_39 rfl ?_
    refine ev_by h (fun cs h => ?_) (fun cs0 h => ?_)
    · refine ev_tswIn (off := 40) (tgt := 80) dX11_plan_40 (by rw [cs]; decide) (by rw [cs]; decide) (by rw [cs]; rfl) rfl ?_
      refine ev_aload_n dX11_plan_80 rfl (by decide) ?_
      refine ev_getf (j := 19) (t := 2) (x := (195 : Int)) dX11_plan_81 cf_X11 wf_X11_51 sp181 (by decide) (by decide) rfl (by decide) (rp181_19 _) ?_
      refine ev_iload_n dX11_plan_84 rfl ?_
      refine ev_iald dX11_plan_85 sp195 (by decide) (by decide) h (fun h => ?_)
      obtain rfl := Option.some.inj h
      dsimp only
      exact ev_iret dX11_plan_86 rfl rfl
    refine ev_by h (fun cs h => ?_) (fun cs1 h => ?_)
    · refine ev_tswIn (off := 47) (tgt := 87) dX11_plan_40 (by rw [cs]; decide) (by rw [cs]; decide) (by rw [cs]; rfl) rfl ?_
      refine ev_aload_n dX11_plan_87 rfl (by decide) ?_
      refine ev_getf (j := 20) (t := 2) (x := (196 : Int)) dX11_plan_88 cf_X11 wf_X11_54 sp181 (by decide) (by decide) rfl (by decide) (rp181_20 _) ?_
      refine ev_iload_n dX11_plan_91 rfl ?_
      refine ev_iald dX11_plan_92 sp196 (by decide) (by decide) h (fun h => ?_)
      obtain rfl := Option.some.inj h
      dsimp only
      exact ev_iret dX11_plan_93 rfl rfl
    refine ev_by h (fun cs h => ?_) (fun cs2 h => ?_)
    · refine ev_tswIn (off := 54) (tgt := 94) dX11_plan_40 (by rw [cs]; decide) (by rw [cs]; decide) (by rw [cs]; rfl) rfl ?_
      refine ev_aload_n dX11_plan_94 rfl (by decide) ?_
      refine ev_getf (j := 21) (t := 2) (x := (197 : Int)) dX11_plan_95 cf_X11 wf_X11_57 sp181 (by decide) (by decide) rfl (by decide) (rp181_21 _) ?_
      refine ev_iload_n dX11_plan_98 rfl ?_
      refine ev_iald dX11_plan_99 sp197 (by decide) (by decide) h (fun h => ?_)
      obtain rfl := Option.some.inj h
      dsimp only
      exact ev_iret dX11_plan_100 rfl rfl
    refine ev_by h (fun cs h => ?_) (fun cs3 h => ?_)
    · refine ev_tswIn (off := 61) (tgt := 101) dX11_plan_40 (by rw [cs]; decide) (by rw [cs]; decide) (by rw [cs]; rfl) rfl ?_
      refine ev_aload_n dX11_plan_101 rfl (by decide) ?_
      refine ev_getf (j := 22) (t := 2) (x := (198 : Int)) dX11_plan_102 cf_X11 wf_X11_60 sp181 (by decide) (by decide) rfl (by decide) (rp181_22 _) ?_
      refine ev_iload_n dX11_plan_105 rfl ?_
      refine ev_iald dX11_plan_106 sp198 (by decide) (by decide) h (fun h => ?_)
      obtain rfl := Option.some.inj h
      dsimp only
      exact ev_iret dX11_plan_107 rfl rfl
    refine ev_by h (fun cs h => ?_) (fun cs4 h => ?_)
    · refine ev_tswIn (off := 68) (tgt := 108) dX11_plan_40 (by rw [cs]; decide) (by rw [cs]; decide) (by rw [cs]; rfl) rfl ?_
      refine ev_aload_n dX11_plan_108 rfl (by decide) ?_
      refine ev_getf (j := 23) (t := 2) (x := (199 : Int)) dX11_plan_109 cf_X11 wf_X11_63 sp181 (by decide) (by decide) rfl (by decide) (rp181_23 _) ?_
      refine ev_iload_n dX11_plan_112 rfl ?_
      refine ev_iald dX11_plan_113 sp199 (by decide) (by decide) h (fun h => ?_)
      obtain rfl := Option.some.inj h
      dsimp only
      exact ev_iret dX11_plan_114 rfl rfl
    refine ev_by h (fun cs h => ?_) (fun cs5 h => ?_)
    · refine ev_tswIn (off := 75) (tgt := 115) dX11_plan_40 (by rw [cs]; decide) (by rw [cs]; decide) (by rw [cs]; rfl) rfl ?_
      refine ev_aload_n dX11_plan_115 rfl (by decide) ?_
      refine ev_getf (j := 24) (t := 2) (x := (200 : Int)) dX11_plan_116 cf_X11 wf_X11_66 sp181 (by decide) (by decide) rfl (by decide) (rp181_24 _) ?_
      refine ev_iload_n dX11_plan_119 rfl ?_
      refine ev_iald dX11_plan_120 sp200 (by decide) (by decide) h (fun h => ?_)
      obtain rfl := Option.some.inj h
      dsimp only
      exact ev_iret dX11_plan_121 rfl rfl
    refine ev_tswOut (tgt := 122) dX11_plan_40 (by omega) rfl ?_
    refine ev_aload_n dX11_plan_122 rfl (by decide) ?_
    refine ev_iload_n dX11_plan_123 rfl ?_
    refine ev_iload_n dX11_plan_124 rfl ?_
    obtain ⟨v9, hc10, h⟩ := bind_of h
    refine ev_invV_v (k := (181 : Int)) (av := [(0, x1), (0, x2)]) (st := []) (v := (0, v9.1)) (τ := v9.2) dX11_plan_125 ml_X11_305 mv_X11_clash (T := TX11) (ci := 10) rfl sp181 (by decide) (by decide) rfl ⟨Nat.le_of_ble_eq_true rfl, Nat.le_of_ble_eq_true rfl⟩ (Nat.le_of_ble_eq_true rfl) (c_X11_clash hc10) ?_
    obtain rfl := Option.some.inj h
    dsimp only
    exact ev_iret dX11_plan_128 rfl rfl
  exact ev_sub (L2 := [(2, (181 : Int)), (9, 0), (9, 0), (9, 0)]) (e_X11_plan_27 σ h) ⟨.inr rfl, .inl rfl, .inl rfl, .inl rfl, trivial⟩
set_option maxHeartbeats 4000000 in
set_option maxRecDepth 20000 in
theorem e_X11_sits_28 (σ : Mem)  {q : (Int × Mem)} (h : f_X11_sits_28 σ  = some q) : Ev M_X11_sits 218 218 (some (0, q.1), rho, q.2) 28 218 rho σ [(2, (181 : Int)), (9, 0), (9, 0), (9, 0), (9, 0), (9, 0), (9, 0)] [] := by
  unfold f_X11_sits_28 at h
  refine ev_aload_n dX11_sits_28 rfl (by decide) ?_
  refine ev_bipush dX11_sits_29 (by decide) (by decide) ?_
  obtain ⟨v17, hc18, h⟩ := bind_of h
  refine ev_invV_v (k := (181 : Int)) (av := [(0, (-52 : Int))]) (st := []) (v := (0, v17.1)) (τ := v17.2) dX11_sits_31 ml_X11_151 mv_X11_no (T := TX11) (ci := 10) rfl sp181 (by decide) (by decide) rfl ⟨Nat.le_of_ble_eq_true rfl, Nat.le_of_ble_eq_true rfl⟩ (Nat.le_of_ble_eq_true rfl) (c_X11_no hc18) ?_
  obtain rfl := Option.some.inj h
  dsimp only
  exact ev_iret dX11_sits_34 rfl rfl
set_option maxHeartbeats 4000000 in
set_option maxRecDepth 20000 in
theorem c_X11_sits {σ : Mem} {x1 x2 x3 x4 : Int}  {q : (Int × Mem)} (h : f_X11_sits σ x1 x2 x3 x4 = some q) : Ms yX11_sits M_X11_sits 218 218 [(2, (181 : Int)), (0, x1), (0, x2), (0, x3), (0, x4)] rho σ (some (0, q.1), rho, q.2) := by
  refine Ms.of 2 (by decide +kernel) rfl (fun z => absurd z (by decide)) (fun _ _ _ => trivial) rfl rfl ?_
  unfold f_X11_sits at h
  show Ev M_X11_sits 218 218 _ 0 218 rho σ [(2, (181 : Int)), (0, x1), (0, x2), (0, x3), (0, x4), (9, 0), (9, 0)] []
  refine ev_aload_n dX11_sits_0 rfl (by decide) ?_
  refine ev_iload_n dX11_sits_1 rfl ?_
  obtain ⟨v1, hc2, h⟩ := bind_of h
  refine ev_invV_v (k := (181 : Int)) (av := [(0, x1)]) (st := []) (v := (0, v1)) (τ := σ) dX11_sits_2 ml_X11_157 mv_X11_isCand (T := TX11) (ci := 10) rfl sp181 (by decide) (by decide) rfl ⟨Nat.le_of_ble_eq_true rfl, Nat.le_of_ble_eq_true rfl⟩ (Nat.le_of_ble_eq_true rfl) (c_X11_isCand hc2) ?_
  refine ev_if_eq (tgt := 28) dX11_sits_5 rfl h (fun cb h => ?_) (fun cb h => ?_)
  · exact ev_sub (L2 := [(2, (181 : Int)), (9, 0), (9, 0), (9, 0), (9, 0), (9, 0), (9, 0)]) (e_X11_sits_28 σ h) ⟨.inr rfl, .inl rfl, .inl rfl, .inl rfl, .inl rfl, .inl rfl, .inl rfl, trivial⟩
  refine ev_iload_n dX11_sits_8 rfl ?_
  obtain ⟨v3, hc4, h⟩ := bind_of h
  refine ev_invS_v (av := [(0, x2)]) (st := []) (v := (0, v3)) (τ := σ) dX11_sits_9 ml_X11_168 mt_X11_isDay rfl ⟨Nat.le_of_ble_eq_true rfl, Nat.le_of_ble_eq_true rfl⟩ (Nat.le_of_ble_eq_true rfl) (c_X11_isDay hc4) ?_
  refine ev_if_eq (tgt := 28) dX11_sits_12 rfl h (fun cb h => ?_) (fun cb h => ?_)
  · exact ev_sub (L2 := [(2, (181 : Int)), (9, 0), (9, 0), (9, 0), (9, 0), (9, 0), (9, 0)]) (e_X11_sits_28 σ h) ⟨.inr rfl, .inl rfl, .inl rfl, .inl rfl, .inl rfl, .inl rfl, .inl rfl, trivial⟩
  refine ev_iload dX11_sits_15 rfl ?_
  refine ev_i2lk dX11_sits_17 ?_
  refine ev_lconst (x := (0 : Int)) dX11_sits_18 (by decide) (by decide) ?_
  refine ev_ldc2 (x := (2 : Int)) dX11_sits_19 wc_X11_308 (by decide) (by decide) ?_
  obtain ⟨v5, hc6, h⟩ := bind_of h
  refine ev_invS_v (av := [(1, x4), (1, (0 : Int)), (1, (2 : Int))]) (st := []) (v := (0, v5)) (τ := σ) dX11_sits_22 ml_X11_120 mt_X11_isIn rfl ⟨Nat.le_of_ble_eq_true rfl, Nat.le_of_ble_eq_true rfl⟩ (Nat.le_of_ble_eq_true rfl) (c_X11_isIn hc6) ?_
  refine ev_if_ne (tgt := 35) dX11_sits_25 rfl h (fun cb h => ?_) (fun cb h => ?_)
  · refine ev_aload_n dX11_sits_35 rfl (by decide) ?_
    refine ev_iload_n dX11_sits_36 rfl ?_
    obtain ⟨σ7, hc8, h⟩ := bind_of h
    refine ev_invV_n (k := (181 : Int)) (av := [(0, x1)]) (st := []) (τ := σ7) dX11_sits_37 ml_X11_290 mv_X11_plans (T := TX11) (ci := 10) rfl sp181 (by decide) (by decide) rfl ⟨Nat.le_of_ble_eq_true rfl, Nat.le_of_ble_eq_true rfl⟩ (Nat.le_of_ble_eq_true rfl) (c_X11_plans hc8) ?_
    refine ev_iload_n dX11_sits_40 rfl ?_
    refine ev_i2lk dX11_sits_41 ?_
    refine ev_lconst (x := (0 : Int)) dX11_sits_42 (by decide) (by decide) ?_
    refine ev_aload_n dX11_sits_43 rfl (by decide) ?_
    refine ev_getf (j := 24) (t := 2) (x := (200 : Int)) dX11_sits_44 cf_X11 wf_X11_66 sp181 (by decide) (by decide) rfl (by decide) (rp181_24 _) ?_
    refine ev_iload_n dX11_sits_47 rfl ?_
    refine ev_iald dX11_sits_48 sp200 (by decide) (by decide) h (fun h => ?_)
    refine ev_iconst dX11_sits_49 (by decide) ?_
    show Ev _ _ _ _ 50 _ _ _ _ _
    refine ev_isub dX11_sits_50 ?_
    refine ev_i2lk dX11_sits_51 ?_
    obtain ⟨v9, hc10, h⟩ := bind_of h
    refine ev_invS_v (av := [(1, x3), (1, (0 : Int)), (1, (jsub (σ7 (200 : Int) x2) (1 : Int)))]) (st := []) (v := (0, v9)) (τ := σ7) dX11_sits_52 ml_X11_120 mt_X11_isIn rfl ⟨Nat.le_of_ble_eq_true rfl, Nat.le_of_ble_eq_true rfl⟩ (Nat.le_of_ble_eq_true rfl) (c_X11_isIn hc10) ?_
    refine ev_if_ne (tgt := 65) dX11_sits_55 rfl h (fun cb h => ?_) (fun cb h => ?_)
    · refine ev_aload_n dX11_sits_65 rfl (by decide) ?_
      refine ev_getf (j := 25) (t := 2) (x := (201 : Int)) dX11_sits_66 cf_X11 wf_X11_69 sp181 (by decide) (by decide) rfl (by decide) (rp181_25 _) ?_
      refine ev_iconst dX11_sits_69 (by decide) ?_
      refine ev_iload_n dX11_sits_70 rfl ?_
      refine ev_imul dX11_sits_71 ?_
      refine ev_iload_n dX11_sits_72 rfl ?_
      refine ev_iadd dX11_sits_73 ?_
      refine ev_iald dX11_sits_74 sp201 (by decide) (by decide) h (fun h => ?_)
      refine ev_istoreG dX11_sits_75 h rfl (by decide) (fun v11 h => ?_)
      show Ev _ _ _ _ 77 _ _ _ [(2, (181 : Int)), (0, x1), (0, x2), (0, x3), (0, x4), (0, v11), (9, 0)] _
      refine ev_aload_n dX11_sits_77 rfl (by decide) ?_
      refine ev_getf (j := 26) (t := 2) (x := (202 : Int)) dX11_sits_78 cf_X11 wf_X11_72 sp181 (by decide) (by decide) rfl (by decide) (rp181_26 _) ?_
      show Ev _ _ _ _ 81 _ _ _ _ _
      refine ev_iconst dX11_sits_81 (by decide) ?_
      refine ev_iload_n dX11_sits_82 rfl ?_
      refine ev_imul dX11_sits_83 ?_
      refine ev_iload_n dX11_sits_84 rfl ?_
      refine ev_iadd dX11_sits_85 ?_
      refine ev_iald dX11_sits_86 sp202 (by decide) (by decide) h (fun h => ?_)
      refine ev_istoreG dX11_sits_87 h rfl (by decide) (fun v12 h => ?_)
      show Ev _ _ _ _ 89 _ _ _ [(2, (181 : Int)), (0, x1), (0, x2), (0, x3), (0, x4), (0, v11), (0, v12)] _
      refine ev_iload dX11_sits_89 rfl ?_
      refine ev_if_ne (tgt := 99) dX11_sits_91 rfl h (fun cb h => ?_) (fun cb h => ?_)
      · refine ev_iload dX11_sits_99 rfl ?_
        refine ev_iconst dX11_sits_101 (by decide) ?_
        refine ev_icmp_ne (tgt := 110) dX11_sits_102 rfl h (fun cb h => ?_) (fun cb h => ?_)
        · refine ev_iload dX11_sits_110 rfl ?_
          refine ev_aload_n dX11_sits_112 rfl (by decide) ?_
          refine ev_iload_n dX11_sits_113 rfl ?_
          refine ev_iload dX11_sits_114 rfl ?_
          obtain ⟨v13, hc14, h⟩ := bind_of h
          refine ev_invV_v (k := (181 : Int)) (av := [(0, x1), (0, v11)]) (st := [(0, v12)]) (v := (0, v13)) (τ := σ7) dX11_sits_116 ml_X11_263 mv_X11_timed (T := TX11) (ci := 10) rfl sp181 (by decide) (by decide) rfl ⟨Nat.le_of_ble_eq_true rfl, Nat.le_of_ble_eq_true rfl⟩ (Nat.le_of_ble_eq_true rfl) (c_X11_timed hc14) ?_
          refine ev_iadd dX11_sits_119 ?_
          obtain rfl := Option.some.inj h
          dsimp only
          exact ev_iret dX11_sits_120 rfl rfl
        refine ev_iload dX11_sits_105 rfl ?_
        refine ev_goto (tgt := 120) dX11_sits_107 rfl ?_
        obtain rfl := Option.some.inj h
        dsimp only
        exact ev_iret dX11_sits_120 rfl rfl
      refine ev_iload dX11_sits_94 rfl ?_
      refine ev_goto (tgt := 120) dX11_sits_96 rfl ?_
      obtain rfl := Option.some.inj h
      dsimp only
      exact ev_iret dX11_sits_120 rfl rfl
    refine ev_aload_n dX11_sits_58 rfl (by decide) ?_
    refine ev_bipush dX11_sits_59 (by decide) (by decide) ?_
    obtain ⟨v15, hc16, h⟩ := bind_of h
    refine ev_invV_v (k := (181 : Int)) (av := [(0, (-52 : Int))]) (st := []) (v := (0, v15.1)) (τ := v15.2) dX11_sits_61 ml_X11_151 mv_X11_no (T := TX11) (ci := 10) rfl sp181 (by decide) (by decide) rfl ⟨Nat.le_of_ble_eq_true rfl, Nat.le_of_ble_eq_true rfl⟩ (Nat.le_of_ble_eq_true rfl) (c_X11_no hc16) ?_
    obtain rfl := Option.some.inj h
    dsimp only
    exact ev_iret dX11_sits_64 rfl rfl
  exact ev_sub (L2 := [(2, (181 : Int)), (9, 0), (9, 0), (9, 0), (9, 0), (9, 0), (9, 0)]) (e_X11_sits_28 σ h) ⟨.inr rfl, .inl rfl, .inl rfl, .inl rfl, .inl rfl, .inl rfl, .inl rfl, trivial⟩
set_option maxHeartbeats 4000000 in
set_option maxRecDepth 20000 in
theorem e_X11_does_22 (σ : Mem)  {q : (Int × Mem)} (h : f_X11_does_22 σ  = some q) : Ev M_X11_does 218 218 (some (0, q.1), rho, q.2) 22 218 rho σ [(2, (181 : Int)), (9, 0), (9, 0), (9, 0)] [] := by
  unfold f_X11_does_22 at h
  refine ev_aload_n dX11_does_22 rfl (by decide) ?_
  refine ev_bipush dX11_does_23 (by decide) (by decide) ?_
  obtain ⟨v11, hc12, h⟩ := bind_of h
  refine ev_invV_v (k := (181 : Int)) (av := [(0, (-52 : Int))]) (st := []) (v := (0, v11.1)) (τ := v11.2) dX11_does_25 ml_X11_151 mv_X11_no (T := TX11) (ci := 10) rfl sp181 (by decide) (by decide) rfl ⟨Nat.le_of_ble_eq_true rfl, Nat.le_of_ble_eq_true rfl⟩ (Nat.le_of_ble_eq_true rfl) (c_X11_no hc12) ?_
  obtain rfl := Option.some.inj h
  dsimp only
  exact ev_iret dX11_does_28 rfl rfl
set_option maxHeartbeats 4000000 in
set_option maxRecDepth 20000 in
theorem c_X11_does {σ : Mem} {x1 x2 x3 : Int}  {q : (Int × Mem)} (h : f_X11_does σ x1 x2 x3 = some q) : Ms yX11_does M_X11_does 218 218 [(2, (181 : Int)), (0, x1), (0, x2), (0, x3)] rho σ (some (0, q.1), rho, q.2) := by
  refine Ms.of 0 (by decide +kernel) rfl (fun z => absurd z (by decide)) (fun _ _ _ => trivial) rfl rfl ?_
  unfold f_X11_does at h
  show Ev M_X11_does 218 218 _ 0 218 rho σ [(2, (181 : Int)), (0, x1), (0, x2), (0, x3)] []
  refine ev_aload_n dX11_does_0 rfl (by decide) ?_
  refine ev_iload_n dX11_does_1 rfl ?_
  obtain ⟨v1, hc2, h⟩ := bind_of h
  refine ev_invV_v (k := (181 : Int)) (av := [(0, x1)]) (st := []) (v := (0, v1)) (τ := σ) dX11_does_2 ml_X11_157 mv_X11_isCand (T := TX11) (ci := 10) rfl sp181 (by decide) (by decide) rfl ⟨Nat.le_of_ble_eq_true rfl, Nat.le_of_ble_eq_true rfl⟩ (Nat.le_of_ble_eq_true rfl) (c_X11_isCand hc2) ?_
  refine ev_if_eq (tgt := 22) dX11_does_5 rfl h (fun cb h => ?_) (fun cb h => ?_)
  · exact ev_sub (L2 := [(2, (181 : Int)), (9, 0), (9, 0), (9, 0)]) (e_X11_does_22 σ h) ⟨.inr rfl, .inl rfl, .inl rfl, .inl rfl, trivial⟩
  refine ev_iload_n dX11_does_8 rfl ?_
  obtain ⟨v3, hc4, h⟩ := bind_of h
  refine ev_invS_v (av := [(0, x2)]) (st := []) (v := (0, v3)) (τ := σ) dX11_does_9 ml_X11_168 mt_X11_isDay rfl ⟨Nat.le_of_ble_eq_true rfl, Nat.le_of_ble_eq_true rfl⟩ (Nat.le_of_ble_eq_true rfl) (c_X11_isDay hc4) ?_
  refine ev_if_eq (tgt := 22) dX11_does_12 rfl h (fun cb h => ?_) (fun cb h => ?_)
  · exact ev_sub (L2 := [(2, (181 : Int)), (9, 0), (9, 0), (9, 0)]) (e_X11_does_22 σ h) ⟨.inr rfl, .inl rfl, .inl rfl, .inl rfl, trivial⟩
  refine ev_iload_n dX11_does_15 rfl ?_
  obtain ⟨v5, hc6, h⟩ := bind_of h
  refine ev_invS_v (av := [(0, x3)]) (st := []) (v := (0, v5)) (τ := σ) dX11_does_16 ml_X11_171 mt_X11_isSlot rfl ⟨Nat.le_of_ble_eq_true rfl, Nat.le_of_ble_eq_true rfl⟩ (Nat.le_of_ble_eq_true rfl) (c_X11_isSlot hc6) ?_
  refine ev_if_ne (tgt := 29) dX11_does_19 rfl h (fun cb h => ?_) (fun cb h => ?_)
  · refine ev_aload_n dX11_does_29 rfl (by decide) ?_
    refine ev_iload_n dX11_does_30 rfl ?_
    obtain ⟨σ7, hc8, h⟩ := bind_of h
    refine ev_invV_n (k := (181 : Int)) (av := [(0, x1)]) (st := []) (τ := σ7) dX11_does_31 ml_X11_290 mv_X11_plans (T := TX11) (ci := 10) rfl sp181 (by decide) (by decide) rfl ⟨Nat.le_of_ble_eq_true rfl, Nat.le_of_ble_eq_true rfl⟩ (Nat.le_of_ble_eq_true rfl) (c_X11_plans hc8) ?_
    refine ev_aload_n dX11_does_34 rfl (by decide) ?_
    refine ev_iload_n dX11_does_35 rfl ?_
    refine ev_iload_n dX11_does_36 rfl ?_
    refine ev_iload_n dX11_does_37 rfl ?_
    obtain ⟨v9, hc10, h⟩ := bind_of h
    refine ev_invV_v (k := (181 : Int)) (av := [(0, x1), (0, x2), (0, x3)]) (st := []) (v := (0, v9)) (τ := σ7) dX11_does_38 ml_X11_310 mv_X11_doing (T := TX11) (ci := 10) rfl sp181 (by decide) (by decide) rfl ⟨Nat.le_of_ble_eq_true rfl, Nat.le_of_ble_eq_true rfl⟩ (Nat.le_of_ble_eq_true rfl) (c_X11_doing hc10) ?_
    obtain rfl := Option.some.inj h
    dsimp only
    exact ev_iret dX11_does_41 rfl rfl
  exact ev_sub (L2 := [(2, (181 : Int)), (9, 0), (9, 0), (9, 0)]) (e_X11_does_22 σ h) ⟨.inr rfl, .inl rfl, .inl rfl, .inl rfl, trivial⟩
def K_X11_measured_12 (σ : Mem) (x1 x2 x3 : Int) (r : Option V × Mem × Mem) : (Int × Int × Int × Int) ⊕ ((Int × Int × Int)) → Prop := Sum.elim (fun a => Ev M_X11_measured 218 218 r 12 218 rho σ [(2, (181 : Int)), (0, x1), (0, x2), (0, x3), (0, a.1), (0, a.2.1), (0, a.2.2.1), (0, a.2.2.2), (9, 0)] []) (fun e => Ev M_X11_measured 218 218 r 76 218 rho σ [(2, (181 : Int)), (0, x1), (0, x2), (0, x3), (0, e.1), (0, e.2.1), (0, e.2.2), (9, 0), (9, 0)] [])
set_option maxHeartbeats 4000000 in
set_option maxRecDepth 20000 in
theorem e_X11_measured_58 (σ : Mem) (x1 x2 x3 x4 x6 x7 x8 s1 s0 : Int)  {q : ((Int × Int × Int × Int) ⊕ ((Int × Int × Int)))} (h : f_X11_measured_58 σ x1 x2 x3 x4 x6 x7 x8 s1 s0 = some q) {r : Option V × Mem × Mem} (K : K_X11_measured_12 σ x1 x2 x3 r q) : Ev M_X11_measured 218 218 r 58 218 rho σ [(2, (181 : Int)), (0, x1), (0, x2), (0, x3), (0, x4), (9, 0), (0, x6), (0, x7), (0, x8)] [(0, s1), (0, s0)] := by
  unfold f_X11_measured_58 at h
  refine ev_iadd dX11_measured_58 ?_
  refine ev_istoreG dX11_measured_59 h rfl (by decide) (fun v5 h => ?_)
  show Ev _ _ _ _ 61 _ _ _ [(2, (181 : Int)), (0, x1), (0, x2), (0, x3), (0, x4), (0, v5), (0, x6), (0, x7), (0, x8)] _
  refine ev_iload dX11_measured_61 rfl ?_
  refine ev_iload dX11_measured_63 rfl ?_
  refine ev_mx dX11_measured_65 wa_X11_258 wm_max (by decide) (Nat.le_of_ble_eq_true rfl) ?_
  refine ev_istoreG dX11_measured_68 h rfl (by decide) (fun v6 h => ?_)
  show Ev _ _ _ _ 70 _ _ _ [(2, (181 : Int)), (0, x1), (0, x2), (0, x3), (0, x4), (0, v5), (0, v6), (0, x7), (0, x8)] _
  refine ev_iincG dX11_measured_70 rfl h rfl (fun v7 h => ?_)
  show Ev _ _ _ _ 73 _ _ _ [(2, (181 : Int)), (0, x1), (0, x2), (0, x3), (0, x4), (0, v5), (0, v6), (0, v7), (0, x8)] _
  refine ev_goto (tgt := 12) dX11_measured_73 rfl ?_
  obtain rfl := Option.some.inj h
  exact ev_sub (L2 := [(2, (181 : Int)), (0, x1), (0, x2), (0, x3), (0, x4), (0, v5), (0, v6), (0, v7), (9, 0)]) K ⟨.inr rfl, .inr rfl, .inr rfl, .inr rfl, .inr rfl, .inr rfl, .inr rfl, .inr rfl, .inl rfl, trivial⟩
set_option maxHeartbeats 4000000 in
set_option maxRecDepth 20000 in
theorem e_X11_measured_76 (σ : Mem) (x1 x2 x3 x4 x5 x6 : Int)  {q : Int} (h : f_X11_measured_76 σ x1 x2 x3 x4 x5 x6 = some q) : Ev M_X11_measured 218 218 (some (0, q), rho, σ) 76 218 rho σ [(2, (181 : Int)), (0, x1), (0, x2), (0, x3), (0, x4), (0, x5), (0, x6), (9, 0), (9, 0)] [] := by
  unfold f_X11_measured_76 at h
  refine ev_iload_n dX11_measured_76 rfl ?_
  refine ev_if_ne (tgt := 90) dX11_measured_77 rfl h (fun cb h => ?_) (fun cb h => ?_)
  · refine ev_iload_n dX11_measured_90 rfl ?_
    refine ev_iconst dX11_measured_91 (by decide) ?_
    refine ev_icmp_ne (tgt := 106) dX11_measured_92 rfl h (fun cb h => ?_) (fun cb h => ?_)
    · refine ev_iload_n dX11_measured_106 rfl ?_
      refine ev_iconst dX11_measured_107 (by decide) ?_
      refine ev_icmp_ne (tgt := 116) dX11_measured_108 rfl h (fun cb h => ?_) (fun cb h => ?_)
      · refine ev_iload_n dX11_measured_116 rfl ?_
        refine ev_iconst dX11_measured_117 (by decide) ?_
        refine ev_icmp_ne (tgt := 126) dX11_measured_118 rfl h (fun cb h => ?_) (fun cb h => ?_)
        · refine ev_iload dX11_measured_126 rfl ?_
          obtain rfl := Option.some.inj h
          exact ev_iret dX11_measured_128 rfl rfl
        refine ev_iload dX11_measured_121 rfl ?_
        refine ev_goto (tgt := 128) dX11_measured_123 rfl ?_
        obtain rfl := Option.some.inj h
        exact ev_iret dX11_measured_128 rfl rfl
      refine ev_iload dX11_measured_111 rfl ?_
      refine ev_goto (tgt := 128) dX11_measured_113 rfl ?_
      obtain rfl := Option.some.inj h
      exact ev_iret dX11_measured_128 rfl rfl
    refine ev_aload_n dX11_measured_95 rfl (by decide) ?_
    refine ev_getf (j := 18) (t := 2) (x := (194 : Int)) dX11_measured_96 cf_X11 wf_X11_48 sp181 (by decide) (by decide) rfl (by decide) (rp181_18 _) ?_
    refine ev_iload_n dX11_measured_99 rfl ?_
    refine ev_iconst dX11_measured_100 (by decide) ?_
    refine ev_isub dX11_measured_101 ?_
    refine ev_iald dX11_measured_102 sp194 (by decide) (by decide) h (fun h => ?_)
    refine ev_goto (tgt := 128) dX11_measured_103 rfl ?_
    obtain rfl := Option.some.inj h
    exact ev_iret dX11_measured_128 rfl rfl
  refine ev_aload_n dX11_measured_80 rfl (by decide) ?_
  refine ev_iload_n dX11_measured_81 rfl ?_
  refine ev_iconst dX11_measured_82 (by decide) ?_
  refine ev_iload_n dX11_measured_83 rfl ?_
  obtain ⟨v8, hc9, h⟩ := bind_of h
  refine ev_invV_v (k := (181 : Int)) (av := [(0, x1), (0, (-1 : Int)), (0, x3)]) (st := []) (v := (0, v8)) (τ := σ) dX11_measured_84 ml_X11_280 mv_X11_keeps (T := TX11) (ci := 10) rfl sp181 (by decide) (by decide) rfl ⟨Nat.le_of_ble_eq_true rfl, Nat.le_of_ble_eq_true rfl⟩ (Nat.le_of_ble_eq_true rfl) (c_X11_keeps hc9) ?_
  refine ev_goto (tgt := 128) dX11_measured_87 rfl ?_
  obtain rfl := Option.some.inj h
  exact ev_iret dX11_measured_128 rfl rfl
set_option maxHeartbeats 4000000 in
set_option maxRecDepth 20000 in
theorem b_X11_measured_12 (σ : Mem) (x1 x2 x3 : Int)  {r : Option V × Mem × Mem} : ∀ a x, f_X11_measured_12B σ x1 x2 x3 a = some x → K_X11_measured_12 σ x1 x2 x3 r x → K_X11_measured_12 σ x1 x2 x3 r (.inl a) := by
  intro a x h K
  obtain ⟨x4, x5, x6, x7⟩ := a
  have h : f_X11_measured_12C σ x1 x2 x3 x4 x5 x6 x7 = some x := h
  unfold f_X11_measured_12C at h
  show Ev M_X11_measured 218 218 r 12 218 rho σ [(2, (181 : Int)), (0, x1), (0, x2), (0, x3), (0, x4), (0, x5), (0, x6), (0, x7), (9, 0)] []
  refine ev_iload dX11_measured_12 rfl ?_
  refine ev_iload_n dX11_measured_14 rfl ?_
  refine ev_icmp_ge (tgt := 76) dX11_measured_15 rfl h (fun cb h => ?_) (fun cb h => ?_)
  · obtain rfl := Option.some.inj h
    exact ev_sub (L2 := [(2, (181 : Int)), (0, x1), (0, x2), (0, x3), (0, x4), (0, x5), (0, x6), (9, 0), (9, 0)]) K ⟨.inr rfl, .inr rfl, .inr rfl, .inr rfl, .inr rfl, .inr rfl, .inr rfl, .inl rfl, .inl rfl, trivial⟩
  refine ev_aload_n dX11_measured_18 rfl (by decide) ?_
  refine ev_getf (j := 17) (t := 2) (x := (193 : Int)) dX11_measured_19 cf_X11 wf_X11_45 sp181 (by decide) (by decide) rfl (by decide) (rp181_17 _) ?_
  refine ev_iload dX11_measured_22 rfl ?_
  refine ev_iald dX11_measured_24 sp193 (by decide) (by decide) h (fun h => ?_)
  refine ev_aload_n dX11_measured_25 rfl (by decide) ?_
  refine ev_aload_n dX11_measured_26 rfl (by decide) ?_
  refine ev_getf (j := 16) (t := 2) (x := (192 : Int)) dX11_measured_27 cf_X11 wf_X11_42 sp181 (by decide) (by decide) rfl (by decide) (rp181_16 _) ?_
  refine ev_iload dX11_measured_30 rfl ?_
  refine ev_iald dX11_measured_32 sp192 (by decide) (by decide) h (fun h => ?_)
  obtain ⟨v1, hc2, h⟩ := bind_of h
  refine ev_invV_v (k := (181 : Int)) (av := [(0, (σ (192 : Int) x7))]) (st := [(0, (σ (193 : Int) x7))]) (v := (0, v1)) (τ := σ) dX11_measured_33 ml_X11_255 mv_X11_start (T := TX11) (ci := 10) rfl sp181 (by decide) (by decide) rfl ⟨Nat.le_of_ble_eq_true rfl, Nat.le_of_ble_eq_true rfl⟩ (Nat.le_of_ble_eq_true rfl) (c_X11_start hc2) ?_
  refine ev_isub dX11_measured_36 ?_
  show Ev _ _ _ _ 37 _ _ _ _ _
  refine ev_istoreG dX11_measured_37 h rfl (by decide) (fun v3 h => ?_)
  show Ev _ _ _ _ 39 _ _ _ [(2, (181 : Int)), (0, x1), (0, x2), (0, x3), (0, x4), (0, x5), (0, x6), (0, x7), (0, v3)] _
  refine ev_iload dX11_measured_39 rfl ?_
  refine ev_iload dX11_measured_41 rfl ?_
  refine ev_iadd dX11_measured_43 ?_
  refine ev_istoreG dX11_measured_44 h rfl (by decide) (fun v4 h => ?_)
  show Ev _ _ _ _ 46 _ _ _ [(2, (181 : Int)), (0, x1), (0, x2), (0, x3), (0, v4), (0, x5), (0, x6), (0, x7), (0, v3)] _
  refine ev_iload dX11_measured_46 rfl ?_
  refine ev_iload dX11_measured_48 rfl ?_
  refine ev_if_le (tgt := 57) dX11_measured_50 rfl h (fun cb h => ?_) (fun cb h => ?_)
  · refine ev_iconst dX11_measured_57 (by decide) ?_
    exact ev_sub (L2 := [(2, (181 : Int)), (0, x1), (0, x2), (0, x3), (0, v4), (9, 0), (0, x6), (0, x7), (0, v3)]) (e_X11_measured_58 σ x1 x2 x3 v4 x6 x7 v3 (0 : Int) x5 h K) ⟨.inr rfl, .inr rfl, .inr rfl, .inr rfl, .inr rfl, .inl rfl, .inr rfl, .inr rfl, .inr rfl, trivial⟩
  refine ev_iconst dX11_measured_53 (by decide) ?_
  refine ev_goto (tgt := 58) dX11_measured_54 rfl ?_
  exact ev_sub (L2 := [(2, (181 : Int)), (0, x1), (0, x2), (0, x3), (0, v4), (9, 0), (0, x6), (0, x7), (0, v3)]) (e_X11_measured_58 σ x1 x2 x3 v4 x6 x7 v3 (1 : Int) x5 h K) ⟨.inr rfl, .inr rfl, .inr rfl, .inr rfl, .inr rfl, .inl rfl, .inr rfl, .inr rfl, .inr rfl, trivial⟩
set_option maxHeartbeats 4000000 in
set_option maxRecDepth 20000 in
theorem e_X11_measured_12 (σ : Mem) (x1 x2 x3 x4 x5 x6 x7 : Int)  {q : Int} (h : f_X11_measured_12 σ x1 x2 x3 x4 x5 x6 x7 = some q) : Ev M_X11_measured 218 218 (some (0, q), rho, σ) 12 218 rho σ [(2, (181 : Int)), (0, x1), (0, x2), (0, x3), (0, x4), (0, x5), (0, x6), (0, x7), (9, 0)] [] := by
  unfold f_X11_measured_12 at h
  obtain ⟨e, hl, h⟩ := bind_of h
  refine loop_ev (K := K_X11_measured_12 σ x1 x2 x3 (some (0, q), rho, σ)) (b_X11_measured_12 σ x1 x2 x3) FU (x4, x5, x6, x7) e hl ?_
  show Ev M_X11_measured 218 218 _ 76 218 rho σ [(2, (181 : Int)), (0, x1), (0, x2), (0, x3), (0, e.1), (0, e.2.1), (0, e.2.2), (9, 0), (9, 0)] []
  replace h : f_X11_measured_76 σ x1 x2 x3 e.1 e.2.1 e.2.2 = some q := h
  exact ev_sub (L2 := [(2, (181 : Int)), (0, x1), (0, x2), (0, x3), (0, e.1), (0, e.2.1), (0, e.2.2), (9, 0), (9, 0)]) (e_X11_measured_76 σ x1 x2 x3 e.1 e.2.1 e.2.2 h) ⟨.inr rfl, .inr rfl, .inr rfl, .inr rfl, .inr rfl, .inr rfl, .inr rfl, .inl rfl, .inl rfl, trivial⟩
set_option maxHeartbeats 4000000 in
set_option maxRecDepth 20000 in
theorem c_X11_measured {σ : Mem} {x1 x2 x3 : Int}  {q : Int} (h : f_X11_measured σ x1 x2 x3 = some q) : Ms yX11_measured M_X11_measured 218 218 [(2, (181 : Int)), (0, x1), (0, x2), (0, x3)] rho σ (some (0, q), rho, σ) := by
  refine Ms.of 5 (by decide +kernel) rfl (fun z => absurd z (by decide)) (fun _ _ _ => trivial) rfl rfl ?_
  unfold f_X11_measured at h
  show Ev M_X11_measured 218 218 _ 0 218 rho σ [(2, (181 : Int)), (0, x1), (0, x2), (0, x3), (9, 0), (9, 0), (9, 0), (9, 0), (9, 0)] []
  refine ev_iconst dX11_measured_0 (by decide) ?_
  refine ev_istore dX11_measured_1 rfl (by decide) ?_
  show Ev _ _ _ _ 3 _ _ _ [(2, (181 : Int)), (0, x1), (0, x2), (0, x3), (0, (0 : Int)), (9, 0), (9, 0), (9, 0), (9, 0)] _
  refine ev_iconst dX11_measured_3 (by decide) ?_
  refine ev_istore dX11_measured_4 rfl (by decide) ?_
  show Ev _ _ _ _ 6 _ _ _ [(2, (181 : Int)), (0, x1), (0, x2), (0, x3), (0, (0 : Int)), (0, (0 : Int)), (9, 0), (9, 0), (9, 0)] _
  refine ev_iconst dX11_measured_6 (by decide) ?_
  refine ev_istore dX11_measured_7 rfl (by decide) ?_
  show Ev _ _ _ _ 9 _ _ _ [(2, (181 : Int)), (0, x1), (0, x2), (0, x3), (0, (0 : Int)), (0, (0 : Int)), (0, (0 : Int)), (9, 0), (9, 0)] _
  refine ev_iconst dX11_measured_9 (by decide) ?_
  refine ev_istore dX11_measured_10 rfl (by decide) ?_
  show Ev _ _ _ _ 12 _ _ _ [(2, (181 : Int)), (0, x1), (0, x2), (0, x3), (0, (0 : Int)), (0, (0 : Int)), (0, (0 : Int)), (0, (0 : Int)), (9, 0)] _
  exact ev_sub (L2 := [(2, (181 : Int)), (0, x1), (0, x2), (0, x3), (0, (0 : Int)), (0, (0 : Int)), (0, (0 : Int)), (0, (0 : Int)), (9, 0)]) (e_X11_measured_12 σ x1 x2 x3 (0 : Int) (0 : Int) (0 : Int) (0 : Int) h) ⟨.inr rfl, .inr rfl, .inr rfl, .inr rfl, .inr rfl, .inr rfl, .inr rfl, .inr rfl, .inl rfl, trivial⟩
def K_X11_measure_80 (x1 x2 x3 x4 : Int) (r : Option V × Mem × Mem) : (Int × Mem) ⊕ ((Mem)) → Prop := Sum.elim (fun a => Ev M_X11_measure 218 218 r 80 218 rho a.2 [(2, (181 : Int)), (0, x1), (0, x2), (0, x3), (0, x4), (0, a.1)] []) (fun e => Ev M_X11_measure 218 218 r 111 218 rho e [(2, (181 : Int)), (0, x1), (0, x2), (0, x3), (0, x4), (9, 0)] [])
set_option maxHeartbeats 4000000 in
set_option maxRecDepth 20000 in
theorem e_X11_measure_27 (σ : Mem)  {q : (Int × Mem)} (h : f_X11_measure_27 σ  = some q) : Ev M_X11_measure 218 218 (some (0, q.1), rho, q.2) 27 218 rho σ [(2, (181 : Int)), (9, 0), (9, 0), (9, 0), (9, 0), (9, 0)] [] := by
  unfold f_X11_measure_27 at h
  refine ev_aload_n dX11_measure_27 rfl (by decide) ?_
  refine ev_bipush dX11_measure_28 (by decide) (by decide) ?_
  obtain ⟨v10, hc11, h⟩ := bind_of h
  refine ev_invV_v (k := (181 : Int)) (av := [(0, (-52 : Int))]) (st := []) (v := (0, v10.1)) (τ := v10.2) dX11_measure_30 ml_X11_151 mv_X11_no (T := TX11) (ci := 10) rfl sp181 (by decide) (by decide) rfl ⟨Nat.le_of_ble_eq_true rfl, Nat.le_of_ble_eq_true rfl⟩ (Nat.le_of_ble_eq_true rfl) (c_X11_no hc11) ?_
  obtain rfl := Option.some.inj h
  dsimp only
  exact ev_iret dX11_measure_33 rfl rfl
set_option maxHeartbeats 4000000 in
set_option maxRecDepth 20000 in
theorem e_X11_measure_70 (σ : Mem)  {q : (Int × Mem)} (h : f_X11_measure_70 σ  = some q) : Ev M_X11_measure 218 218 (some (0, q.1), rho, q.2) 70 218 rho σ [(2, (181 : Int)), (9, 0), (9, 0), (9, 0), (9, 0), (9, 0)] [] := by
  unfold f_X11_measure_70 at h
  refine ev_aload_n dX11_measure_70 rfl (by decide) ?_
  refine ev_bipush dX11_measure_71 (by decide) (by decide) ?_
  obtain ⟨v12, hc13, h⟩ := bind_of h
  refine ev_invV_v (k := (181 : Int)) (av := [(0, (-55 : Int))]) (st := []) (v := (0, v12.1)) (τ := v12.2) dX11_measure_73 ml_X11_151 mv_X11_no (T := TX11) (ci := 10) rfl sp181 (by decide) (by decide) rfl ⟨Nat.le_of_ble_eq_true rfl, Nat.le_of_ble_eq_true rfl⟩ (Nat.le_of_ble_eq_true rfl) (c_X11_no hc13) ?_
  obtain rfl := Option.some.inj h
  dsimp only
  exact ev_iret dX11_measure_76 rfl rfl
set_option maxHeartbeats 4000000 in
set_option maxRecDepth 20000 in
theorem e_X11_measure_111 (σ : Mem) (x1 x2 x3 x4 : Int)  {q : (Int × Mem)} (h : f_X11_measure_111 σ x1 x2 x3 x4 = some q) : Ev M_X11_measure 218 218 (some (0, q.1), rho, q.2) 111 218 rho σ [(2, (181 : Int)), (0, x1), (0, x2), (0, x3), (0, x4), (9, 0)] [] := by
  unfold f_X11_measure_111 at h
  refine ev_aload_n dX11_measure_111 rfl (by decide) ?_
  refine ev_iload_n dX11_measure_112 rfl ?_
  refine ev_iload dX11_measure_113 rfl ?_
  refine ev_aload_n dX11_measure_115 rfl (by decide) ?_
  refine ev_getf (j := 22) (t := 2) (x := (198 : Int)) dX11_measure_116 cf_X11 wf_X11_60 sp181 (by decide) (by decide) rfl (by decide) (rp181_22 _) ?_
  refine ev_iload_n dX11_measure_119 rfl ?_
  refine ev_iald dX11_measure_120 sp198 (by decide) (by decide) h (fun h => ?_)
  refine ev_aload_n dX11_measure_121 rfl (by decide) ?_
  refine ev_getf (j := 23) (t := 2) (x := (199 : Int)) dX11_measure_122 cf_X11 wf_X11_63 sp181 (by decide) (by decide) rfl (by decide) (rp181_23 _) ?_
  refine ev_iload_n dX11_measure_125 rfl ?_
  refine ev_iald dX11_measure_126 sp199 (by decide) (by decide) h (fun h => ?_)
  show Ev _ _ _ _ 127 _ _ _ _ _
  obtain ⟨v16, hc17, h⟩ := bind_of h
  refine ev_invV_v (k := (181 : Int)) (av := [(0, x1), (0, x4), (0, (σ (198 : Int) x2)), (0, (σ (199 : Int) x2))]) (st := []) (v := (0, v16.1)) (τ := v16.2) dX11_measure_127 ml_X11_276 mv_X11_isLaid (T := TX11) (ci := 10) rfl sp181 (by decide) (by decide) rfl ⟨Nat.le_of_ble_eq_true rfl, Nat.le_of_ble_eq_true rfl⟩ (Nat.le_of_ble_eq_true rfl) (c_X11_isLaid hc17) ?_
  refine ev_pop dX11_measure_130 (show (0 : Nat) ≠ 1 by decide) ?_
  refine ev_aload_n dX11_measure_131 rfl (by decide) ?_
  refine ev_iload dX11_measure_132 rfl ?_
  refine ev_iload_n dX11_measure_134 rfl ?_
  refine ev_aload_n dX11_measure_135 rfl (by decide) ?_
  refine ev_getf (j := 23) (t := 2) (x := (199 : Int)) dX11_measure_136 cf_X11 wf_X11_63 sp181 (by decide) (by decide) rfl (by decide) (rp181_23 _) ?_
  refine ev_iload_n dX11_measure_139 rfl ?_
  refine ev_iald dX11_measure_140 sp199 (by decide) (by decide) h (fun h => ?_)
  obtain ⟨v18, hc19, h⟩ := bind_of h
  refine ev_invV_v (k := (181 : Int)) (av := [(0, x4), (0, x3), (0, (v16.2 (199 : Int) x2))]) (st := []) (v := (0, v18)) (τ := v16.2) dX11_measure_141 ml_X11_313 mv_X11_measured (T := TX11) (ci := 10) rfl sp181 (by decide) (by decide) rfl ⟨Nat.le_of_ble_eq_true rfl, Nat.le_of_ble_eq_true rfl⟩ (Nat.le_of_ble_eq_true rfl) (c_X11_measured hc19) ?_
  obtain rfl := Option.some.inj h
  dsimp only
  exact ev_iret dX11_measure_144 rfl rfl
set_option maxHeartbeats 4000000 in
set_option maxRecDepth 20000 in
theorem b_X11_measure_80 (x1 x2 x3 x4 : Int)  {r : Option V × Mem × Mem} : ∀ a x, f_X11_measure_80B x1 x2 x3 x4 a = some x → K_X11_measure_80 x1 x2 x3 x4 r x → K_X11_measure_80 x1 x2 x3 x4 r (.inl a) := by
  intro a x h K
  obtain ⟨x5, σ⟩ := a
  have h : f_X11_measure_80C x1 x2 x3 x4 x5 σ = some x := h
  unfold f_X11_measure_80C at h
  show Ev M_X11_measure 218 218 r 80 218 rho σ [(2, (181 : Int)), (0, x1), (0, x2), (0, x3), (0, x4), (0, x5)] []
  refine ev_iload dX11_measure_80 rfl ?_
  refine ev_iload dX11_measure_82 rfl ?_
  refine ev_icmp_ge (tgt := 111) dX11_measure_84 rfl h (fun cb h => ?_) (fun cb h => ?_)
  · obtain rfl := Option.some.inj h
    exact ev_sub (L2 := [(2, (181 : Int)), (0, x1), (0, x2), (0, x3), (0, x4), (9, 0)]) K ⟨.inr rfl, .inr rfl, .inr rfl, .inr rfl, .inr rfl, .inl rfl, trivial⟩
  refine ev_aload_n dX11_measure_87 rfl (by decide) ?_
  refine ev_getf (j := 16) (t := 2) (x := (192 : Int)) dX11_measure_88 cf_X11 wf_X11_42 sp181 (by decide) (by decide) rfl (by decide) (rp181_16 _) ?_
  refine ev_iload dX11_measure_91 rfl ?_
  refine ev_aload_n dX11_measure_93 rfl (by decide) ?_
  refine ev_getf (j := 25) (t := 2) (x := (201 : Int)) dX11_measure_94 cf_X11 wf_X11_69 sp181 (by decide) (by decide) rfl (by decide) (rp181_25 _) ?_
  refine ev_iconst dX11_measure_97 (by decide) ?_
  refine ev_iload_n dX11_measure_98 rfl ?_
  refine ev_imul dX11_measure_99 ?_
  refine ev_iload dX11_measure_100 rfl ?_
  refine ev_iadd dX11_measure_102 ?_
  refine ev_iald dX11_measure_103 sp201 (by decide) (by decide) h (fun h => ?_)
  show Ev _ _ _ _ 104 _ _ _ _ _
  refine ev_iastG dX11_measure_104 sp192 (by decide) (by decide) h (fun σ14 h => ?_)
  refine ev_iincG dX11_measure_105 rfl h rfl (fun v15 h => ?_)
  show Ev _ _ _ _ 108 _ _ _ [(2, (181 : Int)), (0, x1), (0, x2), (0, x3), (0, x4), (0, v15)] _
  refine ev_goto (tgt := 80) dX11_measure_108 rfl ?_
  obtain rfl := Option.some.inj h
  exact ev_sub (L2 := [(2, (181 : Int)), (0, x1), (0, x2), (0, x3), (0, x4), (0, v15)]) K ⟨.inr rfl, .inr rfl, .inr rfl, .inr rfl, .inr rfl, .inr rfl, trivial⟩
set_option maxHeartbeats 4000000 in
set_option maxRecDepth 20000 in
theorem e_X11_measure_80 (σ : Mem) (x1 x2 x3 x4 x5 : Int)  {q : (Int × Mem)} (h : f_X11_measure_80 σ x1 x2 x3 x4 x5 = some q) : Ev M_X11_measure 218 218 (some (0, q.1), rho, q.2) 80 218 rho σ [(2, (181 : Int)), (0, x1), (0, x2), (0, x3), (0, x4), (0, x5)] [] := by
  unfold f_X11_measure_80 at h
  obtain ⟨e, hl, h⟩ := bind_of h
  refine loop_ev (K := K_X11_measure_80 x1 x2 x3 x4 (some (0, q.1), rho, q.2)) (b_X11_measure_80 x1 x2 x3 x4) FU (x5, σ) e hl ?_
  show Ev M_X11_measure 218 218 _ 111 218 rho e [(2, (181 : Int)), (0, x1), (0, x2), (0, x3), (0, x4), (9, 0)] []
  replace h : f_X11_measure_111 e x1 x2 x3 x4 = some q := h
  exact ev_sub (L2 := [(2, (181 : Int)), (0, x1), (0, x2), (0, x3), (0, x4), (9, 0)]) (e_X11_measure_111 e x1 x2 x3 x4 h) ⟨.inr rfl, .inr rfl, .inr rfl, .inr rfl, .inr rfl, .inl rfl, trivial⟩
set_option maxHeartbeats 4000000 in
set_option maxRecDepth 20000 in
theorem c_X11_measure {σ : Mem} {x1 x2 x3 : Int}  {q : (Int × Mem)} (h : f_X11_measure σ x1 x2 x3 = some q) : Ms yX11_measure M_X11_measure 218 218 [(2, (181 : Int)), (0, x1), (0, x2), (0, x3)] rho σ (some (0, q.1), rho, q.2) := by
  refine Ms.of 2 (by decide +kernel) rfl (fun z => absurd z (by decide)) (fun _ _ _ => trivial) rfl rfl ?_
  unfold f_X11_measure at h
  show Ev M_X11_measure 218 218 _ 0 218 rho σ [(2, (181 : Int)), (0, x1), (0, x2), (0, x3), (9, 0), (9, 0)] []
  refine ev_aload_n dX11_measure_0 rfl (by decide) ?_
  refine ev_iload_n dX11_measure_1 rfl ?_
  obtain ⟨v1, hc2, h⟩ := bind_of h
  refine ev_invV_v (k := (181 : Int)) (av := [(0, x1)]) (st := []) (v := (0, v1)) (τ := σ) dX11_measure_2 ml_X11_157 mv_X11_isCand (T := TX11) (ci := 10) rfl sp181 (by decide) (by decide) rfl ⟨Nat.le_of_ble_eq_true rfl, Nat.le_of_ble_eq_true rfl⟩ (Nat.le_of_ble_eq_true rfl) (c_X11_isCand hc2) ?_
  refine ev_if_eq (tgt := 27) dX11_measure_5 rfl h (fun cb h => ?_) (fun cb h => ?_)
  · exact ev_sub (L2 := [(2, (181 : Int)), (9, 0), (9, 0), (9, 0), (9, 0), (9, 0)]) (e_X11_measure_27 σ h) ⟨.inr rfl, .inl rfl, .inl rfl, .inl rfl, .inl rfl, .inl rfl, trivial⟩
  refine ev_iload_n dX11_measure_8 rfl ?_
  obtain ⟨v3, hc4, h⟩ := bind_of h
  refine ev_invS_v (av := [(0, x2)]) (st := []) (v := (0, v3)) (τ := σ) dX11_measure_9 ml_X11_168 mt_X11_isDay rfl ⟨Nat.le_of_ble_eq_true rfl, Nat.le_of_ble_eq_true rfl⟩ (Nat.le_of_ble_eq_true rfl) (c_X11_isDay hc4) ?_
  refine ev_if_eq (tgt := 27) dX11_measure_12 rfl h (fun cb h => ?_) (fun cb h => ?_)
  · exact ev_sub (L2 := [(2, (181 : Int)), (9, 0), (9, 0), (9, 0), (9, 0), (9, 0)]) (e_X11_measure_27 σ h) ⟨.inr rfl, .inl rfl, .inl rfl, .inl rfl, .inl rfl, .inl rfl, trivial⟩
  refine ev_iload_n dX11_measure_15 rfl ?_
  refine ev_i2lk dX11_measure_16 ?_
  refine ev_lconst (x := (0 : Int)) dX11_measure_17 (by decide) (by decide) ?_
  refine ev_ldc2 (x := (4 : Int)) dX11_measure_18 wc_X11_124 (by decide) (by decide) ?_
  obtain ⟨v5, hc6, h⟩ := bind_of h
  refine ev_invS_v (av := [(1, x3), (1, (0 : Int)), (1, (4 : Int))]) (st := []) (v := (0, v5)) (τ := σ) dX11_measure_21 ml_X11_120 mt_X11_isIn rfl ⟨Nat.le_of_ble_eq_true rfl, Nat.le_of_ble_eq_true rfl⟩ (Nat.le_of_ble_eq_true rfl) (c_X11_isIn hc6) ?_
  refine ev_if_ne (tgt := 34) dX11_measure_24 rfl h (fun cb h => ?_) (fun cb h => ?_)
  · refine ev_aload_n dX11_measure_34 rfl (by decide) ?_
    refine ev_iload_n dX11_measure_35 rfl ?_
    obtain ⟨σ7, hc8, h⟩ := bind_of h
    refine ev_invV_n (k := (181 : Int)) (av := [(0, x1)]) (st := []) (τ := σ7) dX11_measure_36 ml_X11_290 mv_X11_plans (T := TX11) (ci := 10) rfl sp181 (by decide) (by decide) rfl ⟨Nat.le_of_ble_eq_true rfl, Nat.le_of_ble_eq_true rfl⟩ (Nat.le_of_ble_eq_true rfl) (c_X11_plans hc8) ?_
    refine ev_aload_n dX11_measure_39 rfl (by decide) ?_
    refine ev_getf (j := 24) (t := 2) (x := (200 : Int)) dX11_measure_40 cf_X11 wf_X11_66 sp181 (by decide) (by decide) rfl (by decide) (rp181_24 _) ?_
    refine ev_iload_n dX11_measure_43 rfl ?_
    refine ev_iald dX11_measure_44 sp200 (by decide) (by decide) h (fun h => ?_)
    refine ev_istoreG dX11_measure_45 h rfl (by decide) (fun v9 h => ?_)
    show Ev _ _ _ _ 47 _ _ _ [(2, (181 : Int)), (0, x1), (0, x2), (0, x3), (0, v9), (9, 0)] _
    refine ev_aload_n dX11_measure_47 rfl (by decide) ?_
    refine ev_getf (j := 19) (t := 2) (x := (195 : Int)) dX11_measure_48 cf_X11 wf_X11_51 sp181 (by decide) (by decide) rfl (by decide) (rp181_19 _) ?_
    refine ev_iload_n dX11_measure_51 rfl ?_
    show Ev _ _ _ _ 52 _ _ _ _ _
    refine ev_iald dX11_measure_52 sp195 (by decide) (by decide) h (fun h => ?_)
    refine ev_if_eq (tgt := 70) dX11_measure_53 rfl h (fun cb h => ?_) (fun cb h => ?_)
    · exact ev_sub (L2 := [(2, (181 : Int)), (9, 0), (9, 0), (9, 0), (9, 0), (9, 0)]) (e_X11_measure_70 σ7 h) ⟨.inr rfl, .inl rfl, .inl rfl, .inl rfl, .inl rfl, .inl rfl, trivial⟩
    refine ev_aload_n dX11_measure_56 rfl (by decide) ?_
    refine ev_getf (j := 21) (t := 2) (x := (197 : Int)) dX11_measure_57 cf_X11 wf_X11_57 sp181 (by decide) (by decide) rfl (by decide) (rp181_21 _) ?_
    refine ev_iload_n dX11_measure_60 rfl ?_
    refine ev_iald dX11_measure_61 sp197 (by decide) (by decide) h (fun h => ?_)
    refine ev_if_ge (tgt := 70) dX11_measure_62 rfl h (fun cb h => ?_) (fun cb h => ?_)
    · exact ev_sub (L2 := [(2, (181 : Int)), (9, 0), (9, 0), (9, 0), (9, 0), (9, 0)]) (e_X11_measure_70 σ7 h) ⟨.inr rfl, .inl rfl, .inl rfl, .inl rfl, .inl rfl, .inl rfl, trivial⟩
    refine ev_iload dX11_measure_65 rfl ?_
    refine ev_if_ne (tgt := 77) dX11_measure_67 rfl h (fun cb h => ?_) (fun cb h => ?_)
    · refine ev_iconst dX11_measure_77 (by decide) ?_
      refine ev_istore dX11_measure_78 rfl (by decide) ?_
      show Ev _ _ _ _ 80 _ _ _ [(2, (181 : Int)), (0, x1), (0, x2), (0, x3), (0, v9), (0, (0 : Int))] _
      exact ev_sub (L2 := [(2, (181 : Int)), (0, x1), (0, x2), (0, x3), (0, v9), (0, (0 : Int))]) (e_X11_measure_80 σ7 x1 x2 x3 v9 (0 : Int) h) ⟨.inr rfl, .inr rfl, .inr rfl, .inr rfl, .inr rfl, .inr rfl, trivial⟩
    exact ev_sub (L2 := [(2, (181 : Int)), (9, 0), (9, 0), (9, 0), (9, 0), (9, 0)]) (e_X11_measure_70 σ7 h) ⟨.inr rfl, .inl rfl, .inl rfl, .inl rfl, .inl rfl, .inl rfl, trivial⟩
  exact ev_sub (L2 := [(2, (181 : Int)), (9, 0), (9, 0), (9, 0), (9, 0), (9, 0)]) (e_X11_measure_27 σ h) ⟨.inr rfl, .inl rfl, .inl rfl, .inl rfl, .inl rfl, .inl rfl, trivial⟩
def K_X11_best_136 (x1 x2 x3 x4 x5 x6 : Int) (r : Option V × Mem × Mem) : (Int × Mem) ⊕ ((Mem)) → Prop := Sum.elim (fun a => Ev M_X11_best 218 218 r 136 218 rho a.2 [(2, (181 : Int)), (0, x1), (0, x2), (0, x3), (0, x4), (0, x5), (0, x6), (9, 0), (9, 0), (0, a.1)] []) (fun e => Ev M_X11_best 218 218 r 163 218 rho e [(2, (181 : Int)), (0, x1), (0, x2), (0, x3), (0, x4), (0, x5), (0, x6), (9, 0), (9, 0), (9, 0)] [])
def K_X11_best_66 (x1 x2 x3 x4 x5 : Int) (r : Option V × Mem × Mem) : (Int × Int × Mem) ⊕ ((Int × Mem)) → Prop := Sum.elim (fun a => Ev M_X11_best 218 218 r 66 218 rho a.2.2 [(2, (181 : Int)), (0, x1), (0, x2), (0, x3), (0, x4), (0, x5), (0, a.1), (0, a.2.1), (9, 0), (9, 0)] []) (fun e => Ev M_X11_best 218 218 r 174 218 rho e.2 [(2, (181 : Int)), (9, 0), (9, 0), (9, 0), (0, x4), (0, x5), (0, e.1), (9, 0), (9, 0), (9, 0)] [])
set_option maxHeartbeats 4000000 in
set_option maxRecDepth 20000 in
theorem e_X11_best_27 (σ : Mem)  {q : (Int × Mem)} (h : f_X11_best_27 σ  = some q) : Ev M_X11_best 218 218 (some (0, q.1), rho, q.2) 27 218 rho σ [(2, (181 : Int)), (9, 0), (9, 0), (9, 0), (9, 0), (9, 0), (9, 0), (9, 0), (9, 0), (9, 0)] [] := by
  unfold f_X11_best_27 at h
  refine ev_aload_n dX11_best_27 rfl (by decide) ?_
  refine ev_bipush dX11_best_28 (by decide) (by decide) ?_
  obtain ⟨v14, hc15, h⟩ := bind_of h
  refine ev_invV_v (k := (181 : Int)) (av := [(0, (-52 : Int))]) (st := []) (v := (0, v14.1)) (τ := v14.2) dX11_best_30 ml_X11_151 mv_X11_no (T := TX11) (ci := 10) rfl sp181 (by decide) (by decide) rfl ⟨Nat.le_of_ble_eq_true rfl, Nat.le_of_ble_eq_true rfl⟩ (Nat.le_of_ble_eq_true rfl) (c_X11_no hc15) ?_
  obtain rfl := Option.some.inj h
  dsimp only
  exact ev_iret dX11_best_33 rfl rfl
set_option maxHeartbeats 4000000 in
set_option maxRecDepth 20000 in
theorem e_X11_best_163 (σ : Mem) (x1 x2 x3 x4 x5 x6 : Int)  {q : ((Int × Int × Mem) ⊕ ((Int × Mem)))} (h : f_X11_best_163 σ x1 x2 x3 x4 x5 x6 = some q) {r : Option V × Mem × Mem} (K : K_X11_best_66 x1 x2 x3 x4 x5 r q) : Ev M_X11_best 218 218 r 163 218 rho σ [(2, (181 : Int)), (0, x1), (0, x2), (0, x3), (0, x4), (0, x5), (0, x6), (9, 0), (9, 0), (9, 0)] [] := by
  unfold f_X11_best_163 at h
  refine ev_aload_n dX11_best_163 rfl (by decide) ?_
  refine ev_iload dX11_best_164 rfl ?_
  obtain ⟨v24, hc25, h⟩ := bind_of h
  refine ev_invV_v (k := (181 : Int)) (av := [(0, x5)]) (st := []) (v := (0, v24.1)) (τ := v24.2) dX11_best_166 ml_X11_283 mv_X11_next (T := TX11) (ci := 10) rfl sp181 (by decide) (by decide) rfl ⟨Nat.le_of_ble_eq_true rfl, Nat.le_of_ble_eq_true rfl⟩ (Nat.le_of_ble_eq_true rfl) (c_X11_next hc25) ?_
  refine ev_istoreG dX11_best_169 h rfl (by decide) (fun v26 h => ?_)
  show Ev _ _ _ _ 171 _ _ _ [(2, (181 : Int)), (0, x1), (0, x2), (0, x3), (0, x4), (0, x5), (0, x6), (0, v26), (9, 0), (9, 0)] _
  refine ev_goto (tgt := 66) dX11_best_171 rfl ?_
  obtain rfl := Option.some.inj h
  exact ev_sub (L2 := [(2, (181 : Int)), (0, x1), (0, x2), (0, x3), (0, x4), (0, x5), (0, x6), (0, v26), (9, 0), (9, 0)]) K ⟨.inr rfl, .inr rfl, .inr rfl, .inr rfl, .inr rfl, .inr rfl, .inr rfl, .inr rfl, .inl rfl, .inl rfl, trivial⟩
set_option maxHeartbeats 4000000 in
set_option maxRecDepth 20000 in
theorem b_X11_best_136 (x1 x2 x3 x4 x5 x6 : Int)  {r : Option V × Mem × Mem} : ∀ a x, f_X11_best_136B x1 x2 x3 x4 x5 x6 a = some x → K_X11_best_136 x1 x2 x3 x4 x5 x6 r x → K_X11_best_136 x1 x2 x3 x4 x5 x6 r (.inl a) := by
  intro a x h K
  obtain ⟨x9, σ⟩ := a
  have h : f_X11_best_136C x1 x2 x3 x4 x5 x6 x9 σ = some x := h
  unfold f_X11_best_136C at h
  show Ev M_X11_best 218 218 r 136 218 rho σ [(2, (181 : Int)), (0, x1), (0, x2), (0, x3), (0, x4), (0, x5), (0, x6), (9, 0), (9, 0), (0, x9)] []
  refine ev_iload dX11_best_136 rfl ?_
  refine ev_iload dX11_best_138 rfl ?_
  refine ev_icmp_ge (tgt := 163) dX11_best_140 rfl h (fun cb h => ?_) (fun cb h => ?_)
  · obtain rfl := Option.some.inj h
    exact ev_sub (L2 := [(2, (181 : Int)), (0, x1), (0, x2), (0, x3), (0, x4), (0, x5), (0, x6), (9, 0), (9, 0), (9, 0)]) K ⟨.inr rfl, .inr rfl, .inr rfl, .inr rfl, .inr rfl, .inr rfl, .inr rfl, .inl rfl, .inl rfl, .inl rfl, trivial⟩
  refine ev_aload_n dX11_best_143 rfl (by decide) ?_
  refine ev_getf (j := 27) (t := 2) (x := (203 : Int)) dX11_best_144 cf_X11 wf_X11_75 sp181 (by decide) (by decide) rfl (by decide) (rp181_27 _) ?_
  refine ev_iload dX11_best_147 rfl ?_
  refine ev_aload_n dX11_best_149 rfl (by decide) ?_
  refine ev_getf (j := 16) (t := 2) (x := (192 : Int)) dX11_best_150 cf_X11 wf_X11_42 sp181 (by decide) (by decide) rfl (by decide) (rp181_16 _) ?_
  refine ev_iload dX11_best_153 rfl ?_
  refine ev_iald dX11_best_155 sp192 (by decide) (by decide) h (fun h => ?_)
  refine ev_iastG dX11_best_156 sp203 (by decide) (by decide) h (fun σ27 h => ?_)
  refine ev_iincG dX11_best_157 rfl h rfl (fun v28 h => ?_)
  show Ev _ _ _ _ 160 _ _ _ [(2, (181 : Int)), (0, x1), (0, x2), (0, x3), (0, x4), (0, x5), (0, x6), (9, 0), (9, 0), (0, v28)] _
  refine ev_goto (tgt := 136) dX11_best_160 rfl ?_
  obtain rfl := Option.some.inj h
  exact ev_sub (L2 := [(2, (181 : Int)), (0, x1), (0, x2), (0, x3), (0, x4), (0, x5), (0, x6), (9, 0), (9, 0), (0, v28)]) K ⟨.inr rfl, .inr rfl, .inr rfl, .inr rfl, .inr rfl, .inr rfl, .inr rfl, .inl rfl, .inl rfl, .inr rfl, trivial⟩
set_option maxHeartbeats 4000000 in
set_option maxRecDepth 20000 in
theorem e_X11_best_136 (σ : Mem) (x1 x2 x3 x4 x5 x6 x9 : Int)  {q : ((Int × Int × Mem) ⊕ ((Int × Mem)))} (h : f_X11_best_136 σ x1 x2 x3 x4 x5 x6 x9 = some q) {r : Option V × Mem × Mem} (K : K_X11_best_66 x1 x2 x3 x4 x5 r q) : Ev M_X11_best 218 218 r 136 218 rho σ [(2, (181 : Int)), (0, x1), (0, x2), (0, x3), (0, x4), (0, x5), (0, x6), (9, 0), (9, 0), (0, x9)] [] := by
  unfold f_X11_best_136 at h
  obtain ⟨e, hl, h⟩ := bind_of h
  refine loop_ev (K := K_X11_best_136 x1 x2 x3 x4 x5 x6 r) (b_X11_best_136 x1 x2 x3 x4 x5 x6) FU (x9, σ) e hl ?_
  show Ev M_X11_best 218 218 r 163 218 rho e [(2, (181 : Int)), (0, x1), (0, x2), (0, x3), (0, x4), (0, x5), (0, x6), (9, 0), (9, 0), (9, 0)] []
  replace h : f_X11_best_163 e x1 x2 x3 x4 x5 x6 = some q := h
  exact ev_sub (L2 := [(2, (181 : Int)), (0, x1), (0, x2), (0, x3), (0, x4), (0, x5), (0, x6), (9, 0), (9, 0), (9, 0)]) (e_X11_best_163 e x1 x2 x3 x4 x5 x6 h K) ⟨.inr rfl, .inr rfl, .inr rfl, .inr rfl, .inr rfl, .inr rfl, .inr rfl, .inl rfl, .inl rfl, .inl rfl, trivial⟩
set_option maxHeartbeats 4000000 in
set_option maxRecDepth 20000 in
theorem e_X11_best_129 (σ : Mem) (x1 x2 x3 x4 x5 x8 : Int)  {q : ((Int × Int × Mem) ⊕ ((Int × Mem)))} (h : f_X11_best_129 σ x1 x2 x3 x4 x5 x8 = some q) {r : Option V × Mem × Mem} (K : K_X11_best_66 x1 x2 x3 x4 x5 r q) : Ev M_X11_best 218 218 r 129 218 rho σ [(2, (181 : Int)), (0, x1), (0, x2), (0, x3), (0, x4), (0, x5), (9, 0), (9, 0), (0, x8), (9, 0)] [] := by
  unfold f_X11_best_129 at h
  refine ev_iload dX11_best_129 rfl ?_
  refine ev_istore dX11_best_131 rfl (by decide) ?_
  show Ev _ _ _ _ 133 _ _ _ [(2, (181 : Int)), (0, x1), (0, x2), (0, x3), (0, x4), (0, x5), (0, x8), (9, 0), (0, x8), (9, 0)] _
  refine ev_iconst dX11_best_133 (by decide) ?_
  refine ev_istore dX11_best_134 rfl (by decide) ?_
  show Ev _ _ _ _ 136 _ _ _ [(2, (181 : Int)), (0, x1), (0, x2), (0, x3), (0, x4), (0, x5), (0, x8), (9, 0), (0, x8), (0, (0 : Int))] _
  exact ev_sub (L2 := [(2, (181 : Int)), (0, x1), (0, x2), (0, x3), (0, x4), (0, x5), (0, x8), (9, 0), (9, 0), (0, (0 : Int))]) (e_X11_best_136 σ x1 x2 x3 x4 x5 x8 (0 : Int) h K) ⟨.inr rfl, .inr rfl, .inr rfl, .inr rfl, .inr rfl, .inr rfl, .inr rfl, .inl rfl, .inl rfl, .inr rfl, trivial⟩
set_option maxHeartbeats 4000000 in
set_option maxRecDepth 20000 in
theorem e_X11_best_110 (σ : Mem) (x1 x2 x3 x4 x5 x6 s0 : Int)  {q : ((Int × Int × Mem) ⊕ ((Int × Mem)))} (h : f_X11_best_110 σ x1 x2 x3 x4 x5 x6 s0 = some q) {r : Option V × Mem × Mem} (K : K_X11_best_66 x1 x2 x3 x4 x5 r q) : Ev M_X11_best 218 218 r 110 218 rho σ [(2, (181 : Int)), (0, x1), (0, x2), (0, x3), (0, x4), (0, x5), (0, x6), (9, 0), (9, 0), (9, 0)] [(0, s0)] := by
  unfold f_X11_best_110 at h
  refine ev_istore dX11_best_110 rfl (by decide) ?_
  show Ev _ _ _ _ 112 _ _ _ [(2, (181 : Int)), (0, x1), (0, x2), (0, x3), (0, x4), (0, x5), (0, x6), (9, 0), (0, s0), (9, 0)] _
  refine ev_iload dX11_best_112 rfl ?_
  refine ev_if_lt (tgt := 163) dX11_best_114 rfl h (fun cb h => ?_) (fun cb h => ?_)
  · exact ev_sub (L2 := [(2, (181 : Int)), (0, x1), (0, x2), (0, x3), (0, x4), (0, x5), (0, x6), (9, 0), (9, 0), (9, 0)]) (e_X11_best_163 σ x1 x2 x3 x4 x5 x6 h K) ⟨.inr rfl, .inr rfl, .inr rfl, .inr rfl, .inr rfl, .inr rfl, .inr rfl, .inl rfl, .inl rfl, .inl rfl, trivial⟩
  refine ev_iload dX11_best_117 rfl ?_
  refine ev_if_lt (tgt := 129) dX11_best_119 rfl h (fun cb h => ?_) (fun cb h => ?_)
  · exact ev_sub (L2 := [(2, (181 : Int)), (0, x1), (0, x2), (0, x3), (0, x4), (0, x5), (9, 0), (9, 0), (0, s0), (9, 0)]) (e_X11_best_129 σ x1 x2 x3 x4 x5 s0 h K) ⟨.inr rfl, .inr rfl, .inr rfl, .inr rfl, .inr rfl, .inr rfl, .inl rfl, .inl rfl, .inr rfl, .inl rfl, trivial⟩
  refine ev_iload dX11_best_122 rfl ?_
  refine ev_iload dX11_best_124 rfl ?_
  refine ev_icmp_ge (tgt := 163) dX11_best_126 rfl h (fun cb h => ?_) (fun cb h => ?_)
  · exact ev_sub (L2 := [(2, (181 : Int)), (0, x1), (0, x2), (0, x3), (0, x4), (0, x5), (0, x6), (9, 0), (9, 0), (9, 0)]) (e_X11_best_163 σ x1 x2 x3 x4 x5 x6 h K) ⟨.inr rfl, .inr rfl, .inr rfl, .inr rfl, .inr rfl, .inr rfl, .inr rfl, .inl rfl, .inl rfl, .inl rfl, trivial⟩
  exact ev_sub (L2 := [(2, (181 : Int)), (0, x1), (0, x2), (0, x3), (0, x4), (0, x5), (9, 0), (9, 0), (0, s0), (9, 0)]) (e_X11_best_129 σ x1 x2 x3 x4 x5 s0 h K) ⟨.inr rfl, .inr rfl, .inr rfl, .inr rfl, .inr rfl, .inr rfl, .inl rfl, .inl rfl, .inr rfl, .inl rfl, trivial⟩
set_option maxHeartbeats 4000000 in
set_option maxRecDepth 20000 in
theorem e_X11_best_174 (σ : Mem) (x4 x5 x6 : Int)  {q : (Int × Mem)} (h : f_X11_best_174 σ x4 x5 x6 = some q) : Ev M_X11_best 218 218 (some (0, q.1), rho, q.2) 174 218 rho σ [(2, (181 : Int)), (9, 0), (9, 0), (9, 0), (0, x4), (0, x5), (0, x6), (9, 0), (9, 0), (9, 0)] [] := by
  unfold f_X11_best_174 at h
  refine ev_iload dX11_best_174 rfl ?_
  refine ev_if_ge (tgt := 181) dX11_best_176 rfl h (fun cb h => ?_) (fun cb h => ?_)
  · refine ev_iload dX11_best_181 rfl ?_
    refine ev_iconst dX11_best_183 (by decide) ?_
    refine ev_icmp_ne (tgt := 192) dX11_best_184 rfl h (fun cb h => ?_) (fun cb h => ?_)
    · refine ev_iload dX11_best_192 rfl ?_
      refine ev_i2lk dX11_best_194 ?_
      refine ev_lconst (x := (0 : Int)) dX11_best_195 (by decide) (by decide) ?_
      refine ev_iload dX11_best_196 rfl ?_
      refine ev_iconst dX11_best_198 (by decide) ?_
      refine ev_isub dX11_best_199 ?_
      refine ev_i2lk dX11_best_200 ?_
      obtain ⟨v20, hc21, h⟩ := bind_of h
      refine ev_invS_v (av := [(1, x4), (1, (0 : Int)), (1, (jsub x5 (1 : Int)))]) (st := []) (v := (0, v20)) (τ := σ) dX11_best_201 ml_X11_120 mt_X11_isIn rfl ⟨Nat.le_of_ble_eq_true rfl, Nat.le_of_ble_eq_true rfl⟩ (Nat.le_of_ble_eq_true rfl) (c_X11_isIn hc21) ?_
      refine ev_if_eq (tgt := 217) dX11_best_204 rfl h (fun cb h => ?_) (fun cb h => ?_)
      · refine ev_aload_n dX11_best_217 rfl (by decide) ?_
        refine ev_bipush dX11_best_218 (by decide) (by decide) ?_
        obtain ⟨v22, hc23, h⟩ := bind_of h
        refine ev_invV_v (k := (181 : Int)) (av := [(0, (-52 : Int))]) (st := []) (v := (0, v22.1)) (τ := v22.2) dX11_best_220 ml_X11_151 mv_X11_no (T := TX11) (ci := 10) rfl sp181 (by decide) (by decide) rfl ⟨Nat.le_of_ble_eq_true rfl, Nat.le_of_ble_eq_true rfl⟩ (Nat.le_of_ble_eq_true rfl) (c_X11_no hc23) ?_
        obtain rfl := Option.some.inj h
        dsimp only
        exact ev_iret dX11_best_223 rfl rfl
      refine ev_aload_n dX11_best_207 rfl (by decide) ?_
      refine ev_getf (j := 27) (t := 2) (x := (203 : Int)) dX11_best_208 cf_X11 wf_X11_75 sp181 (by decide) (by decide) rfl (by decide) (rp181_27 _) ?_
      refine ev_iload dX11_best_211 rfl ?_
      refine ev_iald dX11_best_213 sp203 (by decide) (by decide) h (fun h => ?_)
      refine ev_goto (tgt := 223) dX11_best_214 rfl ?_
      obtain rfl := Option.some.inj h
      dsimp only
      exact ev_iret dX11_best_223 rfl rfl
    refine ev_iload dX11_best_187 rfl ?_
    refine ev_goto (tgt := 223) dX11_best_189 rfl ?_
    obtain rfl := Option.some.inj h
    dsimp only
    exact ev_iret dX11_best_223 rfl rfl
  refine ev_iconst dX11_best_179 (by decide) ?_
  obtain rfl := Option.some.inj h
  dsimp only
  exact ev_iret dX11_best_180 rfl rfl
set_option maxHeartbeats 4000000 in
set_option maxRecDepth 20000 in
theorem b_X11_best_66 (x1 x2 x3 x4 x5 : Int)  {r : Option V × Mem × Mem} : ∀ a x, f_X11_best_66B x1 x2 x3 x4 x5 a = some x → K_X11_best_66 x1 x2 x3 x4 x5 r x → K_X11_best_66 x1 x2 x3 x4 x5 r (.inl a) := by
  intro a x h K
  obtain ⟨x6, x7, σ⟩ := a
  have h : f_X11_best_66C x1 x2 x3 x4 x5 x6 x7 σ = some x := h
  unfold f_X11_best_66C at h
  show Ev M_X11_best 218 218 r 66 218 rho σ [(2, (181 : Int)), (0, x1), (0, x2), (0, x3), (0, x4), (0, x5), (0, x6), (0, x7), (9, 0), (9, 0)] []
  refine ev_iload dX11_best_66 rfl ?_
  refine ev_if_eq (tgt := 174) dX11_best_68 rfl h (fun cb h => ?_) (fun cb h => ?_)
  · obtain rfl := Option.some.inj h
    exact ev_sub (L2 := [(2, (181 : Int)), (9, 0), (9, 0), (9, 0), (0, x4), (0, x5), (0, x6), (9, 0), (9, 0), (9, 0)]) K ⟨.inr rfl, .inl rfl, .inl rfl, .inl rfl, .inr rfl, .inr rfl, .inr rfl, .inl rfl, .inl rfl, .inl rfl, trivial⟩
  refine ev_aload_n dX11_best_71 rfl (by decide) ?_
  refine ev_iload_n dX11_best_72 rfl ?_
  refine ev_iload dX11_best_73 rfl ?_
  refine ev_aload_n dX11_best_75 rfl (by decide) ?_
  refine ev_getf (j := 22) (t := 2) (x := (198 : Int)) dX11_best_76 cf_X11 wf_X11_60 sp181 (by decide) (by decide) rfl (by decide) (rp181_22 _) ?_
  refine ev_iload_n dX11_best_79 rfl ?_
  refine ev_iald dX11_best_80 sp198 (by decide) (by decide) h (fun h => ?_)
  refine ev_aload_n dX11_best_81 rfl (by decide) ?_
  refine ev_getf (j := 23) (t := 2) (x := (199 : Int)) dX11_best_82 cf_X11 wf_X11_63 sp181 (by decide) (by decide) rfl (by decide) (rp181_23 _) ?_
  refine ev_iload_n dX11_best_85 rfl ?_
  refine ev_iald dX11_best_86 sp199 (by decide) (by decide) h (fun h => ?_)
  show Ev _ _ _ _ 87 _ _ _ _ _
  obtain ⟨v16, hc17, h⟩ := bind_of h
  refine ev_invV_v (k := (181 : Int)) (av := [(0, x1), (0, x5), (0, (σ (198 : Int) x2)), (0, (σ (199 : Int) x2))]) (st := []) (v := (0, v16.1)) (τ := v16.2) dX11_best_87 ml_X11_276 mv_X11_isLaid (T := TX11) (ci := 10) rfl sp181 (by decide) (by decide) rfl ⟨Nat.le_of_ble_eq_true rfl, Nat.le_of_ble_eq_true rfl⟩ (Nat.le_of_ble_eq_true rfl) (c_X11_isLaid hc17) ?_
  refine ev_if_eq (tgt := 109) dX11_best_90 rfl h (fun cb h => ?_) (fun cb h => ?_)
  · refine ev_iconst dX11_best_109 (by decide) ?_
    exact ev_sub (L2 := [(2, (181 : Int)), (0, x1), (0, x2), (0, x3), (0, x4), (0, x5), (0, x6), (9, 0), (9, 0), (9, 0)]) (e_X11_best_110 v16.2 x1 x2 x3 x4 x5 x6 (-1 : Int) h K) ⟨.inr rfl, .inr rfl, .inr rfl, .inr rfl, .inr rfl, .inr rfl, .inr rfl, .inl rfl, .inl rfl, .inl rfl, trivial⟩
  refine ev_aload_n dX11_best_93 rfl (by decide) ?_
  refine ev_iload dX11_best_94 rfl ?_
  refine ev_iload_n dX11_best_96 rfl ?_
  refine ev_aload_n dX11_best_97 rfl (by decide) ?_
  refine ev_getf (j := 23) (t := 2) (x := (199 : Int)) dX11_best_98 cf_X11 wf_X11_63 sp181 (by decide) (by decide) rfl (by decide) (rp181_23 _) ?_
  refine ev_iload_n dX11_best_101 rfl ?_
  refine ev_iald dX11_best_102 sp199 (by decide) (by decide) h (fun h => ?_)
  obtain ⟨v18, hc19, h⟩ := bind_of h
  refine ev_invV_v (k := (181 : Int)) (av := [(0, x5), (0, x3), (0, (v16.2 (199 : Int) x2))]) (st := []) (v := (0, v18)) (τ := v16.2) dX11_best_103 ml_X11_313 mv_X11_measured (T := TX11) (ci := 10) rfl sp181 (by decide) (by decide) rfl ⟨Nat.le_of_ble_eq_true rfl, Nat.le_of_ble_eq_true rfl⟩ (Nat.le_of_ble_eq_true rfl) (c_X11_measured hc19) ?_
  refine ev_goto (tgt := 110) dX11_best_106 rfl ?_
  exact ev_sub (L2 := [(2, (181 : Int)), (0, x1), (0, x2), (0, x3), (0, x4), (0, x5), (0, x6), (9, 0), (9, 0), (9, 0)]) (e_X11_best_110 v16.2 x1 x2 x3 x4 x5 x6 v18 h K) ⟨.inr rfl, .inr rfl, .inr rfl, .inr rfl, .inr rfl, .inr rfl, .inr rfl, .inl rfl, .inl rfl, .inl rfl, trivial⟩
set_option maxHeartbeats 4000000 in
set_option maxRecDepth 20000 in
theorem e_X11_best_66 (σ : Mem) (x1 x2 x3 x4 x5 x6 x7 : Int)  {q : (Int × Mem)} (h : f_X11_best_66 σ x1 x2 x3 x4 x5 x6 x7 = some q) : Ev M_X11_best 218 218 (some (0, q.1), rho, q.2) 66 218 rho σ [(2, (181 : Int)), (0, x1), (0, x2), (0, x3), (0, x4), (0, x5), (0, x6), (0, x7), (9, 0), (9, 0)] [] := by
  unfold f_X11_best_66 at h
  obtain ⟨e, hl, h⟩ := bind_of h
  refine loop_ev (K := K_X11_best_66 x1 x2 x3 x4 x5 (some (0, q.1), rho, q.2)) (b_X11_best_66 x1 x2 x3 x4 x5) FU (x6, x7, σ) e hl ?_
  show Ev M_X11_best 218 218 _ 174 218 rho e.2 [(2, (181 : Int)), (9, 0), (9, 0), (9, 0), (0, x4), (0, x5), (0, e.1), (9, 0), (9, 0), (9, 0)] []
  replace h : f_X11_best_174 e.2 x4 x5 e.1 = some q := h
  exact ev_sub (L2 := [(2, (181 : Int)), (9, 0), (9, 0), (9, 0), (0, x4), (0, x5), (0, e.1), (9, 0), (9, 0), (9, 0)]) (e_X11_best_174 e.2 x4 x5 e.1 h) ⟨.inr rfl, .inl rfl, .inl rfl, .inl rfl, .inr rfl, .inr rfl, .inr rfl, .inl rfl, .inl rfl, .inl rfl, trivial⟩
set_option maxHeartbeats 4000000 in
set_option maxRecDepth 20000 in
theorem e_X11_best_64 (σ : Mem) (x1 x2 x3 x4 x5 x6 s0 : Int)  {q : (Int × Mem)} (h : f_X11_best_64 σ x1 x2 x3 x4 x5 x6 s0 = some q) : Ev M_X11_best 218 218 (some (0, q.1), rho, q.2) 64 218 rho σ [(2, (181 : Int)), (0, x1), (0, x2), (0, x3), (0, x4), (0, x5), (0, x6), (9, 0), (9, 0), (9, 0)] [(0, s0)] := by
  unfold f_X11_best_64 at h
  refine ev_istore dX11_best_64 rfl (by decide) ?_
  show Ev _ _ _ _ 66 _ _ _ [(2, (181 : Int)), (0, x1), (0, x2), (0, x3), (0, x4), (0, x5), (0, x6), (0, s0), (9, 0), (9, 0)] _
  exact ev_sub (L2 := [(2, (181 : Int)), (0, x1), (0, x2), (0, x3), (0, x4), (0, x5), (0, x6), (0, s0), (9, 0), (9, 0)]) (e_X11_best_66 σ x1 x2 x3 x4 x5 x6 s0 h) ⟨.inr rfl, .inr rfl, .inr rfl, .inr rfl, .inr rfl, .inr rfl, .inr rfl, .inr rfl, .inl rfl, .inl rfl, trivial⟩
set_option maxHeartbeats 4000000 in
set_option maxRecDepth 20000 in
theorem c_X11_best {σ : Mem} {x1 x2 x3 x4 : Int}  {q : (Int × Mem)} (h : f_X11_best σ x1 x2 x3 x4 = some q) : Ms yX11_best M_X11_best 218 218 [(2, (181 : Int)), (0, x1), (0, x2), (0, x3), (0, x4)] rho σ (some (0, q.1), rho, q.2) := by
  refine Ms.of 5 (by decide +kernel) rfl (fun z => absurd z (by decide)) (fun _ _ _ => trivial) rfl rfl ?_
  unfold f_X11_best at h
  show Ev M_X11_best 218 218 _ 0 218 rho σ [(2, (181 : Int)), (0, x1), (0, x2), (0, x3), (0, x4), (9, 0), (9, 0), (9, 0), (9, 0), (9, 0)] []
  refine ev_aload_n dX11_best_0 rfl (by decide) ?_
  refine ev_iload_n dX11_best_1 rfl ?_
  obtain ⟨v1, hc2, h⟩ := bind_of h
  refine ev_invV_v (k := (181 : Int)) (av := [(0, x1)]) (st := []) (v := (0, v1)) (τ := σ) dX11_best_2 ml_X11_157 mv_X11_isCand (T := TX11) (ci := 10) rfl sp181 (by decide) (by decide) rfl ⟨Nat.le_of_ble_eq_true rfl, Nat.le_of_ble_eq_true rfl⟩ (Nat.le_of_ble_eq_true rfl) (c_X11_isCand hc2) ?_
  refine ev_if_eq (tgt := 27) dX11_best_5 rfl h (fun cb h => ?_) (fun cb h => ?_)
  · exact ev_sub (L2 := [(2, (181 : Int)), (9, 0), (9, 0), (9, 0), (9, 0), (9, 0), (9, 0), (9, 0), (9, 0), (9, 0)]) (e_X11_best_27 σ h) ⟨.inr rfl, .inl rfl, .inl rfl, .inl rfl, .inl rfl, .inl rfl, .inl rfl, .inl rfl, .inl rfl, .inl rfl, trivial⟩
  refine ev_iload_n dX11_best_8 rfl ?_
  obtain ⟨v3, hc4, h⟩ := bind_of h
  refine ev_invS_v (av := [(0, x2)]) (st := []) (v := (0, v3)) (τ := σ) dX11_best_9 ml_X11_168 mt_X11_isDay rfl ⟨Nat.le_of_ble_eq_true rfl, Nat.le_of_ble_eq_true rfl⟩ (Nat.le_of_ble_eq_true rfl) (c_X11_isDay hc4) ?_
  refine ev_if_eq (tgt := 27) dX11_best_12 rfl h (fun cb h => ?_) (fun cb h => ?_)
  · exact ev_sub (L2 := [(2, (181 : Int)), (9, 0), (9, 0), (9, 0), (9, 0), (9, 0), (9, 0), (9, 0), (9, 0), (9, 0)]) (e_X11_best_27 σ h) ⟨.inr rfl, .inl rfl, .inl rfl, .inl rfl, .inl rfl, .inl rfl, .inl rfl, .inl rfl, .inl rfl, .inl rfl, trivial⟩
  refine ev_iload_n dX11_best_15 rfl ?_
  refine ev_i2lk dX11_best_16 ?_
  refine ev_lconst (x := (0 : Int)) dX11_best_17 (by decide) (by decide) ?_
  refine ev_ldc2 (x := (4 : Int)) dX11_best_18 wc_X11_124 (by decide) (by decide) ?_
  obtain ⟨v5, hc6, h⟩ := bind_of h
  refine ev_invS_v (av := [(1, x3), (1, (0 : Int)), (1, (4 : Int))]) (st := []) (v := (0, v5)) (τ := σ) dX11_best_21 ml_X11_120 mt_X11_isIn rfl ⟨Nat.le_of_ble_eq_true rfl, Nat.le_of_ble_eq_true rfl⟩ (Nat.le_of_ble_eq_true rfl) (c_X11_isIn hc6) ?_
  refine ev_if_ne (tgt := 34) dX11_best_24 rfl h (fun cb h => ?_) (fun cb h => ?_)
  · refine ev_aload_n dX11_best_34 rfl (by decide) ?_
    refine ev_iload_n dX11_best_35 rfl ?_
    obtain ⟨σ7, hc8, h⟩ := bind_of h
    refine ev_invV_n (k := (181 : Int)) (av := [(0, x1)]) (st := []) (τ := σ7) dX11_best_36 ml_X11_290 mv_X11_plans (T := TX11) (ci := 10) rfl sp181 (by decide) (by decide) rfl ⟨Nat.le_of_ble_eq_true rfl, Nat.le_of_ble_eq_true rfl⟩ (Nat.le_of_ble_eq_true rfl) (c_X11_plans hc8) ?_
    refine ev_aload_n dX11_best_39 rfl (by decide) ?_
    refine ev_aload_n dX11_best_40 rfl (by decide) ?_
    refine ev_iload_n dX11_best_41 rfl ?_
    refine ev_iload_n dX11_best_42 rfl ?_
    obtain ⟨v9, hc10, h⟩ := bind_of h
    refine ev_invV_v (k := (181 : Int)) (av := [(0, x1), (0, x2)]) (st := [(2, (181 : Int))]) (v := (0, v9)) (τ := σ7) dX11_best_43 ml_X11_188 mv_X11_ofDay (T := TX11) (ci := 10) rfl sp181 (by decide) (by decide) rfl ⟨Nat.le_of_ble_eq_true rfl, Nat.le_of_ble_eq_true rfl⟩ (Nat.le_of_ble_eq_true rfl) (c_X11_ofDay hc10) ?_
    obtain ⟨v11, hc12, h⟩ := bind_of h
    refine ev_invV_v (k := (181 : Int)) (av := [(0, v9)]) (st := []) (v := (0, v11.1)) (τ := v11.2) dX11_best_46 ml_X11_273 mv_X11_rows (T := TX11) (ci := 10) rfl sp181 (by decide) (by decide) rfl ⟨Nat.le_of_ble_eq_true rfl, Nat.le_of_ble_eq_true rfl⟩ (Nat.le_of_ble_eq_true rfl) (c_X11_rows hc12) ?_
    refine ev_istoreG dX11_best_49 h rfl (by decide) (fun v13 h => ?_)
    show Ev _ _ _ _ 51 _ _ _ [(2, (181 : Int)), (0, x1), (0, x2), (0, x3), (0, x4), (0, v13), (9, 0), (9, 0), (9, 0), (9, 0)] _
    refine ev_iconst dX11_best_51 (by decide) ?_
    show Ev _ _ _ _ 52 _ _ _ _ _
    refine ev_istore dX11_best_52 rfl (by decide) ?_
    show Ev _ _ _ _ 54 _ _ _ [(2, (181 : Int)), (0, x1), (0, x2), (0, x3), (0, x4), (0, v13), (0, (-1 : Int)), (9, 0), (9, 0), (9, 0)] _
    refine ev_iload dX11_best_54 rfl ?_
    refine ev_if_le (tgt := 63) dX11_best_56 rfl h (fun cb h => ?_) (fun cb h => ?_)
    · refine ev_iconst dX11_best_63 (by decide) ?_
      exact ev_sub (L2 := [(2, (181 : Int)), (0, x1), (0, x2), (0, x3), (0, x4), (0, v13), (0, (-1 : Int)), (9, 0), (9, 0), (9, 0)]) (e_X11_best_64 v11.2 x1 x2 x3 x4 v13 (-1 : Int) (0 : Int) h) ⟨.inr rfl, .inr rfl, .inr rfl, .inr rfl, .inr rfl, .inr rfl, .inr rfl, .inl rfl, .inl rfl, .inl rfl, trivial⟩
    refine ev_iconst dX11_best_59 (by decide) ?_
    refine ev_goto (tgt := 64) dX11_best_60 rfl ?_
    exact ev_sub (L2 := [(2, (181 : Int)), (0, x1), (0, x2), (0, x3), (0, x4), (0, v13), (0, (-1 : Int)), (9, 0), (9, 0), (9, 0)]) (e_X11_best_64 v11.2 x1 x2 x3 x4 v13 (-1 : Int) (1 : Int) h) ⟨.inr rfl, .inr rfl, .inr rfl, .inr rfl, .inr rfl, .inr rfl, .inr rfl, .inl rfl, .inl rfl, .inl rfl, trivial⟩
  exact ev_sub (L2 := [(2, (181 : Int)), (9, 0), (9, 0), (9, 0), (9, 0), (9, 0), (9, 0), (9, 0), (9, 0), (9, 0)]) (e_X11_best_27 σ h) ⟨.inr rfl, .inl rfl, .inl rfl, .inl rfl, .inl rfl, .inl rfl, .inl rfl, .inl rfl, .inl rfl, .inl rfl, trivial⟩
def K_X11_lawful_44 (x1 x2 x3 : Int) (r : Option V × Mem × Mem) : (Int × Int × Mem) ⊕ ((Int × Mem)) → Prop := Sum.elim (fun a => Ev M_X11_lawful 218 218 r 44 218 rho a.2.2 [(2, (181 : Int)), (0, x1), (0, x2), (0, x3), (0, a.1), (0, a.2.1)] []) (fun e => Ev M_X11_lawful 218 218 r 90 218 rho e.2 [(9, 0), (9, 0), (9, 0), (9, 0), (0, e.1), (9, 0)] [])
set_option maxHeartbeats 4000000 in
set_option maxRecDepth 20000 in
theorem e_X11_lawful_15 (σ : Mem)  {q : (Int × Mem)} (h : f_X11_lawful_15 σ  = some q) : Ev M_X11_lawful 218 218 (some (0, q.1), rho, q.2) 15 218 rho σ [(2, (181 : Int)), (9, 0), (9, 0), (9, 0), (9, 0), (9, 0)] [] := by
  unfold f_X11_lawful_15 at h
  refine ev_aload_n dX11_lawful_15 rfl (by decide) ?_
  refine ev_bipush dX11_lawful_16 (by decide) (by decide) ?_
  obtain ⟨v12, hc13, h⟩ := bind_of h
  refine ev_invV_v (k := (181 : Int)) (av := [(0, (-52 : Int))]) (st := []) (v := (0, v12.1)) (τ := v12.2) dX11_lawful_18 ml_X11_151 mv_X11_no (T := TX11) (ci := 10) rfl sp181 (by decide) (by decide) rfl ⟨Nat.le_of_ble_eq_true rfl, Nat.le_of_ble_eq_true rfl⟩ (Nat.le_of_ble_eq_true rfl) (c_X11_no hc13) ?_
  obtain rfl := Option.some.inj h
  dsimp only
  exact ev_iret dX11_lawful_21 rfl rfl
set_option maxHeartbeats 4000000 in
set_option maxRecDepth 20000 in
theorem e_X11_lawful_77 (σ : Mem) (x1 x2 x3 s1 s0 : Int)  {q : ((Int × Int × Mem) ⊕ ((Int × Mem)))} (h : f_X11_lawful_77 σ x1 x2 x3 s1 s0 = some q) {r : Option V × Mem × Mem} (K : K_X11_lawful_44 x1 x2 x3 r q) : Ev M_X11_lawful 218 218 r 77 218 rho σ [(2, (181 : Int)), (0, x1), (0, x2), (0, x3), (9, 0), (9, 0)] [(0, s1), (0, s0)] := by
  unfold f_X11_lawful_77 at h
  refine ev_iadd dX11_lawful_77 ?_
  refine ev_istoreG dX11_lawful_78 h rfl (by decide) (fun v16 h => ?_)
  show Ev _ _ _ _ 80 _ _ _ [(2, (181 : Int)), (0, x1), (0, x2), (0, x3), (0, v16), (9, 0)] _
  refine ev_aload_n dX11_lawful_80 rfl (by decide) ?_
  refine ev_iload_n dX11_lawful_81 rfl ?_
  obtain ⟨v17, hc18, h⟩ := bind_of h
  refine ev_invV_v (k := (181 : Int)) (av := [(0, x3)]) (st := []) (v := (0, v17.1)) (τ := v17.2) dX11_lawful_82 ml_X11_283 mv_X11_next (T := TX11) (ci := 10) rfl sp181 (by decide) (by decide) rfl ⟨Nat.le_of_ble_eq_true rfl, Nat.le_of_ble_eq_true rfl⟩ (Nat.le_of_ble_eq_true rfl) (c_X11_next hc18) ?_
  refine ev_istoreG dX11_lawful_85 h rfl (by decide) (fun v19 h => ?_)
  show Ev _ _ _ _ 87 _ _ _ [(2, (181 : Int)), (0, x1), (0, x2), (0, x3), (0, v16), (0, v19)] _
  refine ev_goto (tgt := 44) dX11_lawful_87 rfl ?_
  obtain rfl := Option.some.inj h
  exact ev_sub (L2 := [(2, (181 : Int)), (0, x1), (0, x2), (0, x3), (0, v16), (0, v19)]) K ⟨.inr rfl, .inr rfl, .inr rfl, .inr rfl, .inr rfl, .inr rfl, trivial⟩
set_option maxHeartbeats 4000000 in
set_option maxRecDepth 20000 in
theorem b_X11_lawful_44 (x1 x2 x3 : Int)  {r : Option V × Mem × Mem} : ∀ a x, f_X11_lawful_44B x1 x2 x3 a = some x → K_X11_lawful_44 x1 x2 x3 r x → K_X11_lawful_44 x1 x2 x3 r (.inl a) := by
  intro a x h K
  obtain ⟨x4, x5, σ⟩ := a
  have h : f_X11_lawful_44C x1 x2 x3 x4 x5 σ = some x := h
  unfold f_X11_lawful_44C at h
  show Ev M_X11_lawful 218 218 r 44 218 rho σ [(2, (181 : Int)), (0, x1), (0, x2), (0, x3), (0, x4), (0, x5)] []
  refine ev_iload dX11_lawful_44 rfl ?_
  refine ev_if_eq (tgt := 90) dX11_lawful_46 rfl h (fun cb h => ?_) (fun cb h => ?_)
  · obtain rfl := Option.some.inj h
    exact ev_sub (L2 := [(9, 0), (9, 0), (9, 0), (9, 0), (0, x4), (9, 0)]) K ⟨.inl rfl, .inl rfl, .inl rfl, .inl rfl, .inr rfl, .inl rfl, trivial⟩
  refine ev_iload dX11_lawful_49 rfl ?_
  refine ev_aload_n dX11_lawful_51 rfl (by decide) ?_
  refine ev_iload_n dX11_lawful_52 rfl ?_
  refine ev_iload_n dX11_lawful_53 rfl ?_
  refine ev_aload_n dX11_lawful_54 rfl (by decide) ?_
  refine ev_getf (j := 22) (t := 2) (x := (198 : Int)) dX11_lawful_55 cf_X11 wf_X11_60 sp181 (by decide) (by decide) rfl (by decide) (rp181_22 _) ?_
  refine ev_iload_n dX11_lawful_58 rfl ?_
  refine ev_iald dX11_lawful_59 sp198 (by decide) (by decide) h (fun h => ?_)
  refine ev_aload_n dX11_lawful_60 rfl (by decide) ?_
  refine ev_getf (j := 23) (t := 2) (x := (199 : Int)) dX11_lawful_61 cf_X11 wf_X11_63 sp181 (by decide) (by decide) rfl (by decide) (rp181_23 _) ?_
  refine ev_iload_n dX11_lawful_64 rfl ?_
  show Ev _ _ _ _ 65 _ _ _ _ _
  refine ev_iald dX11_lawful_65 sp199 (by decide) (by decide) h (fun h => ?_)
  obtain ⟨v14, hc15, h⟩ := bind_of h
  refine ev_invV_v (k := (181 : Int)) (av := [(0, x1), (0, x3), (0, (σ (198 : Int) x2)), (0, (σ (199 : Int) x2))]) (st := [(0, x4)]) (v := (0, v14.1)) (τ := v14.2) dX11_lawful_66 ml_X11_276 mv_X11_isLaid (T := TX11) (ci := 10) rfl sp181 (by decide) (by decide) rfl ⟨Nat.le_of_ble_eq_true rfl, Nat.le_of_ble_eq_true rfl⟩ (Nat.le_of_ble_eq_true rfl) (c_X11_isLaid hc15) ?_
  refine ev_if_eq (tgt := 76) dX11_lawful_69 rfl h (fun cb h => ?_) (fun cb h => ?_)
  · refine ev_iconst dX11_lawful_76 (by decide) ?_
    exact ev_sub (L2 := [(2, (181 : Int)), (0, x1), (0, x2), (0, x3), (9, 0), (9, 0)]) (e_X11_lawful_77 v14.2 x1 x2 x3 (0 : Int) x4 h K) ⟨.inr rfl, .inr rfl, .inr rfl, .inr rfl, .inl rfl, .inl rfl, trivial⟩
  refine ev_iconst dX11_lawful_72 (by decide) ?_
  refine ev_goto (tgt := 77) dX11_lawful_73 rfl ?_
  exact ev_sub (L2 := [(2, (181 : Int)), (0, x1), (0, x2), (0, x3), (9, 0), (9, 0)]) (e_X11_lawful_77 v14.2 x1 x2 x3 (1 : Int) x4 h K) ⟨.inr rfl, .inr rfl, .inr rfl, .inr rfl, .inl rfl, .inl rfl, trivial⟩
set_option maxHeartbeats 4000000 in
set_option maxRecDepth 20000 in
theorem e_X11_lawful_44 (σ : Mem) (x1 x2 x3 x4 x5 : Int)  {q : (Int × Mem)} (h : f_X11_lawful_44 σ x1 x2 x3 x4 x5 = some q) : Ev M_X11_lawful 218 218 (some (0, q.1), rho, q.2) 44 218 rho σ [(2, (181 : Int)), (0, x1), (0, x2), (0, x3), (0, x4), (0, x5)] [] := by
  unfold f_X11_lawful_44 at h
  obtain ⟨e, hl, h⟩ := bind_of h
  refine loop_ev (K := K_X11_lawful_44 x1 x2 x3 (some (0, q.1), rho, q.2)) (b_X11_lawful_44 x1 x2 x3) FU (x4, x5, σ) e hl ?_
  show Ev M_X11_lawful 218 218 _ 90 218 rho e.2 [(9, 0), (9, 0), (9, 0), (9, 0), (0, e.1), (9, 0)] []
  replace h : some (e.1, e.2) = some q := h
  refine ev_iload dX11_lawful_90 rfl ?_
  obtain rfl := Option.some.inj h
  dsimp only
  exact ev_iret dX11_lawful_92 rfl rfl
set_option maxHeartbeats 4000000 in
set_option maxRecDepth 20000 in
theorem c_X11_lawful {σ : Mem} {x1 x2 : Int}  {q : (Int × Mem)} (h : f_X11_lawful σ x1 x2 = some q) : Ms yX11_lawful M_X11_lawful 218 218 [(2, (181 : Int)), (0, x1), (0, x2)] rho σ (some (0, q.1), rho, q.2) := by
  refine Ms.of 3 (by decide +kernel) rfl (fun z => absurd z (by decide)) (fun _ _ _ => trivial) rfl rfl ?_
  unfold f_X11_lawful at h
  show Ev M_X11_lawful 218 218 _ 0 218 rho σ [(2, (181 : Int)), (0, x1), (0, x2), (9, 0), (9, 0), (9, 0)] []
  refine ev_aload_n dX11_lawful_0 rfl (by decide) ?_
  refine ev_iload_n dX11_lawful_1 rfl ?_
  obtain ⟨v1, hc2, h⟩ := bind_of h
  refine ev_invV_v (k := (181 : Int)) (av := [(0, x1)]) (st := []) (v := (0, v1)) (τ := σ) dX11_lawful_2 ml_X11_157 mv_X11_isCand (T := TX11) (ci := 10) rfl sp181 (by decide) (by decide) rfl ⟨Nat.le_of_ble_eq_true rfl, Nat.le_of_ble_eq_true rfl⟩ (Nat.le_of_ble_eq_true rfl) (c_X11_isCand hc2) ?_
  refine ev_if_eq (tgt := 15) dX11_lawful_5 rfl h (fun cb h => ?_) (fun cb h => ?_)
  · exact ev_sub (L2 := [(2, (181 : Int)), (9, 0), (9, 0), (9, 0), (9, 0), (9, 0)]) (e_X11_lawful_15 σ h) ⟨.inr rfl, .inl rfl, .inl rfl, .inl rfl, .inl rfl, .inl rfl, trivial⟩
  refine ev_iload_n dX11_lawful_8 rfl ?_
  obtain ⟨v3, hc4, h⟩ := bind_of h
  refine ev_invS_v (av := [(0, x2)]) (st := []) (v := (0, v3)) (τ := σ) dX11_lawful_9 ml_X11_168 mt_X11_isDay rfl ⟨Nat.le_of_ble_eq_true rfl, Nat.le_of_ble_eq_true rfl⟩ (Nat.le_of_ble_eq_true rfl) (c_X11_isDay hc4) ?_
  refine ev_if_ne (tgt := 22) dX11_lawful_12 rfl h (fun cb h => ?_) (fun cb h => ?_)
  · refine ev_aload_n dX11_lawful_22 rfl (by decide) ?_
    refine ev_iload_n dX11_lawful_23 rfl ?_
    obtain ⟨σ5, hc6, h⟩ := bind_of h
    refine ev_invV_n (k := (181 : Int)) (av := [(0, x1)]) (st := []) (τ := σ5) dX11_lawful_24 ml_X11_290 mv_X11_plans (T := TX11) (ci := 10) rfl sp181 (by decide) (by decide) rfl ⟨Nat.le_of_ble_eq_true rfl, Nat.le_of_ble_eq_true rfl⟩ (Nat.le_of_ble_eq_true rfl) (c_X11_plans hc6) ?_
    refine ev_aload_n dX11_lawful_27 rfl (by decide) ?_
    refine ev_aload_n dX11_lawful_28 rfl (by decide) ?_
    refine ev_iload_n dX11_lawful_29 rfl ?_
    refine ev_iload_n dX11_lawful_30 rfl ?_
    obtain ⟨v7, hc8, h⟩ := bind_of h
    refine ev_invV_v (k := (181 : Int)) (av := [(0, x1), (0, x2)]) (st := [(2, (181 : Int))]) (v := (0, v7)) (τ := σ5) dX11_lawful_31 ml_X11_188 mv_X11_ofDay (T := TX11) (ci := 10) rfl sp181 (by decide) (by decide) rfl ⟨Nat.le_of_ble_eq_true rfl, Nat.le_of_ble_eq_true rfl⟩ (Nat.le_of_ble_eq_true rfl) (c_X11_ofDay hc8) ?_
    obtain ⟨v9, hc10, h⟩ := bind_of h
    refine ev_invV_v (k := (181 : Int)) (av := [(0, v7)]) (st := []) (v := (0, v9.1)) (τ := v9.2) dX11_lawful_34 ml_X11_273 mv_X11_rows (T := TX11) (ci := 10) rfl sp181 (by decide) (by decide) rfl ⟨Nat.le_of_ble_eq_true rfl, Nat.le_of_ble_eq_true rfl⟩ (Nat.le_of_ble_eq_true rfl) (c_X11_rows hc10) ?_
    refine ev_istore_nG dX11_lawful_37 h rfl (by decide) (fun v11 h => ?_)
    show Ev _ _ _ _ 38 _ _ _ [(2, (181 : Int)), (0, x1), (0, x2), (0, v11), (9, 0), (9, 0)] _
    refine ev_iconst dX11_lawful_38 (by decide) ?_
    show Ev _ _ _ _ 39 _ _ _ _ _
    refine ev_istore dX11_lawful_39 rfl (by decide) ?_
    show Ev _ _ _ _ 41 _ _ _ [(2, (181 : Int)), (0, x1), (0, x2), (0, v11), (0, (0 : Int)), (9, 0)] _
    refine ev_iconst dX11_lawful_41 (by decide) ?_
    refine ev_istore dX11_lawful_42 rfl (by decide) ?_
    show Ev _ _ _ _ 44 _ _ _ [(2, (181 : Int)), (0, x1), (0, x2), (0, v11), (0, (0 : Int)), (0, (1 : Int))] _
    exact ev_sub (L2 := [(2, (181 : Int)), (0, x1), (0, x2), (0, v11), (0, (0 : Int)), (0, (1 : Int))]) (e_X11_lawful_44 v9.2 x1 x2 v11 (0 : Int) (1 : Int) h) ⟨.inr rfl, .inr rfl, .inr rfl, .inr rfl, .inr rfl, .inr rfl, trivial⟩
  exact ev_sub (L2 := [(2, (181 : Int)), (9, 0), (9, 0), (9, 0), (9, 0), (9, 0)]) (e_X11_lawful_15 σ h) ⟨.inr rfl, .inl rfl, .inl rfl, .inl rfl, .inl rfl, .inl rfl, trivial⟩
