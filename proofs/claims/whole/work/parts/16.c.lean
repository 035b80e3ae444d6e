def K_X11_roomed_161 (x1 x2 x3 x4 : Int) (r : Option V × Mem × Mem) : (Int × Mem) ⊕ ((Mem)) → Prop := Sum.elim (fun a => Ev M_X11_roomed 210 210 r 161 210 rho a.2 [(2, (173 : Int)), (0, x1), (0, x2), (0, x3), (0, x4), (9, 0), (0, a.1), (9, 0)] []) (fun e => Ev M_X11_roomed 210 210 r 202 210 rho e [(2, (173 : Int)), (0, x1), (0, x2), (0, x3), (9, 0), (9, 0), (9, 0), (9, 0)] [])
def K_X11_roomed_43 (σ : Mem) (x1 x2 x3 : Int) (r : Option V × Mem × Mem) : (Int × Int × Int) ⊕ ((Int × Int)) → Prop := Sum.elim (fun a => Ev M_X11_roomed 210 210 r 43 210 rho σ [(2, (173 : Int)), (0, x1), (0, x2), (0, x3), (0, a.1), (0, a.2.1), (0, a.2.2), (9, 0)] []) (fun e => Ev M_X11_roomed 210 210 r 116 210 rho σ [(2, (173 : Int)), (0, x1), (9, 0), (0, x3), (0, e.1), (0, e.2), (9, 0), (9, 0)] [])
def K_X11_roomed_24 (x1 : Int) (r : Option V × Mem × Mem) : (Int × Int × Mem) ⊕ ((Mem)) → Prop := Sum.elim (fun a => Ev M_X11_roomed 210 210 r 24 210 rho a.2.2 [(2, (173 : Int)), (0, x1), (0, a.1), (0, a.2.1), (9, 0), (9, 0), (9, 0), (9, 0)] []) (fun e => Ev M_X11_roomed 210 210 r 208 210 rho e [(9, 0), (9, 0), (9, 0), (9, 0), (9, 0), (9, 0), (9, 0), (9, 0)] [])
set_option maxHeartbeats 4000000 in
set_option maxRecDepth 20000 in
theorem e_X11_roomed_99 (σ : Mem) (x1 x2 x3 x5 x6 x7 s0 : Int)  {q : ((Int × Int × Int) ⊕ ((Int × Int)))} (h : f_X11_roomed_99 σ x1 x2 x3 x5 x6 x7 s0 = some q) {r : Option V × Mem × Mem} (K : K_X11_roomed_43 σ x1 x2 x3 r q) : Ev M_X11_roomed 210 210 r 99 210 rho σ [(2, (173 : Int)), (0, x1), (0, x2), (0, x3), (9, 0), (0, x5), (0, x6), (0, x7)] [(0, s0)] := by
  unfold f_X11_roomed_99 at h
  refine ev_istore dX11_roomed_99 rfl (by decide) ?_
  show Ev _ _ _ _ 101 _ _ _ [(2, (173 : Int)), (0, x1), (0, x2), (0, x3), (0, s0), (0, x5), (0, x6), (0, x7)] _
  refine ev_iload dX11_roomed_101 rfl ?_
  refine ev_iload dX11_roomed_103 rfl ?_
  refine ev_mn dX11_roomed_105 wa_X11_343 wm_min (by decide) (Nat.le_of_ble_eq_true rfl) ?_
  refine ev_istoreG dX11_roomed_108 h rfl (by decide) (fun v3 h => ?_)
  show Ev _ _ _ _ 110 _ _ _ [(2, (173 : Int)), (0, x1), (0, x2), (0, x3), (0, s0), (0, v3), (0, x6), (0, x7)] _
  refine ev_iincG dX11_roomed_110 rfl h rfl (fun v4 h => ?_)
  show Ev _ _ _ _ 113 _ _ _ [(2, (173 : Int)), (0, x1), (0, x2), (0, x3), (0, s0), (0, v3), (0, v4), (0, x7)] _
  refine ev_goto (tgt := 43) dX11_roomed_113 rfl ?_
  obtain rfl := Option.some.inj h
  exact ev_sub (L2 := [(2, (173 : Int)), (0, x1), (0, x2), (0, x3), (0, s0), (0, v3), (0, v4), (9, 0)]) K ⟨.inr rfl, .inr rfl, .inr rfl, .inr rfl, .inr rfl, .inr rfl, .inr rfl, .inl rfl, trivial⟩
set_option maxHeartbeats 4000000 in
set_option maxRecDepth 20000 in
theorem e_X11_roomed_82 (σ : Mem) (x1 x2 x3 x4 x5 x6 s1 s0 : Int)  {q : ((Int × Int × Int) ⊕ ((Int × Int)))} (h : f_X11_roomed_82 σ x1 x2 x3 x4 x5 x6 s1 s0 = some q) {r : Option V × Mem × Mem} (K : K_X11_roomed_43 σ x1 x2 x3 r q) : Ev M_X11_roomed 210 210 r 82 210 rho σ [(2, (173 : Int)), (0, x1), (0, x2), (0, x3), (0, x4), (0, x5), (0, x6), (9, 0)] [(0, s1), (0, s0)] := by
  unfold f_X11_roomed_82 at h
  refine ev_iadd dX11_roomed_82 ?_
  refine ev_istoreG dX11_roomed_83 h rfl (by decide) (fun v2 h => ?_)
  show Ev _ _ _ _ 85 _ _ _ [(2, (173 : Int)), (0, x1), (0, x2), (0, x3), (0, x4), (0, x5), (0, x6), (0, v2)] _
  refine ev_iload dX11_roomed_85 rfl ?_
  refine ev_iload dX11_roomed_87 rfl ?_
  refine ev_icmp_ge (tgt := 97) dX11_roomed_89 rfl h (fun cb h => ?_) (fun cb h => ?_)
  · refine ev_iload dX11_roomed_97 rfl ?_
    exact ev_sub (L2 := [(2, (173 : Int)), (0, x1), (0, x2), (0, x3), (9, 0), (0, x5), (0, x6), (0, v2)]) (e_X11_roomed_99 σ x1 x2 x3 x5 x6 v2 x4 h K) ⟨.inr rfl, .inr rfl, .inr rfl, .inr rfl, .inl rfl, .inr rfl, .inr rfl, .inr rfl, trivial⟩
  refine ev_iload dX11_roomed_92 rfl ?_
  refine ev_goto (tgt := 99) dX11_roomed_94 rfl ?_
  exact ev_sub (L2 := [(2, (173 : Int)), (0, x1), (0, x2), (0, x3), (9, 0), (0, x5), (0, x6), (0, v2)]) (e_X11_roomed_99 σ x1 x2 x3 x5 x6 v2 x6 h K) ⟨.inr rfl, .inr rfl, .inr rfl, .inr rfl, .inl rfl, .inr rfl, .inr rfl, .inr rfl, trivial⟩
set_option maxHeartbeats 4000000 in
set_option maxRecDepth 20000 in
theorem e_X11_roomed_81 (σ : Mem) (x1 x2 x3 x4 x5 x6 s0 : Int)  {q : ((Int × Int × Int) ⊕ ((Int × Int)))} (h : f_X11_roomed_81 σ x1 x2 x3 x4 x5 x6 s0 = some q) {r : Option V × Mem × Mem} (K : K_X11_roomed_43 σ x1 x2 x3 r q) : Ev M_X11_roomed 210 210 r 81 210 rho σ [(2, (173 : Int)), (0, x1), (0, x2), (0, x3), (0, x4), (0, x5), (0, x6), (9, 0)] [(0, s0)] := by
  unfold f_X11_roomed_81 at h
  refine ev_iconst dX11_roomed_81 (by decide) ?_
  exact ev_sub (L2 := [(2, (173 : Int)), (0, x1), (0, x2), (0, x3), (0, x4), (0, x5), (0, x6), (9, 0)]) (e_X11_roomed_82 σ x1 x2 x3 x4 x5 x6 (0 : Int) s0 h K) ⟨.inr rfl, .inr rfl, .inr rfl, .inr rfl, .inr rfl, .inr rfl, .inr rfl, .inl rfl, trivial⟩
set_option maxHeartbeats 4000000 in
set_option maxRecDepth 20000 in
theorem e_X11_roomed_202 (σ : Mem) (x1 x2 x3 : Int)  {q : ((Int × Int × Mem) ⊕ ((Mem)))} (h : f_X11_roomed_202 σ x1 x2 x3 = some q) {r : Option V × Mem × Mem} (K : K_X11_roomed_24 x1 r q) : Ev M_X11_roomed 210 210 r 202 210 rho σ [(2, (173 : Int)), (0, x1), (0, x2), (0, x3), (9, 0), (9, 0), (9, 0), (9, 0)] [] := by
  unfold f_X11_roomed_202 at h
  refine ev_iincG dX11_roomed_202 rfl h rfl (fun v10 h => ?_)
  show Ev _ _ _ _ 205 _ _ _ [(2, (173 : Int)), (0, x1), (0, x2), (0, v10), (9, 0), (9, 0), (9, 0), (9, 0)] _
  refine ev_goto (tgt := 24) dX11_roomed_205 rfl ?_
  obtain rfl := Option.some.inj h
  exact ev_sub (L2 := [(2, (173 : Int)), (0, x1), (0, x2), (0, v10), (9, 0), (9, 0), (9, 0), (9, 0)]) K ⟨.inr rfl, .inr rfl, .inr rfl, .inr rfl, .inl rfl, .inl rfl, .inl rfl, .inl rfl, trivial⟩
set_option maxHeartbeats 4000000 in
set_option maxRecDepth 20000 in
theorem b_X11_roomed_161 (x1 x2 x3 x4 : Int)  {r : Option V × Mem × Mem} : ∀ a x, f_X11_roomed_161B x1 x2 x3 x4 a = some x → K_X11_roomed_161 x1 x2 x3 x4 r x → K_X11_roomed_161 x1 x2 x3 x4 r (.inl a) := by
  intro a x h K
  obtain ⟨x6, σ⟩ := a
  have h : f_X11_roomed_161C x1 x2 x3 x4 x6 σ = some x := h
  unfold f_X11_roomed_161C at h
  show Ev M_X11_roomed 210 210 r 161 210 rho σ [(2, (173 : Int)), (0, x1), (0, x2), (0, x3), (0, x4), (9, 0), (0, x6), (9, 0)] []
  refine ev_iload dX11_roomed_161 rfl ?_
  refine ev_aload_n dX11_roomed_163 rfl (by decide) ?_
  refine ev_getf (j := 38) (t := 2) (x := (203 : Int)) dX11_roomed_164 cf_X11 wf_X11_99 sp173 (by decide) (by decide) rfl (by decide) (rp173_38 _) ?_
  refine ev_iload_n dX11_roomed_167 rfl ?_
  refine ev_iald dX11_roomed_168 sp203 (by decide) (by decide) h (fun h => ?_)
  refine ev_aload_n dX11_roomed_169 rfl (by decide) ?_
  refine ev_getf (j := 39) (t := 2) (x := (204 : Int)) dX11_roomed_170 cf_X11 wf_X11_102 sp173 (by decide) (by decide) rfl (by decide) (rp173_39 _) ?_
  refine ev_iload_n dX11_roomed_173 rfl ?_
  refine ev_iald dX11_roomed_174 sp204 (by decide) (by decide) h (fun h => ?_)
  refine ev_iadd dX11_roomed_175 ?_
  refine ev_icmp_ge (tgt := 202) dX11_roomed_176 rfl h (fun cb h => ?_) (fun cb h => ?_)
  · obtain rfl := Option.some.inj h
    exact ev_sub (L2 := [(2, (173 : Int)), (0, x1), (0, x2), (0, x3), (9, 0), (9, 0), (9, 0), (9, 0)]) K ⟨.inr rfl, .inr rfl, .inr rfl, .inr rfl, .inl rfl, .inl rfl, .inl rfl, .inl rfl, trivial⟩
  refine ev_aload_n dX11_roomed_179 rfl (by decide) ?_
  refine ev_getf (j := 43) (t := 2) (x := (208 : Int)) dX11_roomed_180 cf_X11 wf_X11_114 sp173 (by decide) (by decide) rfl (by decide) (rp173_43 _) ?_
  refine ev_bipush dX11_roomed_183 (by decide) (by decide) ?_
  refine ev_iload dX11_roomed_185 rfl ?_
  refine ev_imul dX11_roomed_187 ?_
  refine ev_iload dX11_roomed_188 rfl ?_
  refine ev_iadd dX11_roomed_190 ?_
  refine ev_dup2 dX11_roomed_191 (show (0 : Nat) ≠ 1 by decide) (show (2 : Nat) ≠ 1 by decide) ?_
  refine ev_iald dX11_roomed_192 sp208 (by decide) (by decide) h (fun h => ?_)
  refine ev_iconst dX11_roomed_193 (by decide) ?_
  refine ev_isub dX11_roomed_194 ?_
  show Ev _ _ _ _ 195 _ _ _ _ _
  refine ev_iastG dX11_roomed_195 sp208 (by decide) (by decide) h (fun σ8 h => ?_)
  refine ev_iincG dX11_roomed_196 rfl h rfl (fun v9 h => ?_)
  show Ev _ _ _ _ 199 _ _ _ [(2, (173 : Int)), (0, x1), (0, x2), (0, x3), (0, x4), (9, 0), (0, v9), (9, 0)] _
  refine ev_goto (tgt := 161) dX11_roomed_199 rfl ?_
  obtain rfl := Option.some.inj h
  exact ev_sub (L2 := [(2, (173 : Int)), (0, x1), (0, x2), (0, x3), (0, x4), (9, 0), (0, v9), (9, 0)]) K ⟨.inr rfl, .inr rfl, .inr rfl, .inr rfl, .inr rfl, .inl rfl, .inr rfl, .inl rfl, trivial⟩
set_option maxHeartbeats 4000000 in
set_option maxRecDepth 20000 in
theorem e_X11_roomed_161 (σ : Mem) (x1 x2 x3 x4 x6 : Int)  {q : ((Int × Int × Mem) ⊕ ((Mem)))} (h : f_X11_roomed_161 σ x1 x2 x3 x4 x6 = some q) {r : Option V × Mem × Mem} (K : K_X11_roomed_24 x1 r q) : Ev M_X11_roomed 210 210 r 161 210 rho σ [(2, (173 : Int)), (0, x1), (0, x2), (0, x3), (0, x4), (9, 0), (0, x6), (9, 0)] [] := by
  unfold f_X11_roomed_161 at h
  obtain ⟨e, hl, h⟩ := bind_of h
  refine loop_ev (K := K_X11_roomed_161 x1 x2 x3 x4 r) (b_X11_roomed_161 x1 x2 x3 x4) FU (x6, σ) e hl ?_
  show Ev M_X11_roomed 210 210 r 202 210 rho e [(2, (173 : Int)), (0, x1), (0, x2), (0, x3), (9, 0), (9, 0), (9, 0), (9, 0)] []
  replace h : f_X11_roomed_202 e x1 x2 x3 = some q := h
  exact ev_sub (L2 := [(2, (173 : Int)), (0, x1), (0, x2), (0, x3), (9, 0), (9, 0), (9, 0), (9, 0)]) (e_X11_roomed_202 e x1 x2 x3 h K) ⟨.inr rfl, .inr rfl, .inr rfl, .inr rfl, .inl rfl, .inl rfl, .inl rfl, .inl rfl, trivial⟩
set_option maxHeartbeats 4000000 in
set_option maxRecDepth 20000 in
theorem e_X11_roomed_136 (σ : Mem) (x1 x3 x4 s2 s1 : Int)  {q : ((Int × Int × Mem) ⊕ ((Mem)))} (h : f_X11_roomed_136 σ x1 x3 x4 s2 s1 = some q) {r : Option V × Mem × Mem} (K : K_X11_roomed_24 x1 r q) : Ev M_X11_roomed 210 210 r 136 210 rho σ [(2, (173 : Int)), (0, x1), (9, 0), (0, x3), (0, x4), (9, 0), (9, 0), (9, 0)] [(0, s2), (0, s1), (2, (206 : Int))] := by
  unfold f_X11_roomed_136 at h
  refine ev_iastG dX11_roomed_136 sp206 (by decide) (by decide) h (fun σ5 h => ?_)
  refine ev_aload_n dX11_roomed_137 rfl (by decide) ?_
  refine ev_getf (j := 40) (t := 2) (x := (205 : Int)) dX11_roomed_138 cf_X11 wf_X11_105 sp173 (by decide) (by decide) rfl (by decide) (rp173_40 _) ?_
  refine ev_bipush dX11_roomed_141 (by decide) (by decide) ?_
  refine ev_iload_n dX11_roomed_143 rfl ?_
  refine ev_imul dX11_roomed_144 ?_
  refine ev_iload_n dX11_roomed_145 rfl ?_
  refine ev_iadd dX11_roomed_146 ?_
  refine ev_iload dX11_roomed_147 rfl ?_
  refine ev_iastG dX11_roomed_149 sp205 (by decide) (by decide) h (fun σ6 h => ?_)
  refine ev_iload dX11_roomed_150 rfl ?_
  show Ev _ _ _ _ 152 _ _ _ _ _
  refine ev_istore_n dX11_roomed_152 rfl (by decide) ?_
  show Ev _ _ _ _ 153 _ _ _ [(2, (173 : Int)), (0, x1), (0, x4), (0, x3), (0, x4), (9, 0), (9, 0), (9, 0)] _
  refine ev_aload_n dX11_roomed_153 rfl (by decide) ?_
  refine ev_getf (j := 38) (t := 2) (x := (203 : Int)) dX11_roomed_154 cf_X11 wf_X11_99 sp173 (by decide) (by decide) rfl (by decide) (rp173_38 _) ?_
  refine ev_iload_n dX11_roomed_157 rfl ?_
  refine ev_iald dX11_roomed_158 sp203 (by decide) (by decide) h (fun h => ?_)
  refine ev_istoreG dX11_roomed_159 h rfl (by decide) (fun v7 h => ?_)
  show Ev _ _ _ _ 161 _ _ _ [(2, (173 : Int)), (0, x1), (0, x4), (0, x3), (0, x4), (9, 0), (0, v7), (9, 0)] _
  exact ev_sub (L2 := [(2, (173 : Int)), (0, x1), (0, x4), (0, x3), (0, x4), (9, 0), (0, v7), (9, 0)]) (e_X11_roomed_161 σ6 x1 x4 x3 x4 v7 h K) ⟨.inr rfl, .inr rfl, .inr rfl, .inr rfl, .inr rfl, .inl rfl, .inr rfl, .inl rfl, trivial⟩
set_option maxHeartbeats 4000000 in
set_option maxRecDepth 20000 in
theorem e_X11_roomed_116 (σ : Mem) (x1 x3 x4 x5 : Int)  {q : ((Int × Int × Mem) ⊕ ((Mem)))} (h : f_X11_roomed_116 σ x1 x3 x4 x5 = some q) {r : Option V × Mem × Mem} (K : K_X11_roomed_24 x1 r q) : Ev M_X11_roomed 210 210 r 116 210 rho σ [(2, (173 : Int)), (0, x1), (9, 0), (0, x3), (0, x4), (0, x5), (9, 0), (9, 0)] [] := by
  unfold f_X11_roomed_116 at h
  refine ev_aload_n dX11_roomed_116 rfl (by decide) ?_
  refine ev_getf (j := 41) (t := 2) (x := (206 : Int)) dX11_roomed_117 cf_X11 wf_X11_108 sp173 (by decide) (by decide) rfl (by decide) (rp173_41 _) ?_
  refine ev_iload_n dX11_roomed_120 rfl ?_
  refine ev_iload_n dX11_roomed_121 rfl ?_
  refine ev_if_ne (tgt := 130) dX11_roomed_122 rfl h (fun cb h => ?_) (fun cb h => ?_)
  · refine ev_aload_n dX11_roomed_130 rfl (by decide) ?_
    refine ev_getf (j := 41) (t := 2) (x := (206 : Int)) dX11_roomed_131 cf_X11 wf_X11_108 sp173 (by decide) (by decide) rfl (by decide) (rp173_41 _) ?_
    refine ev_iload_n dX11_roomed_134 rfl ?_
    refine ev_iald dX11_roomed_135 sp206 (by decide) (by decide) h (fun h => ?_)
    exact ev_sub (L2 := [(2, (173 : Int)), (0, x1), (9, 0), (0, x3), (0, x4), (9, 0), (9, 0), (9, 0)]) (e_X11_roomed_136 σ x1 x3 x4 (σ (206 : Int) x1) x1 h K) ⟨.inr rfl, .inr rfl, .inl rfl, .inr rfl, .inr rfl, .inl rfl, .inl rfl, .inl rfl, trivial⟩
  refine ev_iload dX11_roomed_125 rfl ?_
  refine ev_goto (tgt := 136) dX11_roomed_127 rfl ?_
  exact ev_sub (L2 := [(2, (173 : Int)), (0, x1), (9, 0), (0, x3), (0, x4), (9, 0), (9, 0), (9, 0)]) (e_X11_roomed_136 σ x1 x3 x4 x5 x1 h K) ⟨.inr rfl, .inr rfl, .inl rfl, .inr rfl, .inr rfl, .inl rfl, .inl rfl, .inl rfl, trivial⟩
set_option maxHeartbeats 4000000 in
set_option maxRecDepth 20000 in
theorem b_X11_roomed_43 (σ : Mem) (x1 x2 x3 : Int)  {r : Option V × Mem × Mem} : ∀ a x, f_X11_roomed_43B σ x1 x2 x3 a = some x → K_X11_roomed_43 σ x1 x2 x3 r x → K_X11_roomed_43 σ x1 x2 x3 r (.inl a) := by
  intro a x h K
  obtain ⟨x4, x5, x6⟩ := a
  have h : f_X11_roomed_43C σ x1 x2 x3 x4 x5 x6 = some x := h
  unfold f_X11_roomed_43C at h
  show Ev M_X11_roomed 210 210 r 43 210 rho σ [(2, (173 : Int)), (0, x1), (0, x2), (0, x3), (0, x4), (0, x5), (0, x6), (9, 0)] []
  refine ev_iload dX11_roomed_43 rfl ?_
  refine ev_aload_n dX11_roomed_45 rfl (by decide) ?_
  refine ev_getf (j := 0) (t := 2) (x := (174 : Int)) dX11_roomed_46 cf_X11 wf_X11_7 sp173 (by decide) (by decide) rfl (by decide) (rp173_0 _) ?_
  refine ev_bipush dX11_roomed_49 (by decide) (by decide) ?_
  refine ev_iald dX11_roomed_51 sp174 (by decide) (by decide) h (fun h => ?_)
  refine ev_icmp_ge (tgt := 116) dX11_roomed_52 rfl h (fun cb h => ?_) (fun cb h => ?_)
  · obtain rfl := Option.some.inj h
    exact ev_sub (L2 := [(2, (173 : Int)), (0, x1), (9, 0), (0, x3), (0, x4), (0, x5), (9, 0), (9, 0)]) K ⟨.inr rfl, .inr rfl, .inl rfl, .inr rfl, .inr rfl, .inr rfl, .inl rfl, .inl rfl, trivial⟩
  refine ev_aload_n dX11_roomed_55 rfl (by decide) ?_
  refine ev_getf (j := 44) (t := 2) (x := (209 : Int)) dX11_roomed_56 cf_X11 wf_X11_117 sp173 (by decide) (by decide) rfl (by decide) (rp173_44 _) ?_
  refine ev_bipush dX11_roomed_59 (by decide) (by decide) ?_
  refine ev_iload_n dX11_roomed_61 rfl ?_
  refine ev_imul dX11_roomed_62 ?_
  refine ev_iload dX11_roomed_63 rfl ?_
  refine ev_iadd dX11_roomed_65 ?_
  refine ev_iald dX11_roomed_66 sp209 (by decide) (by decide) h (fun h => ?_)
  refine ev_iload_n dX11_roomed_67 rfl ?_
  refine ev_if_lt (tgt := 81) dX11_roomed_68 rfl h (fun cb h => ?_) (fun cb h => ?_)
  · exact ev_sub (L2 := [(2, (173 : Int)), (0, x1), (0, x2), (0, x3), (0, x4), (0, x5), (0, x6), (9, 0)]) (e_X11_roomed_81 σ x1 x2 x3 x4 x5 x6 (σ (209 : Int) (jadd (jmul (6 : Int) x3) x6)) h K) ⟨.inr rfl, .inr rfl, .inr rfl, .inr rfl, .inr rfl, .inr rfl, .inr rfl, .inl rfl, trivial⟩
  refine ev_iload dX11_roomed_71 rfl ?_
  refine ev_iload_n dX11_roomed_73 rfl ?_
  refine ev_icmp_eq (tgt := 81) dX11_roomed_74 rfl h (fun cb h => ?_) (fun cb h => ?_)
  · exact ev_sub (L2 := [(2, (173 : Int)), (0, x1), (0, x2), (0, x3), (0, x4), (0, x5), (0, x6), (9, 0)]) (e_X11_roomed_81 σ x1 x2 x3 x4 x5 x6 (σ (209 : Int) (jadd (jmul (6 : Int) x3) x6)) h K) ⟨.inr rfl, .inr rfl, .inr rfl, .inr rfl, .inr rfl, .inr rfl, .inr rfl, .inl rfl, trivial⟩
  refine ev_iconst dX11_roomed_77 (by decide) ?_
  refine ev_goto (tgt := 82) dX11_roomed_78 rfl ?_
  exact ev_sub (L2 := [(2, (173 : Int)), (0, x1), (0, x2), (0, x3), (0, x4), (0, x5), (0, x6), (9, 0)]) (e_X11_roomed_82 σ x1 x2 x3 x4 x5 x6 (1 : Int) (σ (209 : Int) (jadd (jmul (6 : Int) x3) x6)) h K) ⟨.inr rfl, .inr rfl, .inr rfl, .inr rfl, .inr rfl, .inr rfl, .inr rfl, .inl rfl, trivial⟩
set_option maxHeartbeats 4000000 in
set_option maxRecDepth 20000 in
theorem e_X11_roomed_43 (σ : Mem) (x1 x2 x3 x4 x5 x6 : Int)  {q : ((Int × Int × Mem) ⊕ ((Mem)))} (h : f_X11_roomed_43 σ x1 x2 x3 x4 x5 x6 = some q) {r : Option V × Mem × Mem} (K : K_X11_roomed_24 x1 r q) : Ev M_X11_roomed 210 210 r 43 210 rho σ [(2, (173 : Int)), (0, x1), (0, x2), (0, x3), (0, x4), (0, x5), (0, x6), (9, 0)] [] := by
  unfold f_X11_roomed_43 at h
  obtain ⟨e, hl, h⟩ := bind_of h
  refine loop_ev (K := K_X11_roomed_43 σ x1 x2 x3 r) (b_X11_roomed_43 σ x1 x2 x3) FU (x4, x5, x6) e hl ?_
  show Ev M_X11_roomed 210 210 r 116 210 rho σ [(2, (173 : Int)), (0, x1), (9, 0), (0, x3), (0, e.1), (0, e.2), (9, 0), (9, 0)] []
  replace h : f_X11_roomed_116 σ x1 x3 e.1 e.2 = some q := h
  exact ev_sub (L2 := [(2, (173 : Int)), (0, x1), (9, 0), (0, x3), (0, e.1), (0, e.2), (9, 0), (9, 0)]) (e_X11_roomed_116 σ x1 x3 e.1 e.2 h K) ⟨.inr rfl, .inr rfl, .inl rfl, .inr rfl, .inr rfl, .inr rfl, .inl rfl, .inl rfl, trivial⟩
set_option maxHeartbeats 4000000 in
set_option maxRecDepth 20000 in
theorem b_X11_roomed_24 (x1 : Int)  {r : Option V × Mem × Mem} : ∀ a x, f_X11_roomed_24B x1 a = some x → K_X11_roomed_24 x1 r x → K_X11_roomed_24 x1 r (.inl a) := by
  intro a x h K
  obtain ⟨x2, x3, σ⟩ := a
  have h : f_X11_roomed_24C x1 x2 x3 σ = some x := h
  unfold f_X11_roomed_24C at h
  show Ev M_X11_roomed 210 210 r 24 210 rho σ [(2, (173 : Int)), (0, x1), (0, x2), (0, x3), (9, 0), (9, 0), (9, 0), (9, 0)] []
  refine ev_iload_n dX11_roomed_24 rfl ?_
  refine ev_aload_n dX11_roomed_25 rfl (by decide) ?_
  refine ev_getf (j := 37) (t := 0) (x := (σ (173 : Int) 37)) dX11_roomed_26 cf_X11 wf_X11_340 sp173 (by decide) (by decide) rfl (by decide) rfl ?_
  refine ev_icmp_ge (tgt := 208) dX11_roomed_29 rfl h (fun cb h => ?_) (fun cb h => ?_)
  · obtain rfl := Option.some.inj h
    exact ev_sub (L2 := [(9, 0), (9, 0), (9, 0), (9, 0), (9, 0), (9, 0), (9, 0), (9, 0)]) K ⟨.inl rfl, .inl rfl, .inl rfl, .inl rfl, .inl rfl, .inl rfl, .inl rfl, .inl rfl, trivial⟩
  refine ev_iconst dX11_roomed_32 (by decide) ?_
  refine ev_istore dX11_roomed_33 rfl (by decide) ?_
  show Ev _ _ _ _ 35 _ _ _ [(2, (173 : Int)), (0, x1), (0, x2), (0, x3), (0, (-1 : Int)), (9, 0), (9, 0), (9, 0)] _
  refine ev_sipush dX11_roomed_35 (by decide) (by decide) ?_
  refine ev_istore dX11_roomed_38 rfl (by decide) ?_
  show Ev _ _ _ _ 40 _ _ _ [(2, (173 : Int)), (0, x1), (0, x2), (0, x3), (0, (-1 : Int)), (0, (999 : Int)), (9, 0), (9, 0)] _
  refine ev_iconst dX11_roomed_40 (by decide) ?_
  refine ev_istore dX11_roomed_41 rfl (by decide) ?_
  show Ev _ _ _ _ 43 _ _ _ [(2, (173 : Int)), (0, x1), (0, x2), (0, x3), (0, (-1 : Int)), (0, (999 : Int)), (0, (0 : Int)), (9, 0)] _
  exact ev_sub (L2 := [(2, (173 : Int)), (0, x1), (0, x2), (0, x3), (0, (-1 : Int)), (0, (999 : Int)), (0, (0 : Int)), (9, 0)]) (e_X11_roomed_43 σ x1 x2 x3 (-1 : Int) (999 : Int) (0 : Int) h K) ⟨.inr rfl, .inr rfl, .inr rfl, .inr rfl, .inr rfl, .inr rfl, .inr rfl, .inl rfl, trivial⟩
set_option maxHeartbeats 4000000 in
set_option maxRecDepth 20000 in
theorem e_X11_roomed_24 (σ : Mem) (x1 x2 x3 : Int)  {q : Mem} (h : f_X11_roomed_24 σ x1 x2 x3 = some q) : Ev M_X11_roomed 210 210 (none, rho, q) 24 210 rho σ [(2, (173 : Int)), (0, x1), (0, x2), (0, x3), (9, 0), (9, 0), (9, 0), (9, 0)] [] := by
  unfold f_X11_roomed_24 at h
  obtain ⟨e, hl, h⟩ := bind_of h
  refine loop_ev (K := K_X11_roomed_24 x1 (none, rho, q)) (b_X11_roomed_24 x1) FU (x2, x3, σ) e hl ?_
  show Ev M_X11_roomed 210 210 _ 208 210 rho e [(9, 0), (9, 0), (9, 0), (9, 0), (9, 0), (9, 0), (9, 0), (9, 0)] []
  replace h : some e = some q := h
  obtain rfl := Option.some.inj h
  exact ev_vret dX11_roomed_208 rfl rfl
set_option maxHeartbeats 4000000 in
set_option maxRecDepth 20000 in
theorem e_X11_roomed_21 (σ : Mem) (x1 x2 s2 s1 : Int)  {q : Mem} (h : f_X11_roomed_21 σ x1 x2 s2 s1 = some q) : Ev M_X11_roomed 210 210 (none, rho, q) 21 210 rho σ [(2, (173 : Int)), (0, x1), (0, x2), (9, 0), (9, 0), (9, 0), (9, 0), (9, 0)] [(0, s2), (0, s1), (2, (206 : Int))] := by
  unfold f_X11_roomed_21 at h
  refine ev_iastG dX11_roomed_21 sp206 (by decide) (by decide) h (fun σ1 h => ?_)
  refine ev_iconst dX11_roomed_22 (by decide) ?_
  refine ev_istore_n dX11_roomed_23 rfl (by decide) ?_
  show Ev _ _ _ _ 24 _ _ _ [(2, (173 : Int)), (0, x1), (0, x2), (0, (0 : Int)), (9, 0), (9, 0), (9, 0), (9, 0)] _
  exact ev_sub (L2 := [(2, (173 : Int)), (0, x1), (0, x2), (0, (0 : Int)), (9, 0), (9, 0), (9, 0), (9, 0)]) (e_X11_roomed_24 σ1 x1 x2 (0 : Int) h) ⟨.inr rfl, .inr rfl, .inr rfl, .inr rfl, .inl rfl, .inl rfl, .inl rfl, .inl rfl, trivial⟩
set_option maxHeartbeats 4000000 in
set_option maxRecDepth 20000 in
theorem c_X11_roomed {σ : Mem} {x1 : Int}  {q : Mem} (h : f_X11_roomed σ x1 = some q) : Ms yX11_roomed M_X11_roomed 210 210 [(2, (173 : Int)), (0, x1)] rho σ (none, rho, q) := by
  refine Ms.of 6 (by decide +kernel) rfl (fun z => absurd z (by decide)) (fun _ _ _ => trivial) rfl rfl ?_
  unfold f_X11_roomed at h
  show Ev M_X11_roomed 210 210 _ 0 210 rho σ [(2, (173 : Int)), (0, x1), (9, 0), (9, 0), (9, 0), (9, 0), (9, 0), (9, 0)] []
  refine ev_iconst dX11_roomed_0 (by decide) ?_
  refine ev_istore_n dX11_roomed_1 rfl (by decide) ?_
  show Ev _ _ _ _ 2 _ _ _ [(2, (173 : Int)), (0, x1), (0, (-1 : Int)), (9, 0), (9, 0), (9, 0), (9, 0), (9, 0)] _
  refine ev_aload_n dX11_roomed_2 rfl (by decide) ?_
  refine ev_getf (j := 41) (t := 2) (x := (206 : Int)) dX11_roomed_3 cf_X11 wf_X11_108 sp173 (by decide) (by decide) rfl (by decide) (rp173_41 _) ?_
  refine ev_iload_n dX11_roomed_6 rfl ?_
  refine ev_aload_n dX11_roomed_7 rfl (by decide) ?_
  refine ev_getf (j := 37) (t := 0) (x := (σ (173 : Int) 37)) dX11_roomed_8 cf_X11 wf_X11_340 sp173 (by decide) (by decide) rfl (by decide) rfl ?_
  refine ev_if_ne (tgt := 18) dX11_roomed_11 rfl h (fun cb h => ?_) (fun cb h => ?_)
  · refine ev_sipush dX11_roomed_18 (by decide) (by decide) ?_
    exact ev_sub (L2 := [(2, (173 : Int)), (0, x1), (0, (-1 : Int)), (9, 0), (9, 0), (9, 0), (9, 0), (9, 0)]) (e_X11_roomed_21 σ x1 (-1 : Int) (999 : Int) x1 h) ⟨.inr rfl, .inr rfl, .inr rfl, .inl rfl, .inl rfl, .inl rfl, .inl rfl, .inl rfl, trivial⟩
  refine ev_iconst dX11_roomed_14 (by decide) ?_
  refine ev_goto (tgt := 21) dX11_roomed_15 rfl ?_
  exact ev_sub (L2 := [(2, (173 : Int)), (0, x1), (0, (-1 : Int)), (9, 0), (9, 0), (9, 0), (9, 0), (9, 0)]) (e_X11_roomed_21 σ x1 (-1 : Int) (0 : Int) x1 h) ⟨.inr rfl, .inr rfl, .inr rfl, .inl rfl, .inl rfl, .inl rfl, .inl rfl, .inl rfl, trivial⟩
def K_X11_seats_19 (x1 x2 : Int) (r : Option V × Mem × Mem) : (Int × Mem) ⊕ ((Mem)) → Prop := Sum.elim (fun a => Ev M_X11_seats 210 210 r 19 210 rho a.2 [(2, (173 : Int)), (0, x1), (0, x2), (0, a.1)] []) (fun e => Ev M_X11_seats 210 210 r 51 210 rho e [(2, (173 : Int)), (0, x1), (0, x2), (9, 0)] [])
def K_X11_seats_110 (x1 x2 : Int) (r : Option V × Mem × Mem) : (Int × Mem) ⊕ ((Mem)) → Prop := Sum.elim (fun a => Ev M_X11_seats 210 210 r 110 210 rho a.2 [(2, (173 : Int)), (0, x1), (0, x2), (0, a.1)] []) (fun e => Ev M_X11_seats 210 210 r 136 210 rho e [(2, (173 : Int)), (0, x1), (0, x2), (9, 0)] [])
def K_X11_seats_59 (x1 : Int) (r : Option V × Mem × Mem) : (Int × Mem) ⊕ ((Mem)) → Prop := Sum.elim (fun a => Ev M_X11_seats 210 210 r 59 210 rho a.2 [(2, (173 : Int)), (0, x1), (0, a.1), (9, 0)] []) (fun e => Ev M_X11_seats 210 210 r 142 210 rho e [(9, 0), (9, 0), (9, 0), (9, 0)] [])
def K_X11_seats_6 (x1 : Int) (r : Option V × Mem × Mem) : (Int × Mem) ⊕ ((Mem)) → Prop := Sum.elim (fun a => Ev M_X11_seats 210 210 r 6 210 rho a.2 [(2, (173 : Int)), (0, x1), (0, a.1), (9, 0)] []) (fun e => Ev M_X11_seats 210 210 r 57 210 rho e [(2, (173 : Int)), (0, x1), (9, 0), (9, 0)] [])
set_option maxHeartbeats 4000000 in
set_option maxRecDepth 20000 in
theorem e_X11_seats_51 (σ : Mem) (x1 x2 : Int)  {q : ((Int × Mem) ⊕ ((Mem)))} (h : f_X11_seats_51 σ x1 x2 = some q) {r : Option V × Mem × Mem} (K : K_X11_seats_6 x1 r q) : Ev M_X11_seats 210 210 r 51 210 rho σ [(2, (173 : Int)), (0, x1), (0, x2), (9, 0)] [] := by
  unfold f_X11_seats_51 at h
  refine ev_iincG dX11_seats_51 rfl h rfl (fun v5 h => ?_)
  show Ev _ _ _ _ 54 _ _ _ [(2, (173 : Int)), (0, x1), (0, v5), (9, 0)] _
  refine ev_goto (tgt := 6) dX11_seats_54 rfl ?_
  obtain rfl := Option.some.inj h
  exact ev_sub (L2 := [(2, (173 : Int)), (0, x1), (0, v5), (9, 0)]) K ⟨.inr rfl, .inr rfl, .inr rfl, .inl rfl, trivial⟩
set_option maxHeartbeats 4000000 in
set_option maxRecDepth 20000 in
theorem b_X11_seats_19 (x1 x2 : Int)  {r : Option V × Mem × Mem} : ∀ a x, f_X11_seats_19B x1 x2 a = some x → K_X11_seats_19 x1 x2 r x → K_X11_seats_19 x1 x2 r (.inl a) := by
  intro a x h K
  obtain ⟨x3, σ⟩ := a
  have h : f_X11_seats_19C x1 x2 x3 σ = some x := h
  unfold f_X11_seats_19C at h
  show Ev M_X11_seats 210 210 r 19 210 rho σ [(2, (173 : Int)), (0, x1), (0, x2), (0, x3)] []
  refine ev_iload_n dX11_seats_19 rfl ?_
  refine ev_bipush dX11_seats_20 (by decide) (by decide) ?_
  refine ev_icmp_ge (tgt := 51) dX11_seats_22 rfl h (fun cb h => ?_) (fun cb h => ?_)
  · obtain rfl := Option.some.inj h
    exact ev_sub (L2 := [(2, (173 : Int)), (0, x1), (0, x2), (9, 0)]) K ⟨.inr rfl, .inr rfl, .inr rfl, .inl rfl, trivial⟩
  refine ev_aload_n dX11_seats_25 rfl (by decide) ?_
  refine ev_getf (j := 43) (t := 2) (x := (208 : Int)) dX11_seats_26 cf_X11 wf_X11_114 sp173 (by decide) (by decide) rfl (by decide) (rp173_43 _) ?_
  refine ev_bipush dX11_seats_29 (by decide) (by decide) ?_
  refine ev_iload_n dX11_seats_31 rfl ?_
  refine ev_imul dX11_seats_32 ?_
  refine ev_iload_n dX11_seats_33 rfl ?_
  refine ev_iadd dX11_seats_34 ?_
  refine ev_aload_n dX11_seats_35 rfl (by decide) ?_
  refine ev_getf (j := 0) (t := 2) (x := (174 : Int)) dX11_seats_36 cf_X11 wf_X11_7 sp173 (by decide) (by decide) rfl (by decide) (rp173_0 _) ?_
  refine ev_bipush dX11_seats_39 (by decide) (by decide) ?_
  refine ev_iload_n dX11_seats_41 rfl ?_
  show Ev _ _ _ _ 42 _ _ _ _ _
  refine ev_iadd dX11_seats_42 ?_
  refine ev_iald dX11_seats_43 sp174 (by decide) (by decide) h (fun h => ?_)
  refine ev_iastG dX11_seats_44 sp208 (by decide) (by decide) h (fun σ3 h => ?_)
  refine ev_iincG dX11_seats_45 rfl h rfl (fun v4 h => ?_)
  show Ev _ _ _ _ 48 _ _ _ [(2, (173 : Int)), (0, x1), (0, x2), (0, v4)] _
  refine ev_goto (tgt := 19) dX11_seats_48 rfl ?_
  obtain rfl := Option.some.inj h
  exact ev_sub (L2 := [(2, (173 : Int)), (0, x1), (0, x2), (0, v4)]) K ⟨.inr rfl, .inr rfl, .inr rfl, .inr rfl, trivial⟩
set_option maxHeartbeats 4000000 in
set_option maxRecDepth 20000 in
theorem e_X11_seats_19 (σ : Mem) (x1 x2 x3 : Int)  {q : ((Int × Mem) ⊕ ((Mem)))} (h : f_X11_seats_19 σ x1 x2 x3 = some q) {r : Option V × Mem × Mem} (K : K_X11_seats_6 x1 r q) : Ev M_X11_seats 210 210 r 19 210 rho σ [(2, (173 : Int)), (0, x1), (0, x2), (0, x3)] [] := by
  unfold f_X11_seats_19 at h
  obtain ⟨e, hl, h⟩ := bind_of h
  refine loop_ev (K := K_X11_seats_19 x1 x2 r) (b_X11_seats_19 x1 x2) FU (x3, σ) e hl ?_
  show Ev M_X11_seats 210 210 r 51 210 rho e [(2, (173 : Int)), (0, x1), (0, x2), (9, 0)] []
  replace h : f_X11_seats_51 e x1 x2 = some q := h
  exact ev_sub (L2 := [(2, (173 : Int)), (0, x1), (0, x2), (9, 0)]) (e_X11_seats_51 e x1 x2 h K) ⟨.inr rfl, .inr rfl, .inr rfl, .inl rfl, trivial⟩
set_option maxHeartbeats 4000000 in
set_option maxRecDepth 20000 in
theorem e_X11_seats_136 (σ : Mem) (x1 x2 : Int)  {q : ((Int × Mem) ⊕ ((Mem)))} (h : f_X11_seats_136 σ x1 x2 = some q) {r : Option V × Mem × Mem} (K : K_X11_seats_59 x1 r q) : Ev M_X11_seats 210 210 r 136 210 rho σ [(2, (173 : Int)), (0, x1), (0, x2), (9, 0)] [] := by
  unfold f_X11_seats_136 at h
  refine ev_iincG dX11_seats_136 rfl h rfl (fun v16 h => ?_)
  show Ev _ _ _ _ 139 _ _ _ [(2, (173 : Int)), (0, x1), (0, v16), (9, 0)] _
  refine ev_goto (tgt := 59) dX11_seats_139 rfl ?_
  obtain rfl := Option.some.inj h
  exact ev_sub (L2 := [(2, (173 : Int)), (0, x1), (0, v16), (9, 0)]) K ⟨.inr rfl, .inr rfl, .inr rfl, .inl rfl, trivial⟩
set_option maxHeartbeats 4000000 in
set_option maxRecDepth 20000 in
theorem b_X11_seats_110 (x1 x2 : Int)  {r : Option V × Mem × Mem} : ∀ a x, f_X11_seats_110B x1 x2 a = some x → K_X11_seats_110 x1 x2 r x → K_X11_seats_110 x1 x2 r (.inl a) := by
  intro a x h K
  obtain ⟨x3, σ⟩ := a
  have h : f_X11_seats_110C x1 x2 x3 σ = some x := h
  unfold f_X11_seats_110C at h
  show Ev M_X11_seats 210 210 r 110 210 rho σ [(2, (173 : Int)), (0, x1), (0, x2), (0, x3)] []
  refine ev_iload_n dX11_seats_110 rfl ?_
  refine ev_aload_n dX11_seats_111 rfl (by decide) ?_
  refine ev_getf (j := 37) (t := 0) (x := (σ (173 : Int) 37)) dX11_seats_112 cf_X11 wf_X11_340 sp173 (by decide) (by decide) rfl (by decide) rfl ?_
  refine ev_icmp_ge (tgt := 136) dX11_seats_115 rfl h (fun cb h => ?_) (fun cb h => ?_)
  · obtain rfl := Option.some.inj h
    exact ev_sub (L2 := [(2, (173 : Int)), (0, x1), (0, x2), (9, 0)]) K ⟨.inr rfl, .inr rfl, .inr rfl, .inl rfl, trivial⟩
  refine ev_aload_n dX11_seats_118 rfl (by decide) ?_
  refine ev_getf (j := 40) (t := 2) (x := (205 : Int)) dX11_seats_119 cf_X11 wf_X11_105 sp173 (by decide) (by decide) rfl (by decide) (rp173_40 _) ?_
  refine ev_bipush dX11_seats_122 (by decide) (by decide) ?_
  refine ev_iload_n dX11_seats_124 rfl ?_
  refine ev_imul dX11_seats_125 ?_
  refine ev_iload_n dX11_seats_126 rfl ?_
  refine ev_iadd dX11_seats_127 ?_
  refine ev_iconst dX11_seats_128 (by decide) ?_
  refine ev_iastG dX11_seats_129 sp205 (by decide) (by decide) h (fun σ14 h => ?_)
  refine ev_iincG dX11_seats_130 rfl h rfl (fun v15 h => ?_)
  show Ev _ _ _ _ 133 _ _ _ [(2, (173 : Int)), (0, x1), (0, x2), (0, v15)] _
  refine ev_goto (tgt := 110) dX11_seats_133 rfl ?_
  obtain rfl := Option.some.inj h
  exact ev_sub (L2 := [(2, (173 : Int)), (0, x1), (0, x2), (0, v15)]) K ⟨.inr rfl, .inr rfl, .inr rfl, .inr rfl, trivial⟩
set_option maxHeartbeats 4000000 in
set_option maxRecDepth 20000 in
theorem e_X11_seats_110 (σ : Mem) (x1 x2 x3 : Int)  {q : ((Int × Mem) ⊕ ((Mem)))} (h : f_X11_seats_110 σ x1 x2 x3 = some q) {r : Option V × Mem × Mem} (K : K_X11_seats_59 x1 r q) : Ev M_X11_seats 210 210 r 110 210 rho σ [(2, (173 : Int)), (0, x1), (0, x2), (0, x3)] [] := by
  unfold f_X11_seats_110 at h
  obtain ⟨e, hl, h⟩ := bind_of h
  refine loop_ev (K := K_X11_seats_110 x1 x2 r) (b_X11_seats_110 x1 x2) FU (x3, σ) e hl ?_
  show Ev M_X11_seats 210 210 r 136 210 rho e [(2, (173 : Int)), (0, x1), (0, x2), (9, 0)] []
  replace h : f_X11_seats_136 e x1 x2 = some q := h
  exact ev_sub (L2 := [(2, (173 : Int)), (0, x1), (0, x2), (9, 0)]) (e_X11_seats_136 e x1 x2 h K) ⟨.inr rfl, .inr rfl, .inr rfl, .inl rfl, trivial⟩
set_option maxHeartbeats 4000000 in
set_option maxRecDepth 20000 in
theorem b_X11_seats_59 (x1 : Int)  {r : Option V × Mem × Mem} : ∀ a x, f_X11_seats_59B x1 a = some x → K_X11_seats_59 x1 r x → K_X11_seats_59 x1 r (.inl a) := by
  intro a x h K
  obtain ⟨x2, σ⟩ := a
  have h : f_X11_seats_59C x1 x2 σ = some x := h
  unfold f_X11_seats_59C at h
  show Ev M_X11_seats 210 210 r 59 210 rho σ [(2, (173 : Int)), (0, x1), (0, x2), (9, 0)] []
  refine ev_iload_n dX11_seats_59 rfl ?_
  refine ev_aload_n dX11_seats_60 rfl (by decide) ?_
  refine ev_getf (j := 0) (t := 2) (x := (174 : Int)) dX11_seats_61 cf_X11 wf_X11_7 sp173 (by decide) (by decide) rfl (by decide) (rp173_0 _) ?_
  refine ev_bipush dX11_seats_64 (by decide) (by decide) ?_
  refine ev_iald dX11_seats_66 sp174 (by decide) (by decide) h (fun h => ?_)
  refine ev_icmp_ge (tgt := 142) dX11_seats_67 rfl h (fun cb h => ?_) (fun cb h => ?_)
  · obtain rfl := Option.some.inj h
    exact ev_sub (L2 := [(9, 0), (9, 0), (9, 0), (9, 0)]) K ⟨.inl rfl, .inl rfl, .inl rfl, .inl rfl, trivial⟩
  refine ev_aload_n dX11_seats_70 rfl (by decide) ?_
  refine ev_iload_n dX11_seats_71 rfl ?_
  refine ev_iload_n dX11_seats_72 rfl ?_
  obtain ⟨σ6, hc7, h⟩ := bind_of h
  refine ev_invV_n (k := (173 : Int)) (av := [(0, x2), (0, x1)]) (st := []) (τ := σ6) dX11_seats_73 ml_X11_349 mv_X11_piecesOf (T := TX11) (ci := 10) rfl sp173 (by decide) (by decide) rfl ⟨Nat.le_of_ble_eq_true rfl, Nat.le_of_ble_eq_true rfl⟩ (Nat.le_of_ble_eq_true rfl) (c_X11_piecesOf hc7) ?_
  refine ev_aload_n dX11_seats_76 rfl (by decide) ?_
  refine ev_getf (j := 42) (t := 2) (x := (207 : Int)) dX11_seats_77 cf_X11 wf_X11_111 sp173 (by decide) (by decide) rfl (by decide) (rp173_42 _) ?_
  refine ev_iload_n dX11_seats_80 rfl ?_
  refine ev_aload_n dX11_seats_81 rfl (by decide) ?_
  refine ev_getf (j := 37) (t := 0) (x := (σ6 (173 : Int) 37)) dX11_seats_82 cf_X11 wf_X11_340 sp173 (by decide) (by decide) rfl (by decide) rfl ?_
  refine ev_iastG dX11_seats_85 sp207 (by decide) (by decide) h (fun σ8 h => ?_)
  refine ev_aload_n dX11_seats_86 rfl (by decide) ?_
  show Ev _ _ _ _ 87 _ _ _ _ _
  obtain ⟨v9, hc10, h⟩ := bind_of h
  refine ev_invV_v (k := (173 : Int)) (av := []) (st := []) (v := (0, v9.1)) (τ := v9.2) dX11_seats_87 ml_X11_352 mv_X11_isRoomed (T := TX11) (ci := 10) rfl sp173 (by decide) (by decide) rfl ⟨Nat.le_of_ble_eq_true rfl, Nat.le_of_ble_eq_true rfl⟩ (Nat.le_of_ble_eq_true rfl) (c_X11_isRoomed hc10) ?_
  refine ev_if_eq (tgt := 101) dX11_seats_90 rfl h (fun cb h => ?_) (fun cb h => ?_)
  · refine ev_aload_n dX11_seats_101 rfl (by decide) ?_
    refine ev_getf (j := 41) (t := 2) (x := (206 : Int)) dX11_seats_102 cf_X11 wf_X11_108 sp173 (by decide) (by decide) rfl (by decide) (rp173_41 _) ?_
    refine ev_iload_n dX11_seats_105 rfl ?_
    refine ev_iconst dX11_seats_106 (by decide) ?_
    refine ev_iastG dX11_seats_107 sp206 (by decide) (by decide) h (fun σ11 h => ?_)
    refine ev_iconst dX11_seats_108 (by decide) ?_
    refine ev_istore_n dX11_seats_109 rfl (by decide) ?_
    show Ev _ _ _ _ 110 _ _ _ [(2, (173 : Int)), (0, x1), (0, x2), (0, (0 : Int))] _
    exact ev_sub (L2 := [(2, (173 : Int)), (0, x1), (0, x2), (0, (0 : Int))]) (e_X11_seats_110 σ11 x1 x2 (0 : Int) h K) ⟨.inr rfl, .inr rfl, .inr rfl, .inr rfl, trivial⟩
  refine ev_aload_n dX11_seats_93 rfl (by decide) ?_
  refine ev_iload_n dX11_seats_94 rfl ?_
  obtain ⟨σ12, hc13, h⟩ := bind_of h
  refine ev_invV_n (k := (173 : Int)) (av := [(0, x2)]) (st := []) (τ := σ12) dX11_seats_95 ml_X11_356 mv_X11_roomed (T := TX11) (ci := 10) rfl sp173 (by decide) (by decide) rfl ⟨Nat.le_of_ble_eq_true rfl, Nat.le_of_ble_eq_true rfl⟩ (Nat.le_of_ble_eq_true rfl) (c_X11_roomed hc13) ?_
  refine ev_goto (tgt := 136) dX11_seats_98 rfl ?_
  exact ev_sub (L2 := [(2, (173 : Int)), (0, x1), (0, x2), (9, 0)]) (e_X11_seats_136 σ12 x1 x2 h K) ⟨.inr rfl, .inr rfl, .inr rfl, .inl rfl, trivial⟩
set_option maxHeartbeats 4000000 in
set_option maxRecDepth 20000 in
theorem e_X11_seats_59 (σ : Mem) (x1 x2 : Int)  {q : Mem} (h : f_X11_seats_59 σ x1 x2 = some q) : Ev M_X11_seats 210 210 (none, rho, q) 59 210 rho σ [(2, (173 : Int)), (0, x1), (0, x2), (9, 0)] [] := by
  unfold f_X11_seats_59 at h
  obtain ⟨e, hl, h⟩ := bind_of h
  refine loop_ev (K := K_X11_seats_59 x1 (none, rho, q)) (b_X11_seats_59 x1) FU (x2, σ) e hl ?_
  show Ev M_X11_seats 210 210 _ 142 210 rho e [(9, 0), (9, 0), (9, 0), (9, 0)] []
  replace h : some e = some q := h
  obtain rfl := Option.some.inj h
  exact ev_vret dX11_seats_142 rfl rfl
set_option maxHeartbeats 4000000 in
set_option maxRecDepth 20000 in
theorem e_X11_seats_57 (σ : Mem) (x1 : Int)  {q : Mem} (h : f_X11_seats_57 σ x1 = some q) : Ev M_X11_seats 210 210 (none, rho, q) 57 210 rho σ [(2, (173 : Int)), (0, x1), (9, 0), (9, 0)] [] := by
  unfold f_X11_seats_57 at h
  refine ev_iconst dX11_seats_57 (by decide) ?_
  refine ev_istore_n dX11_seats_58 rfl (by decide) ?_
  show Ev _ _ _ _ 59 _ _ _ [(2, (173 : Int)), (0, x1), (0, (0 : Int)), (9, 0)] _
  exact ev_sub (L2 := [(2, (173 : Int)), (0, x1), (0, (0 : Int)), (9, 0)]) (e_X11_seats_59 σ x1 (0 : Int) h) ⟨.inr rfl, .inr rfl, .inr rfl, .inl rfl, trivial⟩
set_option maxHeartbeats 4000000 in
set_option maxRecDepth 20000 in
theorem b_X11_seats_6 (x1 : Int)  {r : Option V × Mem × Mem} : ∀ a x, f_X11_seats_6B x1 a = some x → K_X11_seats_6 x1 r x → K_X11_seats_6 x1 r (.inl a) := by
  intro a x h K
  obtain ⟨x2, σ⟩ := a
  have h : f_X11_seats_6C x1 x2 σ = some x := h
  unfold f_X11_seats_6C at h
  show Ev M_X11_seats 210 210 r 6 210 rho σ [(2, (173 : Int)), (0, x1), (0, x2), (9, 0)] []
  refine ev_iload_n dX11_seats_6 rfl ?_
  refine ev_aload_n dX11_seats_7 rfl (by decide) ?_
  refine ev_getf (j := 0) (t := 2) (x := (174 : Int)) dX11_seats_8 cf_X11 wf_X11_7 sp173 (by decide) (by decide) rfl (by decide) (rp173_0 _) ?_
  refine ev_bipush dX11_seats_11 (by decide) (by decide) ?_
  refine ev_iald dX11_seats_13 sp174 (by decide) (by decide) h (fun h => ?_)
  refine ev_icmp_ge (tgt := 57) dX11_seats_14 rfl h (fun cb h => ?_) (fun cb h => ?_)
  · obtain rfl := Option.some.inj h
    exact ev_sub (L2 := [(2, (173 : Int)), (0, x1), (9, 0), (9, 0)]) K ⟨.inr rfl, .inr rfl, .inl rfl, .inl rfl, trivial⟩
  refine ev_iconst dX11_seats_17 (by decide) ?_
  refine ev_istore_n dX11_seats_18 rfl (by decide) ?_
  show Ev _ _ _ _ 19 _ _ _ [(2, (173 : Int)), (0, x1), (0, x2), (0, (0 : Int))] _
  exact ev_sub (L2 := [(2, (173 : Int)), (0, x1), (0, x2), (0, (0 : Int))]) (e_X11_seats_19 σ x1 x2 (0 : Int) h K) ⟨.inr rfl, .inr rfl, .inr rfl, .inr rfl, trivial⟩
set_option maxHeartbeats 4000000 in
set_option maxRecDepth 20000 in
theorem e_X11_seats_6 (σ : Mem) (x1 x2 : Int)  {q : Mem} (h : f_X11_seats_6 σ x1 x2 = some q) : Ev M_X11_seats 210 210 (none, rho, q) 6 210 rho σ [(2, (173 : Int)), (0, x1), (0, x2), (9, 0)] [] := by
  unfold f_X11_seats_6 at h
  obtain ⟨e, hl, h⟩ := bind_of h
  refine loop_ev (K := K_X11_seats_6 x1 (none, rho, q)) (b_X11_seats_6 x1) FU (x2, σ) e hl ?_
  show Ev M_X11_seats 210 210 _ 57 210 rho e [(2, (173 : Int)), (0, x1), (9, 0), (9, 0)] []
  replace h : f_X11_seats_57 e x1 = some q := h
  exact ev_sub (L2 := [(2, (173 : Int)), (0, x1), (9, 0), (9, 0)]) (e_X11_seats_57 e x1 h) ⟨.inr rfl, .inr rfl, .inl rfl, .inl rfl, trivial⟩
set_option maxHeartbeats 4000000 in
set_option maxRecDepth 20000 in
theorem c_X11_seats {σ : Mem} {x1 : Int}  {q : Mem} (h : f_X11_seats σ x1 = some q) : Ms yX11_seats M_X11_seats 210 210 [(2, (173 : Int)), (0, x1)] rho σ (none, rho, q) := by
  refine Ms.of 2 (by decide +kernel) rfl (fun z => absurd z (by decide)) (fun _ _ _ => trivial) rfl rfl ?_
  unfold f_X11_seats at h
  show Ev M_X11_seats 210 210 _ 0 210 rho σ [(2, (173 : Int)), (0, x1), (9, 0), (9, 0)] []
  refine ev_aload_n dX11_seats_0 rfl (by decide) ?_
  obtain ⟨σ1, hc2, h⟩ := bind_of h
  refine ev_invV_n (k := (173 : Int)) (av := []) (st := []) (τ := σ1) dX11_seats_1 ml_X11_316 mv_X11_all (T := TX11) (ci := 10) rfl sp173 (by decide) (by decide) rfl ⟨Nat.le_of_ble_eq_true rfl, Nat.le_of_ble_eq_true rfl⟩ (Nat.le_of_ble_eq_true rfl) (c_X11_all hc2) ?_
  refine ev_iconst dX11_seats_4 (by decide) ?_
  refine ev_istore_n dX11_seats_5 rfl (by decide) ?_
  show Ev _ _ _ _ 6 _ _ _ [(2, (173 : Int)), (0, x1), (0, (0 : Int)), (9, 0)] _
  exact ev_sub (L2 := [(2, (173 : Int)), (0, x1), (0, (0 : Int)), (9, 0)]) (e_X11_seats_6 σ1 x1 (0 : Int) h) ⟨.inr rfl, .inr rfl, .inr rfl, .inl rfl, trivial⟩
set_option maxHeartbeats 4000000 in
set_option maxRecDepth 20000 in
theorem e_X11_pieces_25 (σ : Mem)  {q : (Int × Mem)} (h : f_X11_pieces_25 σ  = some q) : Ev M_X11_pieces 210 210 (some (0, q.1), rho, q.2) 25 210 rho σ [(2, (173 : Int)), (9, 0), (9, 0), (9, 0)] [] := by
  unfold f_X11_pieces_25 at h
  refine ev_aload_n dX11_pieces_25 rfl (by decide) ?_
  refine ev_bipush dX11_pieces_26 (by decide) (by decide) ?_
  obtain ⟨v9, hc10, h⟩ := bind_of h
  refine ev_invV_v (k := (173 : Int)) (av := [(0, (-52 : Int))]) (st := []) (v := (0, v9.1)) (τ := v9.2) dX11_pieces_28 ml_X11_151 mv_X11_no (T := TX11) (ci := 10) rfl sp173 (by decide) (by decide) rfl ⟨Nat.le_of_ble_eq_true rfl, Nat.le_of_ble_eq_true rfl⟩ (Nat.le_of_ble_eq_true rfl) (c_X11_no hc10) ?_
  obtain rfl := Option.some.inj h
  dsimp only
  exact ev_iret dX11_pieces_31 rfl rfl
set_option maxHeartbeats 4000000 in
set_option maxRecDepth 20000 in
theorem c_X11_pieces {σ : Mem} {x1 x2 x3 : Int}  {q : (Int × Mem)} (h : f_X11_pieces σ x1 x2 x3 = some q) : Ms yX11_pieces M_X11_pieces 210 210 [(2, (173 : Int)), (0, x1), (0, x2), (0, x3)] rho σ (some (0, q.1), rho, q.2) := by
  refine Ms.of 0 (by decide +kernel) rfl (fun z => absurd z (by decide)) (fun _ _ _ => trivial) rfl rfl ?_
  unfold f_X11_pieces at h
  show Ev M_X11_pieces 210 210 _ 0 210 rho σ [(2, (173 : Int)), (0, x1), (0, x2), (0, x3)] []
  refine ev_aload_n dX11_pieces_0 rfl (by decide) ?_
  refine ev_iload_n dX11_pieces_1 rfl ?_
  obtain ⟨v1, hc2, h⟩ := bind_of h
  refine ev_invV_v (k := (173 : Int)) (av := [(0, x1)]) (st := []) (v := (0, v1)) (τ := σ) dX11_pieces_2 ml_X11_157 mv_X11_isCand (T := TX11) (ci := 10) rfl sp173 (by decide) (by decide) rfl ⟨Nat.le_of_ble_eq_true rfl, Nat.le_of_ble_eq_true rfl⟩ (Nat.le_of_ble_eq_true rfl) (c_X11_isCand hc2) ?_
  refine ev_if_eq (tgt := 25) dX11_pieces_5 rfl h (fun cb h => ?_) (fun cb h => ?_)
  · exact ev_sub (L2 := [(2, (173 : Int)), (9, 0), (9, 0), (9, 0)]) (e_X11_pieces_25 σ h) ⟨.inr rfl, .inl rfl, .inl rfl, .inl rfl, trivial⟩
  refine ev_iload_n dX11_pieces_8 rfl ?_
  obtain ⟨v3, hc4, h⟩ := bind_of h
  refine ev_invS_v (av := [(0, x2)]) (st := []) (v := (0, v3)) (τ := σ) dX11_pieces_9 ml_X11_168 mt_X11_isDay rfl ⟨Nat.le_of_ble_eq_true rfl, Nat.le_of_ble_eq_true rfl⟩ (Nat.le_of_ble_eq_true rfl) (c_X11_isDay hc4) ?_
  refine ev_if_eq (tgt := 25) dX11_pieces_12 rfl h (fun cb h => ?_) (fun cb h => ?_)
  · exact ev_sub (L2 := [(2, (173 : Int)), (9, 0), (9, 0), (9, 0)]) (e_X11_pieces_25 σ h) ⟨.inr rfl, .inl rfl, .inl rfl, .inl rfl, trivial⟩
  refine ev_iload_n dX11_pieces_15 rfl ?_
  refine ev_i2lk dX11_pieces_16 ?_
  refine ev_lconst (x := (0 : Int)) dX11_pieces_17 (by decide) (by decide) ?_
  refine ev_lconst (x := (1 : Int)) dX11_pieces_18 (by decide) (by decide) ?_
  obtain ⟨v5, hc6, h⟩ := bind_of h
  refine ev_invS_v (av := [(1, x3), (1, (0 : Int)), (1, (1 : Int))]) (st := []) (v := (0, v5)) (τ := σ) dX11_pieces_19 ml_X11_120 mt_X11_isIn rfl ⟨Nat.le_of_ble_eq_true rfl, Nat.le_of_ble_eq_true rfl⟩ (Nat.le_of_ble_eq_true rfl) (c_X11_isIn hc6) ?_
  refine ev_if_ne (tgt := 32) dX11_pieces_22 rfl h (fun cb h => ?_) (fun cb h => ?_)
  · refine ev_aload_n dX11_pieces_32 rfl (by decide) ?_
    refine ev_iload_n dX11_pieces_33 rfl ?_
    obtain ⟨σ7, hc8, h⟩ := bind_of h
    refine ev_invV_n (k := (173 : Int)) (av := [(0, x2)]) (st := []) (τ := σ7) dX11_pieces_34 ml_X11_359 mv_X11_seats (T := TX11) (ci := 10) rfl sp173 (by decide) (by decide) rfl ⟨Nat.le_of_ble_eq_true rfl, Nat.le_of_ble_eq_true rfl⟩ (Nat.le_of_ble_eq_true rfl) (c_X11_seats hc8) ?_
    refine ev_iload_n dX11_pieces_37 rfl ?_
    refine ev_if_ne (tgt := 50) dX11_pieces_38 rfl h (fun cb h => ?_) (fun cb h => ?_)
    · refine ev_aload_n dX11_pieces_50 rfl (by decide) ?_
      refine ev_getf (j := 41) (t := 2) (x := (206 : Int)) dX11_pieces_51 cf_X11 wf_X11_108 sp173 (by decide) (by decide) rfl (by decide) (rp173_41 _) ?_
      refine ev_iload_n dX11_pieces_54 rfl ?_
      refine ev_iald dX11_pieces_55 sp206 (by decide) (by decide) h (fun h => ?_)
      obtain rfl := Option.some.inj h
      dsimp only
      exact ev_iret dX11_pieces_56 rfl rfl
    refine ev_aload_n dX11_pieces_41 rfl (by decide) ?_
    refine ev_getf (j := 42) (t := 2) (x := (207 : Int)) dX11_pieces_42 cf_X11 wf_X11_111 sp173 (by decide) (by decide) rfl (by decide) (rp173_42 _) ?_
    refine ev_iload_n dX11_pieces_45 rfl ?_
    refine ev_iald dX11_pieces_46 sp207 (by decide) (by decide) h (fun h => ?_)
    refine ev_goto (tgt := 56) dX11_pieces_47 rfl ?_
    obtain rfl := Option.some.inj h
    dsimp only
    exact ev_iret dX11_pieces_56 rfl rfl
  exact ev_sub (L2 := [(2, (173 : Int)), (9, 0), (9, 0), (9, 0)]) (e_X11_pieces_25 σ h) ⟨.inr rfl, .inl rfl, .inl rfl, .inl rfl, trivial⟩
set_option maxHeartbeats 4000000 in
set_option maxRecDepth 20000 in
theorem e_X11_roomOf_15 (σ : Mem)  {q : (Int × Mem)} (h : f_X11_roomOf_15 σ  = some q) : Ev M_X11_roomOf 210 210 (some (0, q.1), rho, q.2) 15 210 rho σ [(2, (173 : Int)), (9, 0), (9, 0), (9, 0)] [] := by
  unfold f_X11_roomOf_15 at h
  refine ev_aload_n dX11_roomOf_15 rfl (by decide) ?_
  refine ev_bipush dX11_roomOf_16 (by decide) (by decide) ?_
  obtain ⟨v11, hc12, h⟩ := bind_of h
  refine ev_invV_v (k := (173 : Int)) (av := [(0, (-52 : Int))]) (st := []) (v := (0, v11.1)) (τ := v11.2) dX11_roomOf_18 ml_X11_151 mv_X11_no (T := TX11) (ci := 10) rfl sp173 (by decide) (by decide) rfl ⟨Nat.le_of_ble_eq_true rfl, Nat.le_of_ble_eq_true rfl⟩ (Nat.le_of_ble_eq_true rfl) (c_X11_no hc12) ?_
  obtain rfl := Option.some.inj h
  dsimp only
  exact ev_iret dX11_roomOf_21 rfl rfl
set_option maxHeartbeats 4000000 in
set_option maxRecDepth 20000 in
theorem c_X11_roomOf {σ : Mem} {x1 x2 x3 : Int}  {q : (Int × Mem)} (h : f_X11_roomOf σ x1 x2 x3 = some q) : Ms yX11_roomOf M_X11_roomOf 210 210 [(2, (173 : Int)), (0, x1), (0, x2), (0, x3)] rho σ (some (0, q.1), rho, q.2) := by
  refine Ms.of 0 (by decide +kernel) rfl (fun z => absurd z (by decide)) (fun _ _ _ => trivial) rfl rfl ?_
  unfold f_X11_roomOf at h
  show Ev M_X11_roomOf 210 210 _ 0 210 rho σ [(2, (173 : Int)), (0, x1), (0, x2), (0, x3)] []
  refine ev_aload_n dX11_roomOf_0 rfl (by decide) ?_
  refine ev_iload_n dX11_roomOf_1 rfl ?_
  obtain ⟨v1, hc2, h⟩ := bind_of h
  refine ev_invV_v (k := (173 : Int)) (av := [(0, x1)]) (st := []) (v := (0, v1)) (τ := σ) dX11_roomOf_2 ml_X11_157 mv_X11_isCand (T := TX11) (ci := 10) rfl sp173 (by decide) (by decide) rfl ⟨Nat.le_of_ble_eq_true rfl, Nat.le_of_ble_eq_true rfl⟩ (Nat.le_of_ble_eq_true rfl) (c_X11_isCand hc2) ?_
  refine ev_if_eq (tgt := 15) dX11_roomOf_5 rfl h (fun cb h => ?_) (fun cb h => ?_)
  · exact ev_sub (L2 := [(2, (173 : Int)), (9, 0), (9, 0), (9, 0)]) (e_X11_roomOf_15 σ h) ⟨.inr rfl, .inl rfl, .inl rfl, .inl rfl, trivial⟩
  refine ev_iload_n dX11_roomOf_8 rfl ?_
  obtain ⟨v3, hc4, h⟩ := bind_of h
  refine ev_invS_v (av := [(0, x2)]) (st := []) (v := (0, v3)) (τ := σ) dX11_roomOf_9 ml_X11_168 mt_X11_isDay rfl ⟨Nat.le_of_ble_eq_true rfl, Nat.le_of_ble_eq_true rfl⟩ (Nat.le_of_ble_eq_true rfl) (c_X11_isDay hc4) ?_
  refine ev_if_ne (tgt := 22) dX11_roomOf_12 rfl h (fun cb h => ?_) (fun cb h => ?_)
  · refine ev_aload_n dX11_roomOf_22 rfl (by decide) ?_
    refine ev_iload_n dX11_roomOf_23 rfl ?_
    obtain ⟨σ5, hc6, h⟩ := bind_of h
    refine ev_invV_n (k := (173 : Int)) (av := [(0, x2)]) (st := []) (τ := σ5) dX11_roomOf_24 ml_X11_359 mv_X11_seats (T := TX11) (ci := 10) rfl sp173 (by decide) (by decide) rfl ⟨Nat.le_of_ble_eq_true rfl, Nat.le_of_ble_eq_true rfl⟩ (Nat.le_of_ble_eq_true rfl) (c_X11_seats hc6) ?_
    refine ev_iload_n dX11_roomOf_27 rfl ?_
    refine ev_i2lk dX11_roomOf_28 ?_
    refine ev_lconst (x := (0 : Int)) dX11_roomOf_29 (by decide) (by decide) ?_
    refine ev_aload_n dX11_roomOf_30 rfl (by decide) ?_
    refine ev_getf (j := 42) (t := 2) (x := (207 : Int)) dX11_roomOf_31 cf_X11 wf_X11_111 sp173 (by decide) (by decide) rfl (by decide) (rp173_42 _) ?_
    refine ev_iload_n dX11_roomOf_34 rfl ?_
    refine ev_iald dX11_roomOf_35 sp207 (by decide) (by decide) h (fun h => ?_)
    refine ev_iconst dX11_roomOf_36 (by decide) ?_
    show Ev _ _ _ _ 37 _ _ _ _ _
    refine ev_isub dX11_roomOf_37 ?_
    refine ev_i2lk dX11_roomOf_38 ?_
    obtain ⟨v7, hc8, h⟩ := bind_of h
    refine ev_invS_v (av := [(1, x3), (1, (0 : Int)), (1, (jsub (σ5 (207 : Int) x1) (1 : Int)))]) (st := []) (v := (0, v7)) (τ := σ5) dX11_roomOf_39 ml_X11_120 mt_X11_isIn rfl ⟨Nat.le_of_ble_eq_true rfl, Nat.le_of_ble_eq_true rfl⟩ (Nat.le_of_ble_eq_true rfl) (c_X11_isIn hc8) ?_
    refine ev_if_eq (tgt := 59) dX11_roomOf_42 rfl h (fun cb h => ?_) (fun cb h => ?_)
    · refine ev_aload_n dX11_roomOf_59 rfl (by decide) ?_
      refine ev_bipush dX11_roomOf_60 (by decide) (by decide) ?_
      obtain ⟨v9, hc10, h⟩ := bind_of h
      refine ev_invV_v (k := (173 : Int)) (av := [(0, (-52 : Int))]) (st := []) (v := (0, v9.1)) (τ := v9.2) dX11_roomOf_62 ml_X11_151 mv_X11_no (T := TX11) (ci := 10) rfl sp173 (by decide) (by decide) rfl ⟨Nat.le_of_ble_eq_true rfl, Nat.le_of_ble_eq_true rfl⟩ (Nat.le_of_ble_eq_true rfl) (c_X11_no hc10) ?_
      obtain rfl := Option.some.inj h
      dsimp only
      exact ev_iret dX11_roomOf_65 rfl rfl
    refine ev_aload_n dX11_roomOf_45 rfl (by decide) ?_
    refine ev_getf (j := 40) (t := 2) (x := (205 : Int)) dX11_roomOf_46 cf_X11 wf_X11_105 sp173 (by decide) (by decide) rfl (by decide) (rp173_40 _) ?_
    refine ev_bipush dX11_roomOf_49 (by decide) (by decide) ?_
    refine ev_iload_n dX11_roomOf_51 rfl ?_
    refine ev_imul dX11_roomOf_52 ?_
    refine ev_iload_n dX11_roomOf_53 rfl ?_
    refine ev_iadd dX11_roomOf_54 ?_
    refine ev_iald dX11_roomOf_55 sp205 (by decide) (by decide) h (fun h => ?_)
    refine ev_goto (tgt := 65) dX11_roomOf_56 rfl ?_
    obtain rfl := Option.some.inj h
    dsimp only
    exact ev_iret dX11_roomOf_65 rfl rfl
  exact ev_sub (L2 := [(2, (173 : Int)), (9, 0), (9, 0), (9, 0)]) (e_X11_roomOf_15 σ h) ⟨.inr rfl, .inl rfl, .inl rfl, .inl rfl, trivial⟩
set_option maxHeartbeats 4000000 in
set_option maxRecDepth 20000 in
theorem e_X11_left_33 (σ : Mem)  {q : (Int × Mem)} (h : f_X11_left_33 σ  = some q) : Ev M_X11_left 210 210 (some (0, q.1), rho, q.2) 33 210 rho σ [(2, (173 : Int)), (9, 0), (9, 0), (9, 0)] [] := by
  unfold f_X11_left_33 at h
  refine ev_aload_n dX11_left_33 rfl (by decide) ?_
  refine ev_bipush dX11_left_34 (by decide) (by decide) ?_
  obtain ⟨v9, hc10, h⟩ := bind_of h
  refine ev_invV_v (k := (173 : Int)) (av := [(0, (-52 : Int))]) (st := []) (v := (0, v9.1)) (τ := v9.2) dX11_left_36 ml_X11_151 mv_X11_no (T := TX11) (ci := 10) rfl sp173 (by decide) (by decide) rfl ⟨Nat.le_of_ble_eq_true rfl, Nat.le_of_ble_eq_true rfl⟩ (Nat.le_of_ble_eq_true rfl) (c_X11_no hc10) ?_
  obtain rfl := Option.some.inj h
  dsimp only
  exact ev_iret dX11_left_39 rfl rfl
set_option maxHeartbeats 4000000 in
set_option maxRecDepth 20000 in
theorem c_X11_left {σ : Mem} {x1 x2 x3 : Int}  {q : (Int × Mem)} (h : f_X11_left σ x1 x2 x3 = some q) : Ms yX11_left M_X11_left 210 210 [(2, (173 : Int)), (0, x1), (0, x2), (0, x3)] rho σ (some (0, q.1), rho, q.2) := by
  refine Ms.of 0 (by decide +kernel) rfl (fun z => absurd z (by decide)) (fun _ _ _ => trivial) rfl rfl ?_
  unfold f_X11_left at h
  show Ev M_X11_left 210 210 _ 0 210 rho σ [(2, (173 : Int)), (0, x1), (0, x2), (0, x3)] []
  refine ev_iload_n dX11_left_0 rfl ?_
  refine ev_i2lk dX11_left_1 ?_
  refine ev_lconst (x := (0 : Int)) dX11_left_2 (by decide) (by decide) ?_
  refine ev_aload_n dX11_left_3 rfl (by decide) ?_
  refine ev_getf (j := 0) (t := 2) (x := (174 : Int)) dX11_left_4 cf_X11 wf_X11_7 sp173 (by decide) (by decide) rfl (by decide) (rp173_0 _) ?_
  refine ev_bipush dX11_left_7 (by decide) (by decide) ?_
  refine ev_iald dX11_left_9 sp174 (by decide) (by decide) h (fun h => ?_)
  refine ev_iconst dX11_left_10 (by decide) ?_
  refine ev_isub dX11_left_11 ?_
  refine ev_i2lk dX11_left_12 ?_
  obtain ⟨v1, hc2, h⟩ := bind_of h
  refine ev_invS_v (av := [(1, x1), (1, (0 : Int)), (1, (jsub (σ (174 : Int) (84 : Int)) (1 : Int)))]) (st := []) (v := (0, v1)) (τ := σ) dX11_left_13 ml_X11_120 mt_X11_isIn rfl ⟨Nat.le_of_ble_eq_true rfl, Nat.le_of_ble_eq_true rfl⟩ (Nat.le_of_ble_eq_true rfl) (c_X11_isIn hc2) ?_
  show Ev _ _ _ _ 16 _ _ _ _ _
  refine ev_if_eq (tgt := 33) dX11_left_16 rfl h (fun cb h => ?_) (fun cb h => ?_)
  · exact ev_sub (L2 := [(2, (173 : Int)), (9, 0), (9, 0), (9, 0)]) (e_X11_left_33 σ h) ⟨.inr rfl, .inl rfl, .inl rfl, .inl rfl, trivial⟩
  refine ev_iload_n dX11_left_19 rfl ?_
  obtain ⟨v3, hc4, h⟩ := bind_of h
  refine ev_invS_v (av := [(0, x2)]) (st := []) (v := (0, v3)) (τ := σ) dX11_left_20 ml_X11_168 mt_X11_isDay rfl ⟨Nat.le_of_ble_eq_true rfl, Nat.le_of_ble_eq_true rfl⟩ (Nat.le_of_ble_eq_true rfl) (c_X11_isDay hc4) ?_
  refine ev_if_eq (tgt := 33) dX11_left_23 rfl h (fun cb h => ?_) (fun cb h => ?_)
  · exact ev_sub (L2 := [(2, (173 : Int)), (9, 0), (9, 0), (9, 0)]) (e_X11_left_33 σ h) ⟨.inr rfl, .inl rfl, .inl rfl, .inl rfl, trivial⟩
  refine ev_iload_n dX11_left_26 rfl ?_
  obtain ⟨v5, hc6, h⟩ := bind_of h
  refine ev_invS_v (av := [(0, x3)]) (st := []) (v := (0, v5)) (τ := σ) dX11_left_27 ml_X11_171 mt_X11_isSlot rfl ⟨Nat.le_of_ble_eq_true rfl, Nat.le_of_ble_eq_true rfl⟩ (Nat.le_of_ble_eq_true rfl) (c_X11_isSlot hc6) ?_
  refine ev_if_ne (tgt := 40) dX11_left_30 rfl h (fun cb h => ?_) (fun cb h => ?_)
  · refine ev_aload_n dX11_left_40 rfl (by decide) ?_
    refine ev_iload_n dX11_left_41 rfl ?_
    obtain ⟨σ7, hc8, h⟩ := bind_of h
    refine ev_invV_n (k := (173 : Int)) (av := [(0, x2)]) (st := []) (τ := σ7) dX11_left_42 ml_X11_359 mv_X11_seats (T := TX11) (ci := 10) rfl sp173 (by decide) (by decide) rfl ⟨Nat.le_of_ble_eq_true rfl, Nat.le_of_ble_eq_true rfl⟩ (Nat.le_of_ble_eq_true rfl) (c_X11_seats hc8) ?_
    refine ev_aload_n dX11_left_45 rfl (by decide) ?_
    refine ev_getf (j := 43) (t := 2) (x := (208 : Int)) dX11_left_46 cf_X11 wf_X11_114 sp173 (by decide) (by decide) rfl (by decide) (rp173_43 _) ?_
    refine ev_bipush dX11_left_49 (by decide) (by decide) ?_
    refine ev_iload_n dX11_left_51 rfl ?_
    refine ev_imul dX11_left_52 ?_
    refine ev_iload_n dX11_left_53 rfl ?_
    refine ev_iadd dX11_left_54 ?_
    refine ev_iald dX11_left_55 sp208 (by decide) (by decide) h (fun h => ?_)
    show Ev _ _ _ _ 56 _ _ _ _ _
    obtain rfl := Option.some.inj h
    dsimp only
    exact ev_iret dX11_left_56 rfl rfl
  exact ev_sub (L2 := [(2, (173 : Int)), (9, 0), (9, 0), (9, 0)]) (e_X11_left_33 σ h) ⟨.inr rfl, .inl rfl, .inl rfl, .inl rfl, trivial⟩
set_option maxHeartbeats 4000000 in
set_option maxRecDepth 20000 in
theorem e_X11_whatIf_16 (σ : Mem)  {q : (Int × Mem)} (h : f_X11_whatIf_16 σ  = some q) : Ev M_X11_whatIf 210 210 (some (0, q.1), rho, q.2) 16 210 rho σ [(2, (173 : Int)), (9, 0), (9, 0), (9, 0)] [] := by
  unfold f_X11_whatIf_16 at h
  refine ev_aload_n dX11_whatIf_16 rfl (by decide) ?_
  refine ev_bipush dX11_whatIf_17 (by decide) (by decide) ?_
  obtain ⟨v16, hc17, h⟩ := bind_of h
  refine ev_invV_v (k := (173 : Int)) (av := [(0, (-52 : Int))]) (st := []) (v := (0, v16.1)) (τ := v16.2) dX11_whatIf_19 ml_X11_151 mv_X11_no (T := TX11) (ci := 10) rfl sp173 (by decide) (by decide) rfl ⟨Nat.le_of_ble_eq_true rfl, Nat.le_of_ble_eq_true rfl⟩ (Nat.le_of_ble_eq_true rfl) (c_X11_no hc17) ?_
  obtain rfl := Option.some.inj h
  dsimp only
  exact ev_iret dX11_whatIf_22 rfl rfl
set_option maxHeartbeats 4000000 in
set_option maxRecDepth 20000 in
theorem c_X11_whatIf {σ : Mem} {x1 x2 : Int}  {q : (Int × Mem)} (h : f_X11_whatIf σ x1 x2 = some q) : Ms yX11_whatIf M_X11_whatIf 210 210 [(2, (173 : Int)), (0, x1), (0, x2)] rho σ (some (0, q.1), rho, q.2) := by
  refine Ms.of 1 (by decide +kernel) rfl (fun z => absurd z (by decide)) (fun _ _ _ => trivial) rfl rfl ?_
  unfold f_X11_whatIf at h
  show Ev M_X11_whatIf 210 210 _ 0 210 rho σ [(2, (173 : Int)), (0, x1), (0, x2), (9, 0)] []
  refine ev_aload_n dX11_whatIf_0 rfl (by decide) ?_
  refine ev_iload_n dX11_whatIf_1 rfl ?_
  obtain ⟨v1, hc2, h⟩ := bind_of h
  refine ev_invV_v (k := (173 : Int)) (av := [(0, x1)]) (st := []) (v := (0, v1)) (τ := σ) dX11_whatIf_2 ml_X11_157 mv_X11_isCand (T := TX11) (ci := 10) rfl sp173 (by decide) (by decide) rfl ⟨Nat.le_of_ble_eq_true rfl, Nat.le_of_ble_eq_true rfl⟩ (Nat.le_of_ble_eq_true rfl) (c_X11_isCand hc2) ?_
  refine ev_if_eq (tgt := 16) dX11_whatIf_5 rfl h (fun cb h => ?_) (fun cb h => ?_)
  · exact ev_sub (L2 := [(2, (173 : Int)), (9, 0), (9, 0), (9, 0)]) (e_X11_whatIf_16 σ h) ⟨.inr rfl, .inl rfl, .inl rfl, .inl rfl, trivial⟩
  refine ev_aload_n dX11_whatIf_8 rfl (by decide) ?_
  refine ev_iload_n dX11_whatIf_9 rfl ?_
  obtain ⟨v3, hc4, h⟩ := bind_of h
  refine ev_invV_v (k := (173 : Int)) (av := [(0, x2)]) (st := []) (v := (0, v3)) (τ := σ) dX11_whatIf_10 ml_X11_174 mv_X11_isPaper (T := TX11) (ci := 10) rfl sp173 (by decide) (by decide) rfl ⟨Nat.le_of_ble_eq_true rfl, Nat.le_of_ble_eq_true rfl⟩ (Nat.le_of_ble_eq_true rfl) (c_X11_isPaper hc4) ?_
  refine ev_if_ne (tgt := 23) dX11_whatIf_13 rfl h (fun cb h => ?_) (fun cb h => ?_)
  · refine ev_aload_n dX11_whatIf_23 rfl (by decide) ?_
    refine ev_iload_n dX11_whatIf_24 rfl ?_
    refine ev_iload_n dX11_whatIf_25 rfl ?_
    obtain ⟨v5, hc6, h⟩ := bind_of h
    refine ev_invV_v (k := (173 : Int)) (av := [(0, x1), (0, x2)]) (st := []) (v := (0, v5)) (τ := σ) dX11_whatIf_26 ml_X11_194 mv_X11_isFifth (T := TX11) (ci := 10) rfl sp173 (by decide) (by decide) rfl ⟨Nat.le_of_ble_eq_true rfl, Nat.le_of_ble_eq_true rfl⟩ (Nat.le_of_ble_eq_true rfl) (c_X11_isFifth hc6) ?_
    refine ev_if_eq (tgt := 39) dX11_whatIf_29 rfl h (fun cb h => ?_) (fun cb h => ?_)
    · refine ev_aload_n dX11_whatIf_39 rfl (by decide) ?_
      refine ev_iload_n dX11_whatIf_40 rfl ?_
      refine ev_iload_n dX11_whatIf_41 rfl ?_
      obtain ⟨σ7, hc8, h⟩ := bind_of h
      refine ev_invV_n (k := (173 : Int)) (av := [(0, x1), (0, x2)]) (st := []) (τ := σ7) dX11_whatIf_42 ml_X11_197 mv_X11_toggles (T := TX11) (ci := 10) rfl sp173 (by decide) (by decide) rfl ⟨Nat.le_of_ble_eq_true rfl, Nat.le_of_ble_eq_true rfl⟩ (Nat.le_of_ble_eq_true rfl) (c_X11_toggles hc8) ?_
      refine ev_aload_n dX11_whatIf_45 rfl (by decide) ?_
      refine ev_iload_n dX11_whatIf_46 rfl ?_
      obtain ⟨v9, hc10, h⟩ := bind_of h
      refine ev_invV_v (k := (173 : Int)) (av := [(0, x1)]) (st := []) (v := (0, v9.1)) (τ := v9.2) dX11_whatIf_47 ml_X11_297 mv_X11_cants (T := TX11) (ci := 10) rfl sp173 (by decide) (by decide) rfl ⟨Nat.le_of_ble_eq_true rfl, Nat.le_of_ble_eq_true rfl⟩ (Nat.le_of_ble_eq_true rfl) (c_X11_cants hc10) ?_
      refine ev_istore_nG dX11_whatIf_50 h rfl (by decide) (fun v11 h => ?_)
      show Ev _ _ _ _ 51 _ _ _ [(2, (173 : Int)), (0, x1), (0, x2), (0, v11)] _
      refine ev_aload_n dX11_whatIf_51 rfl (by decide) ?_
      refine ev_iload_n dX11_whatIf_52 rfl ?_
      refine ev_iload_n dX11_whatIf_53 rfl ?_
      show Ev _ _ _ _ 54 _ _ _ _ _
      obtain ⟨σ12, hc13, h⟩ := bind_of h
      refine ev_invV_n (k := (173 : Int)) (av := [(0, x1), (0, x2)]) (st := []) (τ := σ12) dX11_whatIf_54 ml_X11_197 mv_X11_toggles (T := TX11) (ci := 10) rfl sp173 (by decide) (by decide) rfl ⟨Nat.le_of_ble_eq_true rfl, Nat.le_of_ble_eq_true rfl⟩ (Nat.le_of_ble_eq_true rfl) (c_X11_toggles hc13) ?_
      refine ev_iload_n dX11_whatIf_57 rfl ?_
      obtain rfl := Option.some.inj h
      dsimp only
      exact ev_iret dX11_whatIf_58 rfl rfl
    refine ev_aload_n dX11_whatIf_32 rfl (by decide) ?_
    refine ev_bipush dX11_whatIf_33 (by decide) (by decide) ?_
    obtain ⟨v14, hc15, h⟩ := bind_of h
    refine ev_invV_v (k := (173 : Int)) (av := [(0, (-55 : Int))]) (st := []) (v := (0, v14.1)) (τ := v14.2) dX11_whatIf_35 ml_X11_151 mv_X11_no (T := TX11) (ci := 10) rfl sp173 (by decide) (by decide) rfl ⟨Nat.le_of_ble_eq_true rfl, Nat.le_of_ble_eq_true rfl⟩ (Nat.le_of_ble_eq_true rfl) (c_X11_no hc15) ?_
    obtain rfl := Option.some.inj h
    dsimp only
    exact ev_iret dX11_whatIf_38 rfl rfl
  exact ev_sub (L2 := [(2, (173 : Int)), (9, 0), (9, 0), (9, 0)]) (e_X11_whatIf_16 σ h) ⟨.inr rfl, .inl rfl, .inl rfl, .inl rfl, trivial⟩
set_option maxHeartbeats 4000000 in
set_option maxRecDepth 20000 in
theorem e_X11_both_24 (σ : Mem)  {q : (Int × Mem)} (h : f_X11_both_24 σ  = some q) : Ev M_X11_both 210 210 (some (0, q.1), rho, q.2) 24 210 rho σ [(2, (173 : Int)), (9, 0), (9, 0), (9, 0), (9, 0)] [] := by
  unfold f_X11_both_24 at h
  refine ev_aload_n dX11_both_24 rfl (by decide) ?_
  refine ev_bipush dX11_both_25 (by decide) (by decide) ?_
  obtain ⟨v22, hc23, h⟩ := bind_of h
  refine ev_invV_v (k := (173 : Int)) (av := [(0, (-52 : Int))]) (st := []) (v := (0, v22.1)) (τ := v22.2) dX11_both_27 ml_X11_151 mv_X11_no (T := TX11) (ci := 10) rfl sp173 (by decide) (by decide) rfl ⟨Nat.le_of_ble_eq_true rfl, Nat.le_of_ble_eq_true rfl⟩ (Nat.le_of_ble_eq_true rfl) (c_X11_no hc23) ?_
  obtain rfl := Option.some.inj h
  dsimp only
  exact ev_iret dX11_both_30 rfl rfl
set_option maxHeartbeats 4000000 in
set_option maxRecDepth 20000 in
theorem e_X11_both_85 (σ : Mem) (x1 x2 x4 : Int)  {q : (Int × Mem)} (h : f_X11_both_85 σ x1 x2 x4 = some q) : Ev M_X11_both 210 210 (some (0, q.1), rho, q.2) 85 210 rho σ [(2, (173 : Int)), (0, x1), (0, x2), (9, 0), (0, x4)] [] := by
  unfold f_X11_both_85 at h
  refine ev_aload_n dX11_both_85 rfl (by decide) ?_
  refine ev_iload_n dX11_both_86 rfl ?_
  refine ev_iload_n dX11_both_87 rfl ?_
  obtain ⟨σ24, hc25, h⟩ := bind_of h
  refine ev_invV_n (k := (173 : Int)) (av := [(0, x1), (0, x2)]) (st := []) (τ := σ24) dX11_both_88 ml_X11_197 mv_X11_toggles (T := TX11) (ci := 10) rfl sp173 (by decide) (by decide) rfl ⟨Nat.le_of_ble_eq_true rfl, Nat.le_of_ble_eq_true rfl⟩ (Nat.le_of_ble_eq_true rfl) (c_X11_toggles hc25) ?_
  refine ev_iload dX11_both_91 rfl ?_
  refine ev_bipush dX11_both_93 (by decide) (by decide) ?_
  refine ev_icmp_ne (tgt := 107) dX11_both_95 rfl h (fun cb h => ?_) (fun cb h => ?_)
  · refine ev_iload dX11_both_107 rfl ?_
    obtain rfl := Option.some.inj h
    dsimp only
    exact ev_iret dX11_both_109 rfl rfl
  refine ev_aload_n dX11_both_98 rfl (by decide) ?_
  refine ev_bipush dX11_both_99 (by decide) (by decide) ?_
  obtain ⟨v26, hc27, h⟩ := bind_of h
  refine ev_invV_v (k := (173 : Int)) (av := [(0, (-55 : Int))]) (st := []) (v := (0, v26.1)) (τ := v26.2) dX11_both_101 ml_X11_151 mv_X11_no (T := TX11) (ci := 10) rfl sp173 (by decide) (by decide) rfl ⟨Nat.le_of_ble_eq_true rfl, Nat.le_of_ble_eq_true rfl⟩ (Nat.le_of_ble_eq_true rfl) (c_X11_no hc27) ?_
  refine ev_goto (tgt := 109) dX11_both_104 rfl ?_
  obtain rfl := Option.some.inj h
  dsimp only
  exact ev_iret dX11_both_109 rfl rfl
set_option maxHeartbeats 4000000 in
set_option maxRecDepth 20000 in
theorem c_X11_both {σ : Mem} {x1 x2 x3 : Int}  {q : (Int × Mem)} (h : f_X11_both σ x1 x2 x3 = some q) : Ms yX11_both M_X11_both 210 210 [(2, (173 : Int)), (0, x1), (0, x2), (0, x3)] rho σ (some (0, q.1), rho, q.2) := by
  refine Ms.of 1 (by decide +kernel) rfl (fun z => absurd z (by decide)) (fun _ _ _ => trivial) rfl rfl ?_
  unfold f_X11_both at h
  show Ev M_X11_both 210 210 _ 0 210 rho σ [(2, (173 : Int)), (0, x1), (0, x2), (0, x3), (9, 0)] []
  refine ev_aload_n dX11_both_0 rfl (by decide) ?_
  refine ev_iload_n dX11_both_1 rfl ?_
  obtain ⟨v1, hc2, h⟩ := bind_of h
  refine ev_invV_v (k := (173 : Int)) (av := [(0, x1)]) (st := []) (v := (0, v1)) (τ := σ) dX11_both_2 ml_X11_157 mv_X11_isCand (T := TX11) (ci := 10) rfl sp173 (by decide) (by decide) rfl ⟨Nat.le_of_ble_eq_true rfl, Nat.le_of_ble_eq_true rfl⟩ (Nat.le_of_ble_eq_true rfl) (c_X11_isCand hc2) ?_
  refine ev_if_eq (tgt := 24) dX11_both_5 rfl h (fun cb h => ?_) (fun cb h => ?_)
  · exact ev_sub (L2 := [(2, (173 : Int)), (9, 0), (9, 0), (9, 0), (9, 0)]) (e_X11_both_24 σ h) ⟨.inr rfl, .inl rfl, .inl rfl, .inl rfl, .inl rfl, trivial⟩
  refine ev_aload_n dX11_both_8 rfl (by decide) ?_
  refine ev_iload_n dX11_both_9 rfl ?_
  obtain ⟨v3, hc4, h⟩ := bind_of h
  refine ev_invV_v (k := (173 : Int)) (av := [(0, x2)]) (st := []) (v := (0, v3)) (τ := σ) dX11_both_10 ml_X11_174 mv_X11_isPaper (T := TX11) (ci := 10) rfl sp173 (by decide) (by decide) rfl ⟨Nat.le_of_ble_eq_true rfl, Nat.le_of_ble_eq_true rfl⟩ (Nat.le_of_ble_eq_true rfl) (c_X11_isPaper hc4) ?_
  refine ev_if_eq (tgt := 24) dX11_both_13 rfl h (fun cb h => ?_) (fun cb h => ?_)
  · exact ev_sub (L2 := [(2, (173 : Int)), (9, 0), (9, 0), (9, 0), (9, 0)]) (e_X11_both_24 σ h) ⟨.inr rfl, .inl rfl, .inl rfl, .inl rfl, .inl rfl, trivial⟩
  refine ev_aload_n dX11_both_16 rfl (by decide) ?_
  refine ev_iload_n dX11_both_17 rfl ?_
  obtain ⟨v5, hc6, h⟩ := bind_of h
  refine ev_invV_v (k := (173 : Int)) (av := [(0, x3)]) (st := []) (v := (0, v5)) (τ := σ) dX11_both_18 ml_X11_174 mv_X11_isPaper (T := TX11) (ci := 10) rfl sp173 (by decide) (by decide) rfl ⟨Nat.le_of_ble_eq_true rfl, Nat.le_of_ble_eq_true rfl⟩ (Nat.le_of_ble_eq_true rfl) (c_X11_isPaper hc6) ?_
  refine ev_if_ne (tgt := 31) dX11_both_21 rfl h (fun cb h => ?_) (fun cb h => ?_)
  · refine ev_aload_n dX11_both_31 rfl (by decide) ?_
    refine ev_iload_n dX11_both_32 rfl ?_
    refine ev_iload_n dX11_both_33 rfl ?_
    obtain ⟨v7, hc8, h⟩ := bind_of h
    refine ev_invV_v (k := (173 : Int)) (av := [(0, x1), (0, x2)]) (st := []) (v := (0, v7)) (τ := σ) dX11_both_34 ml_X11_194 mv_X11_isFifth (T := TX11) (ci := 10) rfl sp173 (by decide) (by decide) rfl ⟨Nat.le_of_ble_eq_true rfl, Nat.le_of_ble_eq_true rfl⟩ (Nat.le_of_ble_eq_true rfl) (c_X11_isFifth hc8) ?_
    refine ev_if_eq (tgt := 47) dX11_both_37 rfl h (fun cb h => ?_) (fun cb h => ?_)
    · refine ev_aload_n dX11_both_47 rfl (by decide) ?_
      refine ev_iload_n dX11_both_48 rfl ?_
      refine ev_iload_n dX11_both_49 rfl ?_
      obtain ⟨σ9, hc10, h⟩ := bind_of h
      refine ev_invV_n (k := (173 : Int)) (av := [(0, x1), (0, x2)]) (st := []) (τ := σ9) dX11_both_50 ml_X11_197 mv_X11_toggles (T := TX11) (ci := 10) rfl sp173 (by decide) (by decide) rfl ⟨Nat.le_of_ble_eq_true rfl, Nat.le_of_ble_eq_true rfl⟩ (Nat.le_of_ble_eq_true rfl) (c_X11_toggles hc10) ?_
      refine ev_bipush dX11_both_53 (by decide) (by decide) ?_
      refine ev_istore dX11_both_55 rfl (by decide) ?_
      show Ev _ _ _ _ 57 _ _ _ [(2, (173 : Int)), (0, x1), (0, x2), (0, x3), (0, (-55 : Int))] _
      refine ev_aload_n dX11_both_57 rfl (by decide) ?_
      refine ev_iload_n dX11_both_58 rfl ?_
      refine ev_iload_n dX11_both_59 rfl ?_
      obtain ⟨v11, hc12, h⟩ := bind_of h
      refine ev_invV_v (k := (173 : Int)) (av := [(0, x1), (0, x3)]) (st := []) (v := (0, v11)) (τ := σ9) dX11_both_60 ml_X11_194 mv_X11_isFifth (T := TX11) (ci := 10) rfl sp173 (by decide) (by decide) rfl ⟨Nat.le_of_ble_eq_true rfl, Nat.le_of_ble_eq_true rfl⟩ (Nat.le_of_ble_eq_true rfl) (c_X11_isFifth hc12) ?_
      refine ev_if_ne (tgt := 85) dX11_both_63 rfl h (fun cb h => ?_) (fun cb h => ?_)
      · exact ev_sub (L2 := [(2, (173 : Int)), (0, x1), (0, x2), (9, 0), (0, (-55 : Int))]) (e_X11_both_85 σ9 x1 x2 (-55 : Int) h) ⟨.inr rfl, .inr rfl, .inr rfl, .inl rfl, .inr rfl, trivial⟩
      refine ev_aload_n dX11_both_66 rfl (by decide) ?_
      refine ev_iload_n dX11_both_67 rfl ?_
      refine ev_iload_n dX11_both_68 rfl ?_
      obtain ⟨σ13, hc14, h⟩ := bind_of h
      refine ev_invV_n (k := (173 : Int)) (av := [(0, x1), (0, x3)]) (st := []) (τ := σ13) dX11_both_69 ml_X11_197 mv_X11_toggles (T := TX11) (ci := 10) rfl sp173 (by decide) (by decide) rfl ⟨Nat.le_of_ble_eq_true rfl, Nat.le_of_ble_eq_true rfl⟩ (Nat.le_of_ble_eq_true rfl) (c_X11_toggles hc14) ?_
      refine ev_aload_n dX11_both_72 rfl (by decide) ?_
      refine ev_iload_n dX11_both_73 rfl ?_
      obtain ⟨v15, hc16, h⟩ := bind_of h
      refine ev_invV_v (k := (173 : Int)) (av := [(0, x1)]) (st := []) (v := (0, v15.1)) (τ := v15.2) dX11_both_74 ml_X11_362 mv_X11_keptInAll (T := TX11) (ci := 10) rfl sp173 (by decide) (by decide) rfl ⟨Nat.le_of_ble_eq_true rfl, Nat.le_of_ble_eq_true rfl⟩ (Nat.le_of_ble_eq_true rfl) (c_X11_keptInAll hc16) ?_
      refine ev_istoreG dX11_both_77 h rfl (by decide) (fun v17 h => ?_)
      show Ev _ _ _ _ 79 _ _ _ [(2, (173 : Int)), (0, x1), (0, x2), (0, x3), (0, v17)] _
      refine ev_aload_n dX11_both_79 rfl (by decide) ?_
      refine ev_iload_n dX11_both_80 rfl ?_
      refine ev_iload_n dX11_both_81 rfl ?_
      show Ev _ _ _ _ 82 _ _ _ _ _
      obtain ⟨σ18, hc19, h⟩ := bind_of h
      refine ev_invV_n (k := (173 : Int)) (av := [(0, x1), (0, x3)]) (st := []) (τ := σ18) dX11_both_82 ml_X11_197 mv_X11_toggles (T := TX11) (ci := 10) rfl sp173 (by decide) (by decide) rfl ⟨Nat.le_of_ble_eq_true rfl, Nat.le_of_ble_eq_true rfl⟩ (Nat.le_of_ble_eq_true rfl) (c_X11_toggles hc19) ?_
      exact ev_sub (L2 := [(2, (173 : Int)), (0, x1), (0, x2), (9, 0), (0, v17)]) (e_X11_both_85 σ18 x1 x2 v17 h) ⟨.inr rfl, .inr rfl, .inr rfl, .inl rfl, .inr rfl, trivial⟩
    refine ev_aload_n dX11_both_40 rfl (by decide) ?_
    refine ev_bipush dX11_both_41 (by decide) (by decide) ?_
    obtain ⟨v20, hc21, h⟩ := bind_of h
    refine ev_invV_v (k := (173 : Int)) (av := [(0, (-55 : Int))]) (st := []) (v := (0, v20.1)) (τ := v20.2) dX11_both_43 ml_X11_151 mv_X11_no (T := TX11) (ci := 10) rfl sp173 (by decide) (by decide) rfl ⟨Nat.le_of_ble_eq_true rfl, Nat.le_of_ble_eq_true rfl⟩ (Nat.le_of_ble_eq_true rfl) (c_X11_no hc21) ?_
    obtain rfl := Option.some.inj h
    dsimp only
    exact ev_iret dX11_both_46 rfl rfl
  exact ev_sub (L2 := [(2, (173 : Int)), (9, 0), (9, 0), (9, 0), (9, 0)]) (e_X11_both_24 σ h) ⟨.inr rfl, .inl rfl, .inl rfl, .inl rfl, .inl rfl, trivial⟩
def K_X11_relief_24 (x1 : Int) (r : Option V × Mem × Mem) : (Int × Int × Int × Mem) ⊕ ((Int × Mem)) → Prop := Sum.elim (fun a => Ev M_X11_relief 210 210 r 24 210 rho a.2.2.2 [(2, (173 : Int)), (0, x1), (0, a.1), (0, a.2.1), (0, a.2.2.1), (9, 0)] []) (fun e => Ev M_X11_relief 210 210 r 93 210 rho e.2 [(9, 0), (9, 0), (0, e.1), (9, 0), (9, 0), (9, 0)] [])
set_option maxHeartbeats 4000000 in
set_option maxRecDepth 20000 in
theorem e_X11_relief_87 (σ : Mem) (x1 x2 x3 x4 : Int)  {q : ((Int × Int × Int × Mem) ⊕ ((Int × Mem)))} (h : f_X11_relief_87 σ x1 x2 x3 x4 = some q) {r : Option V × Mem × Mem} (K : K_X11_relief_24 x1 r q) : Ev M_X11_relief 210 210 r 87 210 rho σ [(2, (173 : Int)), (0, x1), (0, x2), (0, x3), (0, x4), (9, 0)] [] := by
  unfold f_X11_relief_87 at h
  refine ev_iincG dX11_relief_87 rfl h rfl (fun v14 h => ?_)
  show Ev _ _ _ _ 90 _ _ _ [(2, (173 : Int)), (0, x1), (0, x2), (0, x3), (0, v14), (9, 0)] _
  refine ev_goto (tgt := 24) dX11_relief_90 rfl ?_
  obtain rfl := Option.some.inj h
  exact ev_sub (L2 := [(2, (173 : Int)), (0, x1), (0, x2), (0, x3), (0, v14), (9, 0)]) K ⟨.inr rfl, .inr rfl, .inr rfl, .inr rfl, .inr rfl, .inl rfl, trivial⟩
set_option maxHeartbeats 4000000 in
set_option maxRecDepth 20000 in
theorem e_X11_relief_79 (σ : Mem) (x1 x3 x4 x5 s0 : Int)  {q : ((Int × Int × Int × Mem) ⊕ ((Int × Mem)))} (h : f_X11_relief_79 σ x1 x3 x4 x5 s0 = some q) {r : Option V × Mem × Mem} (K : K_X11_relief_24 x1 r q) : Ev M_X11_relief 210 210 r 79 210 rho σ [(2, (173 : Int)), (0, x1), (9, 0), (0, x3), (0, x4), (0, x5)] [(0, s0)] := by
  unfold f_X11_relief_79 at h
  refine ev_istore_n dX11_relief_79 rfl (by decide) ?_
  show Ev _ _ _ _ 80 _ _ _ [(2, (173 : Int)), (0, x1), (0, s0), (0, x3), (0, x4), (0, x5)] _
  refine ev_iload_n dX11_relief_80 rfl ?_
  refine ev_iload dX11_relief_81 rfl ?_
  refine ev_mn dX11_relief_83 wa_X11_343 wm_min (by decide) (Nat.le_of_ble_eq_true rfl) ?_
  refine ev_istore_nG dX11_relief_86 h rfl (by decide) (fun v15 h => ?_)
  show Ev _ _ _ _ 87 _ _ _ [(2, (173 : Int)), (0, x1), (0, s0), (0, v15), (0, x4), (0, x5)] _
  exact ev_sub (L2 := [(2, (173 : Int)), (0, x1), (0, s0), (0, v15), (0, x4), (9, 0)]) (e_X11_relief_87 σ x1 s0 v15 x4 h K) ⟨.inr rfl, .inr rfl, .inr rfl, .inr rfl, .inr rfl, .inl rfl, trivial⟩
set_option maxHeartbeats 4000000 in
set_option maxRecDepth 20000 in
theorem b_X11_relief_24 (x1 : Int)  {r : Option V × Mem × Mem} : ∀ a x, f_X11_relief_24B x1 a = some x → K_X11_relief_24 x1 r x → K_X11_relief_24 x1 r (.inl a) := by
  intro a x h K
  obtain ⟨x2, x3, x4, σ⟩ := a
  have h : f_X11_relief_24C x1 x2 x3 x4 σ = some x := h
  unfold f_X11_relief_24C at h
  show Ev M_X11_relief 210 210 r 24 210 rho σ [(2, (173 : Int)), (0, x1), (0, x2), (0, x3), (0, x4), (9, 0)] []
  refine ev_iload dX11_relief_24 rfl ?_
  refine ev_aload_n dX11_relief_26 rfl (by decide) ?_
  refine ev_getf (j := 0) (t := 2) (x := (174 : Int)) dX11_relief_27 cf_X11 wf_X11_7 sp173 (by decide) (by decide) rfl (by decide) (rp173_0 _) ?_
  refine ev_bipush dX11_relief_30 (by decide) (by decide) ?_
  refine ev_iald dX11_relief_32 sp174 (by decide) (by decide) h (fun h => ?_)
  refine ev_icmp_ge (tgt := 93) dX11_relief_33 rfl h (fun cb h => ?_) (fun cb h => ?_)
  · obtain rfl := Option.some.inj h
    exact ev_sub (L2 := [(9, 0), (9, 0), (0, x2), (9, 0), (9, 0), (9, 0)]) K ⟨.inl rfl, .inl rfl, .inr rfl, .inl rfl, .inl rfl, .inl rfl, trivial⟩
  refine ev_aload_n dX11_relief_36 rfl (by decide) ?_
  refine ev_iload_n dX11_relief_37 rfl ?_
  refine ev_iload dX11_relief_38 rfl ?_
  obtain ⟨v5, hc6, h⟩ := bind_of h
  refine ev_invV_v (k := (173 : Int)) (av := [(0, x1), (0, x4)]) (st := []) (v := (0, v5)) (τ := σ) dX11_relief_40 ml_X11_194 mv_X11_isFifth (T := TX11) (ci := 10) rfl sp173 (by decide) (by decide) rfl ⟨Nat.le_of_ble_eq_true rfl, Nat.le_of_ble_eq_true rfl⟩ (Nat.le_of_ble_eq_true rfl) (c_X11_isFifth hc6) ?_
  refine ev_if_ne (tgt := 87) dX11_relief_43 rfl h (fun cb h => ?_) (fun cb h => ?_)
  · exact ev_sub (L2 := [(2, (173 : Int)), (0, x1), (0, x2), (0, x3), (0, x4), (9, 0)]) (e_X11_relief_87 σ x1 x2 x3 x4 h K) ⟨.inr rfl, .inr rfl, .inr rfl, .inr rfl, .inr rfl, .inl rfl, trivial⟩
  refine ev_aload_n dX11_relief_46 rfl (by decide) ?_
  refine ev_iload_n dX11_relief_47 rfl ?_
  refine ev_iload dX11_relief_48 rfl ?_
  obtain ⟨σ7, hc8, h⟩ := bind_of h
  refine ev_invV_n (k := (173 : Int)) (av := [(0, x1), (0, x4)]) (st := []) (τ := σ7) dX11_relief_50 ml_X11_197 mv_X11_toggles (T := TX11) (ci := 10) rfl sp173 (by decide) (by decide) rfl ⟨Nat.le_of_ble_eq_true rfl, Nat.le_of_ble_eq_true rfl⟩ (Nat.le_of_ble_eq_true rfl) (c_X11_toggles hc8) ?_
  refine ev_aload_n dX11_relief_53 rfl (by decide) ?_
  refine ev_iload_n dX11_relief_54 rfl ?_
  obtain ⟨v9, hc10, h⟩ := bind_of h
  refine ev_invV_v (k := (173 : Int)) (av := [(0, x1)]) (st := []) (v := (0, v9.1)) (τ := v9.2) dX11_relief_55 ml_X11_297 mv_X11_cants (T := TX11) (ci := 10) rfl sp173 (by decide) (by decide) rfl ⟨Nat.le_of_ble_eq_true rfl, Nat.le_of_ble_eq_true rfl⟩ (Nat.le_of_ble_eq_true rfl) (c_X11_cants hc10) ?_
  refine ev_istoreG dX11_relief_58 h rfl (by decide) (fun v11 h => ?_)
  show Ev _ _ _ _ 60 _ _ _ [(2, (173 : Int)), (0, x1), (0, x2), (0, x3), (0, x4), (0, v11)] _
  refine ev_aload_n dX11_relief_60 rfl (by decide) ?_
  refine ev_iload_n dX11_relief_61 rfl ?_
  refine ev_iload dX11_relief_62 rfl ?_
  show Ev _ _ _ _ 64 _ _ _ _ _
  obtain ⟨σ12, hc13, h⟩ := bind_of h
  refine ev_invV_n (k := (173 : Int)) (av := [(0, x1), (0, x4)]) (st := []) (τ := σ12) dX11_relief_64 ml_X11_197 mv_X11_toggles (T := TX11) (ci := 10) rfl sp173 (by decide) (by decide) rfl ⟨Nat.le_of_ble_eq_true rfl, Nat.le_of_ble_eq_true rfl⟩ (Nat.le_of_ble_eq_true rfl) (c_X11_toggles hc13) ?_
  refine ev_iload dX11_relief_67 rfl ?_
  refine ev_iload_n dX11_relief_69 rfl ?_
  refine ev_icmp_ge (tgt := 78) dX11_relief_70 rfl h (fun cb h => ?_) (fun cb h => ?_)
  · refine ev_iload_n dX11_relief_78 rfl ?_
    exact ev_sub (L2 := [(2, (173 : Int)), (0, x1), (9, 0), (0, x3), (0, x4), (0, v11)]) (e_X11_relief_79 σ12 x1 x3 x4 v11 x2 h K) ⟨.inr rfl, .inr rfl, .inl rfl, .inr rfl, .inr rfl, .inr rfl, trivial⟩
  refine ev_iload dX11_relief_73 rfl ?_
  refine ev_goto (tgt := 79) dX11_relief_75 rfl ?_
  exact ev_sub (L2 := [(2, (173 : Int)), (0, x1), (9, 0), (0, x3), (0, x4), (0, v11)]) (e_X11_relief_79 σ12 x1 x3 x4 v11 x4 h K) ⟨.inr rfl, .inr rfl, .inl rfl, .inr rfl, .inr rfl, .inr rfl, trivial⟩
set_option maxHeartbeats 4000000 in
set_option maxRecDepth 20000 in
theorem e_X11_relief_24 (σ : Mem) (x1 x2 x3 x4 : Int)  {q : (Int × Mem)} (h : f_X11_relief_24 σ x1 x2 x3 x4 = some q) : Ev M_X11_relief 210 210 (some (0, q.1), rho, q.2) 24 210 rho σ [(2, (173 : Int)), (0, x1), (0, x2), (0, x3), (0, x4), (9, 0)] [] := by
  unfold f_X11_relief_24 at h
  obtain ⟨e, hl, h⟩ := bind_of h
  refine loop_ev (K := K_X11_relief_24 x1 (some (0, q.1), rho, q.2)) (b_X11_relief_24 x1) FU (x2, x3, x4, σ) e hl ?_
  show Ev M_X11_relief 210 210 _ 93 210 rho e.2 [(9, 0), (9, 0), (0, e.1), (9, 0), (9, 0), (9, 0)] []
  replace h : some (e.1, e.2) = some q := h
  refine ev_iload_n dX11_relief_93 rfl ?_
  obtain rfl := Option.some.inj h
  dsimp only
  exact ev_iret dX11_relief_94 rfl rfl
set_option maxHeartbeats 4000000 in
set_option maxRecDepth 20000 in
theorem c_X11_relief {σ : Mem} {x1 : Int}  {q : (Int × Mem)} (h : f_X11_relief σ x1 = some q) : Ms yX11_relief M_X11_relief 210 210 [(2, (173 : Int)), (0, x1)] rho σ (some (0, q.1), rho, q.2) := by
  refine Ms.of 4 (by decide +kernel) rfl (fun z => absurd z (by decide)) (fun _ _ _ => trivial) rfl rfl ?_
  unfold f_X11_relief at h
  show Ev M_X11_relief 210 210 _ 0 210 rho σ [(2, (173 : Int)), (0, x1), (9, 0), (9, 0), (9, 0), (9, 0)] []
  refine ev_aload_n dX11_relief_0 rfl (by decide) ?_
  refine ev_iload_n dX11_relief_1 rfl ?_
  obtain ⟨v1, hc2, h⟩ := bind_of h
  refine ev_invV_v (k := (173 : Int)) (av := [(0, x1)]) (st := []) (v := (0, v1)) (τ := σ) dX11_relief_2 ml_X11_157 mv_X11_isCand (T := TX11) (ci := 10) rfl sp173 (by decide) (by decide) rfl ⟨Nat.le_of_ble_eq_true rfl, Nat.le_of_ble_eq_true rfl⟩ (Nat.le_of_ble_eq_true rfl) (c_X11_isCand hc2) ?_
  refine ev_if_ne (tgt := 15) dX11_relief_5 rfl h (fun cb h => ?_) (fun cb h => ?_)
  · refine ev_iconst dX11_relief_15 (by decide) ?_
    refine ev_istore_n dX11_relief_16 rfl (by decide) ?_
    show Ev _ _ _ _ 17 _ _ _ [(2, (173 : Int)), (0, x1), (0, (-1 : Int)), (9, 0), (9, 0), (9, 0)] _
    refine ev_sipush dX11_relief_17 (by decide) (by decide) ?_
    refine ev_istore_n dX11_relief_20 rfl (by decide) ?_
    show Ev _ _ _ _ 21 _ _ _ [(2, (173 : Int)), (0, x1), (0, (-1 : Int)), (0, (999 : Int)), (9, 0), (9, 0)] _
    refine ev_iconst dX11_relief_21 (by decide) ?_
    refine ev_istore dX11_relief_22 rfl (by decide) ?_
    show Ev _ _ _ _ 24 _ _ _ [(2, (173 : Int)), (0, x1), (0, (-1 : Int)), (0, (999 : Int)), (0, (0 : Int)), (9, 0)] _
    exact ev_sub (L2 := [(2, (173 : Int)), (0, x1), (0, (-1 : Int)), (0, (999 : Int)), (0, (0 : Int)), (9, 0)]) (e_X11_relief_24 σ x1 (-1 : Int) (999 : Int) (0 : Int) h) ⟨.inr rfl, .inr rfl, .inr rfl, .inr rfl, .inr rfl, .inl rfl, trivial⟩
  refine ev_aload_n dX11_relief_8 rfl (by decide) ?_
  refine ev_bipush dX11_relief_9 (by decide) (by decide) ?_
  obtain ⟨v3, hc4, h⟩ := bind_of h
  refine ev_invV_v (k := (173 : Int)) (av := [(0, (-52 : Int))]) (st := []) (v := (0, v3.1)) (τ := v3.2) dX11_relief_11 ml_X11_151 mv_X11_no (T := TX11) (ci := 10) rfl sp173 (by decide) (by decide) rfl ⟨Nat.le_of_ble_eq_true rfl, Nat.le_of_ble_eq_true rfl⟩ (Nat.le_of_ble_eq_true rfl) (c_X11_no hc4) ?_
  obtain rfl := Option.some.inj h
  dsimp only
  exact ev_iret dX11_relief_14 rfl rfl
def K_X11_retime_56 (x1 x2 x3 x4 x5 : Int) (r : Option V × Mem × Mem) : (Int × Int × Mem) ⊕ ((Int × Mem)) → Prop := Sum.elim (fun a => Ev M_X11_retime 210 210 r 56 210 rho a.2.2 [(2, (173 : Int)), (0, x1), (0, x2), (0, x3), (0, x4), (0, x5), (0, a.1), (0, a.2.1)] []) (fun e => Ev M_X11_retime 210 210 r 96 210 rho e.2 [(2, (173 : Int)), (0, x1), (0, x2), (0, x3), (0, x4), (0, x5), (0, e.1), (9, 0)] [])
def K_X11_retime_29 (x1 x2 : Int) (r : Option V × Mem × Mem) : (Int × Int × Int × Mem) ⊕ ((Int × Mem)) → Prop := Sum.elim (fun a => Ev M_X11_retime 210 210 r 29 210 rho a.2.2.2 [(2, (173 : Int)), (0, x1), (0, x2), (0, a.1), (0, a.2.1), (0, a.2.2.1), (9, 0), (9, 0)] []) (fun e => Ev M_X11_retime 210 210 r 135 210 rho e.2 [(2, (173 : Int)), (0, x1), (0, x2), (0, e.1), (9, 0), (9, 0), (9, 0), (9, 0)] [])
set_option maxHeartbeats 4000000 in
set_option maxRecDepth 20000 in
theorem e_X11_retime_127 (σ : Mem) (x1 x2 x3 x5 s0 : Int)  {q : ((Int × Int × Int × Mem) ⊕ ((Int × Mem)))} (h : f_X11_retime_127 σ x1 x2 x3 x5 s0 = some q) {r : Option V × Mem × Mem} (K : K_X11_retime_29 x1 x2 r q) : Ev M_X11_retime 210 210 r 127 210 rho σ [(2, (173 : Int)), (0, x1), (0, x2), (0, x3), (9, 0), (0, x5), (9, 0), (9, 0)] [(0, s0)] := by
  unfold f_X11_retime_127 at h
  refine ev_istore dX11_retime_127 rfl (by decide) ?_
  show Ev _ _ _ _ 129 _ _ _ [(2, (173 : Int)), (0, x1), (0, x2), (0, x3), (0, s0), (0, x5), (9, 0), (9, 0)] _
  refine ev_iincG dX11_retime_129 rfl h rfl (fun v15 h => ?_)
  show Ev _ _ _ _ 132 _ _ _ [(2, (173 : Int)), (0, x1), (0, x2), (0, x3), (0, s0), (0, v15), (9, 0), (9, 0)] _
  refine ev_goto (tgt := 29) dX11_retime_132 rfl ?_
  obtain rfl := Option.some.inj h
  exact ev_sub (L2 := [(2, (173 : Int)), (0, x1), (0, x2), (0, x3), (0, s0), (0, v15), (9, 0), (9, 0)]) K ⟨.inr rfl, .inr rfl, .inr rfl, .inr rfl, .inr rfl, .inr rfl, .inl rfl, .inl rfl, trivial⟩
set_option maxHeartbeats 4000000 in
set_option maxRecDepth 20000 in
theorem e_X11_retime_113 (σ : Mem) (x1 x2 x4 x5 x6 s0 : Int)  {q : ((Int × Int × Int × Mem) ⊕ ((Int × Mem)))} (h : f_X11_retime_113 σ x1 x2 x4 x5 x6 s0 = some q) {r : Option V × Mem × Mem} (K : K_X11_retime_29 x1 x2 r q) : Ev M_X11_retime 210 210 r 113 210 rho σ [(2, (173 : Int)), (0, x1), (0, x2), (9, 0), (0, x4), (0, x5), (0, x6), (9, 0)] [(0, s0)] := by
  unfold f_X11_retime_113 at h
  refine ev_istore_n dX11_retime_113 rfl (by decide) ?_
  show Ev _ _ _ _ 114 _ _ _ [(2, (173 : Int)), (0, x1), (0, x2), (0, s0), (0, x4), (0, x5), (0, x6), (9, 0)] _
  refine ev_iload_n dX11_retime_114 rfl ?_
  refine ev_iload dX11_retime_115 rfl ?_
  refine ev_icmp_ne (tgt := 125) dX11_retime_117 rfl h (fun cb h => ?_) (fun cb h => ?_)
  · refine ev_iload dX11_retime_125 rfl ?_
    exact ev_sub (L2 := [(2, (173 : Int)), (0, x1), (0, x2), (0, s0), (9, 0), (0, x5), (9, 0), (9, 0)]) (e_X11_retime_127 σ x1 x2 s0 x5 x4 h K) ⟨.inr rfl, .inr rfl, .inr rfl, .inr rfl, .inl rfl, .inr rfl, .inl rfl, .inl rfl, trivial⟩
  refine ev_iload dX11_retime_120 rfl ?_
  refine ev_goto (tgt := 127) dX11_retime_122 rfl ?_
  exact ev_sub (L2 := [(2, (173 : Int)), (0, x1), (0, x2), (0, s0), (9, 0), (0, x5), (9, 0), (9, 0)]) (e_X11_retime_127 σ x1 x2 s0 x5 x6 h K) ⟨.inr rfl, .inr rfl, .inr rfl, .inr rfl, .inl rfl, .inr rfl, .inl rfl, .inl rfl, trivial⟩
set_option maxHeartbeats 4000000 in
set_option maxRecDepth 20000 in
theorem e_X11_retime_107 (σ : Mem) (x1 x2 x4 x5 x6 : Int)  {q : ((Int × Int × Int × Mem) ⊕ ((Int × Mem)))} (h : f_X11_retime_107 σ x1 x2 x4 x5 x6 = some q) {r : Option V × Mem × Mem} (K : K_X11_retime_29 x1 x2 r q) : Ev M_X11_retime 210 210 r 107 210 rho σ [(2, (173 : Int)), (0, x1), (0, x2), (9, 0), (0, x4), (0, x5), (0, x6), (9, 0)] [] := by
  unfold f_X11_retime_107 at h
  refine ev_iload dX11_retime_107 rfl ?_
  refine ev_goto (tgt := 113) dX11_retime_109 rfl ?_
  exact ev_sub (L2 := [(2, (173 : Int)), (0, x1), (0, x2), (9, 0), (0, x4), (0, x5), (0, x6), (9, 0)]) (e_X11_retime_113 σ x1 x2 x4 x5 x6 x5 h K) ⟨.inr rfl, .inr rfl, .inr rfl, .inl rfl, .inr rfl, .inr rfl, .inr rfl, .inl rfl, trivial⟩
set_option maxHeartbeats 4000000 in
set_option maxRecDepth 20000 in
theorem e_X11_retime_96 (σ : Mem) (x1 x2 x3 x4 x5 x6 : Int)  {q : ((Int × Int × Int × Mem) ⊕ ((Int × Mem)))} (h : f_X11_retime_96 σ x1 x2 x3 x4 x5 x6 = some q) {r : Option V × Mem × Mem} (K : K_X11_retime_29 x1 x2 r q) : Ev M_X11_retime 210 210 r 96 210 rho σ [(2, (173 : Int)), (0, x1), (0, x2), (0, x3), (0, x4), (0, x5), (0, x6), (9, 0)] [] := by
  unfold f_X11_retime_96 at h
  refine ev_iload_n dX11_retime_96 rfl ?_
  refine ev_if_lt (tgt := 107) dX11_retime_97 rfl h (fun cb h => ?_) (fun cb h => ?_)
  · exact ev_sub (L2 := [(2, (173 : Int)), (0, x1), (0, x2), (9, 0), (0, x4), (0, x5), (0, x6), (9, 0)]) (e_X11_retime_107 σ x1 x2 x4 x5 x6 h K) ⟨.inr rfl, .inr rfl, .inr rfl, .inl rfl, .inr rfl, .inr rfl, .inr rfl, .inl rfl, trivial⟩
  refine ev_iload dX11_retime_100 rfl ?_
  refine ev_iload dX11_retime_102 rfl ?_
  refine ev_icmp_ge (tgt := 112) dX11_retime_104 rfl h (fun cb h => ?_) (fun cb h => ?_)
  · refine ev_iload_n dX11_retime_112 rfl ?_
    exact ev_sub (L2 := [(2, (173 : Int)), (0, x1), (0, x2), (9, 0), (0, x4), (0, x5), (0, x6), (9, 0)]) (e_X11_retime_113 σ x1 x2 x4 x5 x6 x3 h K) ⟨.inr rfl, .inr rfl, .inr rfl, .inl rfl, .inr rfl, .inr rfl, .inr rfl, .inl rfl, trivial⟩
  exact ev_sub (L2 := [(2, (173 : Int)), (0, x1), (0, x2), (9, 0), (0, x4), (0, x5), (0, x6), (9, 0)]) (e_X11_retime_107 σ x1 x2 x4 x5 x6 h K) ⟨.inr rfl, .inr rfl, .inr rfl, .inl rfl, .inr rfl, .inr rfl, .inr rfl, .inl rfl, trivial⟩
set_option maxHeartbeats 4000000 in
set_option maxRecDepth 20000 in
theorem b_X11_retime_56 (x1 x2 x3 x4 x5 : Int)  {r : Option V × Mem × Mem} : ∀ a x, f_X11_retime_56B x1 x2 x3 x4 x5 a = some x → K_X11_retime_56 x1 x2 x3 x4 x5 r x → K_X11_retime_56 x1 x2 x3 x4 x5 r (.inl a) := by
  intro a x h K
  obtain ⟨x6, x7, σ⟩ := a
  have h : f_X11_retime_56C x1 x2 x3 x4 x5 x6 x7 σ = some x := h
  unfold f_X11_retime_56C at h
  show Ev M_X11_retime 210 210 r 56 210 rho σ [(2, (173 : Int)), (0, x1), (0, x2), (0, x3), (0, x4), (0, x5), (0, x6), (0, x7)] []
  refine ev_iload dX11_retime_56 rfl ?_
  refine ev_aload_n dX11_retime_58 rfl (by decide) ?_
  refine ev_getf (j := 0) (t := 2) (x := (174 : Int)) dX11_retime_59 cf_X11 wf_X11_7 sp173 (by decide) (by decide) rfl (by decide) (rp173_0 _) ?_
  refine ev_bipush dX11_retime_62 (by decide) (by decide) ?_
  refine ev_iald dX11_retime_64 sp174 (by decide) (by decide) h (fun h => ?_)
  refine ev_icmp_ge (tgt := 96) dX11_retime_65 rfl h (fun cb h => ?_) (fun cb h => ?_)
  · obtain rfl := Option.some.inj h
    exact ev_sub (L2 := [(2, (173 : Int)), (0, x1), (0, x2), (0, x3), (0, x4), (0, x5), (0, x6), (9, 0)]) K ⟨.inr rfl, .inr rfl, .inr rfl, .inr rfl, .inr rfl, .inr rfl, .inr rfl, .inl rfl, trivial⟩
  refine ev_iload dX11_retime_68 rfl ?_
  refine ev_sipush dX11_retime_70 (by decide) (by decide) ?_
  refine ev_aload_n dX11_retime_73 rfl (by decide) ?_
  refine ev_iload dX11_retime_74 rfl ?_
  obtain ⟨v8, hc9, h⟩ := bind_of h
  refine ev_invV_v (k := (173 : Int)) (av := [(0, x7)]) (st := [(0, (10000 : Int)), (0, x6)]) (v := (0, v8.1)) (τ := v8.2) dX11_retime_76 ml_X11_297 mv_X11_cants (T := TX11) (ci := 10) rfl sp173 (by decide) (by decide) rfl ⟨Nat.le_of_ble_eq_true rfl, Nat.le_of_ble_eq_true rfl⟩ (Nat.le_of_ble_eq_true rfl) (c_X11_cants hc9) ?_
  refine ev_imul dX11_retime_79 ?_
  refine ev_aload_n dX11_retime_80 rfl (by decide) ?_
  refine ev_iload dX11_retime_81 rfl ?_
  obtain ⟨v10, hc11, h⟩ := bind_of h
  refine ev_invV_v (k := (173 : Int)) (av := [(0, x7)]) (st := [(0, (jmul (10000 : Int) v8.1)), (0, x6)]) (v := (0, v10.1)) (τ := v10.2) dX11_retime_83 ml_X11_362 mv_X11_keptInAll (T := TX11) (ci := 10) rfl sp173 (by decide) (by decide) rfl ⟨Nat.le_of_ble_eq_true rfl, Nat.le_of_ble_eq_true rfl⟩ (Nat.le_of_ble_eq_true rfl) (c_X11_keptInAll hc11) ?_
  refine ev_iadd dX11_retime_86 ?_
  refine ev_iadd dX11_retime_87 ?_
  show Ev _ _ _ _ 88 _ _ _ _ _
  refine ev_istoreG dX11_retime_88 h rfl (by decide) (fun v12 h => ?_)
  show Ev _ _ _ _ 90 _ _ _ [(2, (173 : Int)), (0, x1), (0, x2), (0, x3), (0, x4), (0, x5), (0, v12), (0, x7)] _
  refine ev_iincG dX11_retime_90 rfl h rfl (fun v13 h => ?_)
  show Ev _ _ _ _ 93 _ _ _ [(2, (173 : Int)), (0, x1), (0, x2), (0, x3), (0, x4), (0, x5), (0, v12), (0, v13)] _
  refine ev_goto (tgt := 56) dX11_retime_93 rfl ?_
  obtain rfl := Option.some.inj h
  exact ev_sub (L2 := [(2, (173 : Int)), (0, x1), (0, x2), (0, x3), (0, x4), (0, x5), (0, v12), (0, v13)]) K ⟨.inr rfl, .inr rfl, .inr rfl, .inr rfl, .inr rfl, .inr rfl, .inr rfl, .inr rfl, trivial⟩
set_option maxHeartbeats 4000000 in
set_option maxRecDepth 20000 in
theorem e_X11_retime_56 (σ : Mem) (x1 x2 x3 x4 x5 x6 x7 : Int)  {q : ((Int × Int × Int × Mem) ⊕ ((Int × Mem)))} (h : f_X11_retime_56 σ x1 x2 x3 x4 x5 x6 x7 = some q) {r : Option V × Mem × Mem} (K : K_X11_retime_29 x1 x2 r q) : Ev M_X11_retime 210 210 r 56 210 rho σ [(2, (173 : Int)), (0, x1), (0, x2), (0, x3), (0, x4), (0, x5), (0, x6), (0, x7)] [] := by
  unfold f_X11_retime_56 at h
  obtain ⟨e, hl, h⟩ := bind_of h
  refine loop_ev (K := K_X11_retime_56 x1 x2 x3 x4 x5 r) (b_X11_retime_56 x1 x2 x3 x4 x5) FU (x6, x7, σ) e hl ?_
  show Ev M_X11_retime 210 210 r 96 210 rho e.2 [(2, (173 : Int)), (0, x1), (0, x2), (0, x3), (0, x4), (0, x5), (0, e.1), (9, 0)] []
  replace h : f_X11_retime_96 e.2 x1 x2 x3 x4 x5 e.1 = some q := h
  exact ev_sub (L2 := [(2, (173 : Int)), (0, x1), (0, x2), (0, x3), (0, x4), (0, x5), (0, e.1), (9, 0)]) (e_X11_retime_96 e.2 x1 x2 x3 x4 x5 e.1 h K) ⟨.inr rfl, .inr rfl, .inr rfl, .inr rfl, .inr rfl, .inr rfl, .inr rfl, .inl rfl, trivial⟩
set_option maxHeartbeats 4000000 in
set_option maxRecDepth 20000 in
theorem e_X11_retime_135 (σ : Mem) (x1 x2 x3 : Int)  {q : (Int × Mem)} (h : f_X11_retime_135 σ x1 x2 x3 = some q) : Ev M_X11_retime 210 210 (some (0, q.1), rho, q.2) 135 210 rho σ [(2, (173 : Int)), (0, x1), (0, x2), (0, x3), (9, 0), (9, 0), (9, 0), (9, 0)] [] := by
  unfold f_X11_retime_135 at h
  refine ev_aload_n dX11_retime_135 rfl (by decide) ?_
  refine ev_getf (j := 0) (t := 2) (x := (174 : Int)) dX11_retime_136 cf_X11 wf_X11_7 sp173 (by decide) (by decide) rfl (by decide) (rp173_0 _) ?_
  refine ev_iconst dX11_retime_139 (by decide) ?_
  refine ev_iconst dX11_retime_140 (by decide) ?_
  refine ev_iload_n dX11_retime_141 rfl ?_
  refine ev_imul dX11_retime_142 ?_
  refine ev_iadd dX11_retime_143 ?_
  refine ev_iconst dX11_retime_144 (by decide) ?_
  refine ev_iadd dX11_retime_145 ?_
  refine ev_iload_n dX11_retime_146 rfl ?_
  refine ev_iastG dX11_retime_147 sp174 (by decide) (by decide) h (fun σ14 h => ?_)
  show Ev _ _ _ _ 148 _ _ _ _ _
  refine ev_iload_n dX11_retime_148 rfl ?_
  obtain rfl := Option.some.inj h
  dsimp only
  exact ev_iret dX11_retime_149 rfl rfl
set_option maxHeartbeats 4000000 in
set_option maxRecDepth 20000 in
theorem b_X11_retime_29 (x1 x2 : Int)  {r : Option V × Mem × Mem} : ∀ a x, f_X11_retime_29B x1 x2 a = some x → K_X11_retime_29 x1 x2 r x → K_X11_retime_29 x1 x2 r (.inl a) := by
  intro a x h K
  obtain ⟨x3, x4, x5, σ⟩ := a
  have h : f_X11_retime_29C x1 x2 x3 x4 x5 σ = some x := h
  unfold f_X11_retime_29C at h
  show Ev M_X11_retime 210 210 r 29 210 rho σ [(2, (173 : Int)), (0, x1), (0, x2), (0, x3), (0, x4), (0, x5), (9, 0), (9, 0)] []
  refine ev_iload dX11_retime_29 rfl ?_
  refine ev_bipush dX11_retime_31 (by decide) (by decide) ?_
  refine ev_icmp_ge (tgt := 135) dX11_retime_33 rfl h (fun cb h => ?_) (fun cb h => ?_)
  · obtain rfl := Option.some.inj h
    exact ev_sub (L2 := [(2, (173 : Int)), (0, x1), (0, x2), (0, x3), (9, 0), (9, 0), (9, 0), (9, 0)]) K ⟨.inr rfl, .inr rfl, .inr rfl, .inr rfl, .inl rfl, .inl rfl, .inl rfl, .inl rfl, trivial⟩
  refine ev_aload_n dX11_retime_36 rfl (by decide) ?_
  refine ev_getf (j := 0) (t := 2) (x := (174 : Int)) dX11_retime_37 cf_X11 wf_X11_7 sp173 (by decide) (by decide) rfl (by decide) (rp173_0 _) ?_
  refine ev_iconst dX11_retime_40 (by decide) ?_
  refine ev_iconst dX11_retime_41 (by decide) ?_
  refine ev_iload_n dX11_retime_42 rfl ?_
  refine ev_imul dX11_retime_43 ?_
  refine ev_iadd dX11_retime_44 ?_
  refine ev_iconst dX11_retime_45 (by decide) ?_
  refine ev_iadd dX11_retime_46 ?_
  refine ev_iload dX11_retime_47 rfl ?_
  refine ev_iastG dX11_retime_49 sp174 (by decide) (by decide) h (fun σ7 h => ?_)
  show Ev _ _ _ _ 50 _ _ _ _ _
  refine ev_iconst dX11_retime_50 (by decide) ?_
  refine ev_istore dX11_retime_51 rfl (by decide) ?_
  show Ev _ _ _ _ 53 _ _ _ [(2, (173 : Int)), (0, x1), (0, x2), (0, x3), (0, x4), (0, x5), (0, (0 : Int)), (9, 0)] _
  refine ev_iconst dX11_retime_53 (by decide) ?_
  refine ev_istore dX11_retime_54 rfl (by decide) ?_
  show Ev _ _ _ _ 56 _ _ _ [(2, (173 : Int)), (0, x1), (0, x2), (0, x3), (0, x4), (0, x5), (0, (0 : Int)), (0, (0 : Int))] _
  exact ev_sub (L2 := [(2, (173 : Int)), (0, x1), (0, x2), (0, x3), (0, x4), (0, x5), (0, (0 : Int)), (0, (0 : Int))]) (e_X11_retime_56 σ7 x1 x2 x3 x4 x5 (0 : Int) (0 : Int) h K) ⟨.inr rfl, .inr rfl, .inr rfl, .inr rfl, .inr rfl, .inr rfl, .inr rfl, .inr rfl, trivial⟩
set_option maxHeartbeats 4000000 in
set_option maxRecDepth 20000 in
theorem e_X11_retime_29 (σ : Mem) (x1 x2 x3 x4 x5 : Int)  {q : (Int × Mem)} (h : f_X11_retime_29 σ x1 x2 x3 x4 x5 = some q) : Ev M_X11_retime 210 210 (some (0, q.1), rho, q.2) 29 210 rho σ [(2, (173 : Int)), (0, x1), (0, x2), (0, x3), (0, x4), (0, x5), (9, 0), (9, 0)] [] := by
  unfold f_X11_retime_29 at h
  obtain ⟨e, hl, h⟩ := bind_of h
  refine loop_ev (K := K_X11_retime_29 x1 x2 (some (0, q.1), rho, q.2)) (b_X11_retime_29 x1 x2) FU (x3, x4, x5, σ) e hl ?_
  show Ev M_X11_retime 210 210 _ 135 210 rho e.2 [(2, (173 : Int)), (0, x1), (0, x2), (0, e.1), (9, 0), (9, 0), (9, 0), (9, 0)] []
  replace h : f_X11_retime_135 e.2 x1 x2 e.1 = some q := h
  exact ev_sub (L2 := [(2, (173 : Int)), (0, x1), (0, x2), (0, e.1), (9, 0), (9, 0), (9, 0), (9, 0)]) (e_X11_retime_135 e.2 x1 x2 e.1 h) ⟨.inr rfl, .inr rfl, .inr rfl, .inr rfl, .inl rfl, .inl rfl, .inl rfl, .inl rfl, trivial⟩
set_option maxHeartbeats 4000000 in
set_option maxRecDepth 20000 in
theorem c_X11_retime {σ : Mem} {x1 : Int}  {q : (Int × Mem)} (h : f_X11_retime σ x1 = some q) : Ms yX11_retime M_X11_retime 210 210 [(2, (173 : Int)), (0, x1)] rho σ (some (0, q.1), rho, q.2) := by
  refine Ms.of 6 (by decide +kernel) rfl (fun z => absurd z (by decide)) (fun _ _ _ => trivial) rfl rfl ?_
  unfold f_X11_retime at h
  show Ev M_X11_retime 210 210 _ 0 210 rho σ [(2, (173 : Int)), (0, x1), (9, 0), (9, 0), (9, 0), (9, 0), (9, 0), (9, 0)] []
  refine ev_aload_n dX11_retime_0 rfl (by decide) ?_
  refine ev_iload_n dX11_retime_1 rfl ?_
  obtain ⟨v1, hc2, h⟩ := bind_of h
  refine ev_invV_v (k := (173 : Int)) (av := [(0, x1)]) (st := []) (v := (0, v1)) (τ := σ) dX11_retime_2 ml_X11_174 mv_X11_isPaper (T := TX11) (ci := 10) rfl sp173 (by decide) (by decide) rfl ⟨Nat.le_of_ble_eq_true rfl, Nat.le_of_ble_eq_true rfl⟩ (Nat.le_of_ble_eq_true rfl) (c_X11_isPaper hc2) ?_
  refine ev_if_ne (tgt := 15) dX11_retime_5 rfl h (fun cb h => ?_) (fun cb h => ?_)
  · refine ev_aload_n dX11_retime_15 rfl (by decide) ?_
    refine ev_iload_n dX11_retime_16 rfl ?_
    obtain ⟨v3, hc4, h⟩ := bind_of h
    refine ev_invV_v (k := (173 : Int)) (av := [(0, x1)]) (st := []) (v := (0, v3)) (τ := σ) dX11_retime_17 ml_X11_255 mv_X11_start (T := TX11) (ci := 10) rfl sp173 (by decide) (by decide) rfl ⟨Nat.le_of_ble_eq_true rfl, Nat.le_of_ble_eq_true rfl⟩ (Nat.le_of_ble_eq_true rfl) (c_X11_start hc4) ?_
    refine ev_istore_n dX11_retime_20 rfl (by decide) ?_
    show Ev _ _ _ _ 21 _ _ _ [(2, (173 : Int)), (0, x1), (0, v3), (9, 0), (9, 0), (9, 0), (9, 0), (9, 0)] _
    refine ev_iconst dX11_retime_21 (by decide) ?_
    refine ev_istore_n dX11_retime_22 rfl (by decide) ?_
    show Ev _ _ _ _ 23 _ _ _ [(2, (173 : Int)), (0, x1), (0, v3), (0, (-1 : Int)), (9, 0), (9, 0), (9, 0), (9, 0)] _
    refine ev_iconst dX11_retime_23 (by decide) ?_
    refine ev_istore dX11_retime_24 rfl (by decide) ?_
    show Ev _ _ _ _ 26 _ _ _ [(2, (173 : Int)), (0, x1), (0, v3), (0, (-1 : Int)), (0, (0 : Int)), (9, 0), (9, 0), (9, 0)] _
    refine ev_iconst dX11_retime_26 (by decide) ?_
    refine ev_istore dX11_retime_27 rfl (by decide) ?_
    show Ev _ _ _ _ 29 _ _ _ [(2, (173 : Int)), (0, x1), (0, v3), (0, (-1 : Int)), (0, (0 : Int)), (0, (0 : Int)), (9, 0), (9, 0)] _
    exact ev_sub (L2 := [(2, (173 : Int)), (0, x1), (0, v3), (0, (-1 : Int)), (0, (0 : Int)), (0, (0 : Int)), (9, 0), (9, 0)]) (e_X11_retime_29 σ x1 v3 (-1 : Int) (0 : Int) (0 : Int) h) ⟨.inr rfl, .inr rfl, .inr rfl, .inr rfl, .inr rfl, .inr rfl, .inl rfl, .inl rfl, trivial⟩
  refine ev_aload_n dX11_retime_8 rfl (by decide) ?_
  refine ev_bipush dX11_retime_9 (by decide) (by decide) ?_
  obtain ⟨v5, hc6, h⟩ := bind_of h
  refine ev_invV_v (k := (173 : Int)) (av := [(0, (-52 : Int))]) (st := []) (v := (0, v5.1)) (τ := v5.2) dX11_retime_11 ml_X11_151 mv_X11_no (T := TX11) (ci := 10) rfl sp173 (by decide) (by decide) rfl ⟨Nat.le_of_ble_eq_true rfl, Nat.le_of_ble_eq_true rfl⟩ (Nat.le_of_ble_eq_true rfl) (c_X11_no hc6) ?_
  obtain rfl := Option.some.inj h
  dsimp only
  exact ev_iret dX11_retime_14 rfl rfl
def K_X11_hoursFor_29 (x1 x2 : Int) (r : Option V × Mem × Mem) : (Int × Int × Mem) ⊕ ((Int × Mem)) → Prop := Sum.elim (fun a => Ev M_X11_hoursFor 210 210 r 29 210 rho a.2.2 [(2, (173 : Int)), (0, x1), (0, x2), (0, a.1), (0, a.2.1)] []) (fun e => Ev M_X11_hoursFor 210 210 r 70 210 rho e.2 [(2, (173 : Int)), (9, 0), (0, x2), (0, e.1), (9, 0)] [])
set_option maxHeartbeats 4000000 in
set_option maxRecDepth 20000 in
theorem e_X11_hoursFor_63 (σ : Mem) (x1 x2 x4 s0 : Int)  {q : ((Int × Int × Mem) ⊕ ((Int × Mem)))} (h : f_X11_hoursFor_63 σ x1 x2 x4 s0 = some q) {r : Option V × Mem × Mem} (K : K_X11_hoursFor_29 x1 x2 r q) : Ev M_X11_hoursFor 210 210 r 63 210 rho σ [(2, (173 : Int)), (0, x1), (0, x2), (9, 0), (0, x4)] [(0, s0)] := by
  unfold f_X11_hoursFor_63 at h
  refine ev_istore_n dX11_hoursFor_63 rfl (by decide) ?_
  show Ev _ _ _ _ 64 _ _ _ [(2, (173 : Int)), (0, x1), (0, x2), (0, s0), (0, x4)] _
  refine ev_iincG dX11_hoursFor_64 rfl h rfl (fun v9 h => ?_)
  show Ev _ _ _ _ 67 _ _ _ [(2, (173 : Int)), (0, x1), (0, x2), (0, s0), (0, v9)] _
  refine ev_goto (tgt := 29) dX11_hoursFor_67 rfl ?_
  obtain rfl := Option.some.inj h
  exact ev_sub (L2 := [(2, (173 : Int)), (0, x1), (0, x2), (0, s0), (0, v9)]) K ⟨.inr rfl, .inr rfl, .inr rfl, .inr rfl, .inr rfl, trivial⟩
set_option maxHeartbeats 4000000 in
set_option maxRecDepth 20000 in
theorem e_X11_hoursFor_70 (σ : Mem) (x2 x3 : Int)  {q : (Int × Mem)} (h : f_X11_hoursFor_70 σ x2 x3 = some q) : Ev M_X11_hoursFor 210 210 (some (0, q.1), rho, q.2) 70 210 rho σ [(2, (173 : Int)), (9, 0), (0, x2), (0, x3), (9, 0)] [] := by
  unfold f_X11_hoursFor_70 at h
  refine ev_aload_n dX11_hoursFor_70 rfl (by decide) ?_
  refine ev_getf (j := 0) (t := 2) (x := (174 : Int)) dX11_hoursFor_71 cf_X11 wf_X11_7 sp173 (by decide) (by decide) rfl (by decide) (rp173_0 _) ?_
  refine ev_bipush dX11_hoursFor_74 (by decide) (by decide) ?_
  refine ev_iload_n dX11_hoursFor_76 rfl ?_
  refine ev_iastG dX11_hoursFor_77 sp174 (by decide) (by decide) h (fun σ10 h => ?_)
  refine ev_iload_n dX11_hoursFor_78 rfl ?_
  obtain rfl := Option.some.inj h
  dsimp only
  exact ev_iret dX11_hoursFor_79 rfl rfl
set_option maxHeartbeats 4000000 in
set_option maxRecDepth 20000 in
theorem b_X11_hoursFor_29 (x1 x2 : Int)  {r : Option V × Mem × Mem} : ∀ a x, f_X11_hoursFor_29B x1 x2 a = some x → K_X11_hoursFor_29 x1 x2 r x → K_X11_hoursFor_29 x1 x2 r (.inl a) := by
  intro a x h K
  obtain ⟨x3, x4, σ⟩ := a
  have h : f_X11_hoursFor_29C x1 x2 x3 x4 σ = some x := h
  unfold f_X11_hoursFor_29C at h
  show Ev M_X11_hoursFor 210 210 r 29 210 rho σ [(2, (173 : Int)), (0, x1), (0, x2), (0, x3), (0, x4)] []
  refine ev_iload dX11_hoursFor_29 rfl ?_
  refine ev_bipush dX11_hoursFor_31 (by decide) (by decide) ?_
  refine ev_icmp_gt (tgt := 70) dX11_hoursFor_33 rfl h (fun cb h => ?_) (fun cb h => ?_)
  · obtain rfl := Option.some.inj h
    exact ev_sub (L2 := [(2, (173 : Int)), (9, 0), (0, x2), (0, x3), (9, 0)]) K ⟨.inr rfl, .inl rfl, .inr rfl, .inr rfl, .inl rfl, trivial⟩
  refine ev_iload_n dX11_hoursFor_36 rfl ?_
  refine ev_if_ge (tgt := 70) dX11_hoursFor_37 rfl h (fun cb h => ?_) (fun cb h => ?_)
  · obtain rfl := Option.some.inj h
    exact ev_sub (L2 := [(2, (173 : Int)), (9, 0), (0, x2), (0, x3), (9, 0)]) K ⟨.inr rfl, .inl rfl, .inr rfl, .inr rfl, .inl rfl, trivial⟩
  refine ev_aload_n dX11_hoursFor_40 rfl (by decide) ?_
  refine ev_getf (j := 0) (t := 2) (x := (174 : Int)) dX11_hoursFor_41 cf_X11 wf_X11_7 sp173 (by decide) (by decide) rfl (by decide) (rp173_0 _) ?_
  refine ev_bipush dX11_hoursFor_44 (by decide) (by decide) ?_
  refine ev_iload dX11_hoursFor_46 rfl ?_
  refine ev_iastG dX11_hoursFor_48 sp174 (by decide) (by decide) h (fun σ6 h => ?_)
  refine ev_aload_n dX11_hoursFor_49 rfl (by decide) ?_
  refine ev_iload_n dX11_hoursFor_50 rfl ?_
  obtain ⟨v7, hc8, h⟩ := bind_of h
  refine ev_invV_v (k := (173 : Int)) (av := [(0, x1)]) (st := []) (v := (0, v7.1)) (τ := v7.2) dX11_hoursFor_51 ml_X11_297 mv_X11_cants (T := TX11) (ci := 10) rfl sp173 (by decide) (by decide) rfl ⟨Nat.le_of_ble_eq_true rfl, Nat.le_of_ble_eq_true rfl⟩ (Nat.le_of_ble_eq_true rfl) (c_X11_cants hc8) ?_
  refine ev_if_ne (tgt := 62) dX11_hoursFor_54 rfl h (fun cb h => ?_) (fun cb h => ?_)
  · refine ev_iconst dX11_hoursFor_62 (by decide) ?_
    exact ev_sub (L2 := [(2, (173 : Int)), (0, x1), (0, x2), (9, 0), (0, x4)]) (e_X11_hoursFor_63 v7.2 x1 x2 x4 (-1 : Int) h K) ⟨.inr rfl, .inr rfl, .inr rfl, .inl rfl, .inr rfl, trivial⟩
  refine ev_iload dX11_hoursFor_57 rfl ?_
  refine ev_goto (tgt := 63) dX11_hoursFor_59 rfl ?_
  exact ev_sub (L2 := [(2, (173 : Int)), (0, x1), (0, x2), (9, 0), (0, x4)]) (e_X11_hoursFor_63 v7.2 x1 x2 x4 x4 h K) ⟨.inr rfl, .inr rfl, .inr rfl, .inl rfl, .inr rfl, trivial⟩
set_option maxHeartbeats 4000000 in
set_option maxRecDepth 20000 in
theorem e_X11_hoursFor_29 (σ : Mem) (x1 x2 x3 x4 : Int)  {q : (Int × Mem)} (h : f_X11_hoursFor_29 σ x1 x2 x3 x4 = some q) : Ev M_X11_hoursFor 210 210 (some (0, q.1), rho, q.2) 29 210 rho σ [(2, (173 : Int)), (0, x1), (0, x2), (0, x3), (0, x4)] [] := by
  unfold f_X11_hoursFor_29 at h
  obtain ⟨e, hl, h⟩ := bind_of h
  refine loop_ev (K := K_X11_hoursFor_29 x1 x2 (some (0, q.1), rho, q.2)) (b_X11_hoursFor_29 x1 x2) FU (x3, x4, σ) e hl ?_
  show Ev M_X11_hoursFor 210 210 _ 70 210 rho e.2 [(2, (173 : Int)), (9, 0), (0, x2), (0, e.1), (9, 0)] []
  replace h : f_X11_hoursFor_70 e.2 x2 e.1 = some q := h
  exact ev_sub (L2 := [(2, (173 : Int)), (9, 0), (0, x2), (0, e.1), (9, 0)]) (e_X11_hoursFor_70 e.2 x2 e.1 h) ⟨.inr rfl, .inl rfl, .inr rfl, .inr rfl, .inl rfl, trivial⟩
set_option maxHeartbeats 4000000 in
set_option maxRecDepth 20000 in
theorem c_X11_hoursFor {σ : Mem} {x1 : Int}  {q : (Int × Mem)} (h : f_X11_hoursFor σ x1 = some q) : Ms yX11_hoursFor M_X11_hoursFor 210 210 [(2, (173 : Int)), (0, x1)] rho σ (some (0, q.1), rho, q.2) := by
  refine Ms.of 3 (by decide +kernel) rfl (fun z => absurd z (by decide)) (fun _ _ _ => trivial) rfl rfl ?_
  unfold f_X11_hoursFor at h
  show Ev M_X11_hoursFor 210 210 _ 0 210 rho σ [(2, (173 : Int)), (0, x1), (9, 0), (9, 0), (9, 0)] []
  refine ev_aload_n dX11_hoursFor_0 rfl (by decide) ?_
  refine ev_iload_n dX11_hoursFor_1 rfl ?_
  obtain ⟨v1, hc2, h⟩ := bind_of h
  refine ev_invV_v (k := (173 : Int)) (av := [(0, x1)]) (st := []) (v := (0, v1)) (τ := σ) dX11_hoursFor_2 ml_X11_157 mv_X11_isCand (T := TX11) (ci := 10) rfl sp173 (by decide) (by decide) rfl ⟨Nat.le_of_ble_eq_true rfl, Nat.le_of_ble_eq_true rfl⟩ (Nat.le_of_ble_eq_true rfl) (c_X11_isCand hc2) ?_
  refine ev_if_ne (tgt := 15) dX11_hoursFor_5 rfl h (fun cb h => ?_) (fun cb h => ?_)
  · refine ev_aload_n dX11_hoursFor_15 rfl (by decide) ?_
    refine ev_getf (j := 0) (t := 2) (x := (174 : Int)) dX11_hoursFor_16 cf_X11 wf_X11_7 sp173 (by decide) (by decide) rfl (by decide) (rp173_0 _) ?_
    refine ev_bipush dX11_hoursFor_19 (by decide) (by decide) ?_
    refine ev_iald dX11_hoursFor_21 sp174 (by decide) (by decide) h (fun h => ?_)
    refine ev_istore_nG dX11_hoursFor_22 h rfl (by decide) (fun v3 h => ?_)
    show Ev _ _ _ _ 23 _ _ _ [(2, (173 : Int)), (0, x1), (0, v3), (9, 0), (9, 0)] _
    refine ev_iconst dX11_hoursFor_23 (by decide) ?_
    refine ev_istore_n dX11_hoursFor_24 rfl (by decide) ?_
    show Ev _ _ _ _ 25 _ _ _ [(2, (173 : Int)), (0, x1), (0, v3), (0, (-1 : Int)), (9, 0)] _
    refine ev_bipush dX11_hoursFor_25 (by decide) (by decide) ?_
    refine ev_istore dX11_hoursFor_27 rfl (by decide) ?_
    show Ev _ _ _ _ 29 _ _ _ [(2, (173 : Int)), (0, x1), (0, v3), (0, (-1 : Int)), (0, (8 : Int))] _
    exact ev_sub (L2 := [(2, (173 : Int)), (0, x1), (0, v3), (0, (-1 : Int)), (0, (8 : Int))]) (e_X11_hoursFor_29 σ x1 v3 (-1 : Int) (8 : Int) h) ⟨.inr rfl, .inr rfl, .inr rfl, .inr rfl, .inr rfl, trivial⟩
  refine ev_aload_n dX11_hoursFor_8 rfl (by decide) ?_
  refine ev_bipush dX11_hoursFor_9 (by decide) (by decide) ?_
  obtain ⟨v4, hc5, h⟩ := bind_of h
  refine ev_invV_v (k := (173 : Int)) (av := [(0, (-52 : Int))]) (st := []) (v := (0, v4.1)) (τ := v4.2) dX11_hoursFor_11 ml_X11_151 mv_X11_no (T := TX11) (ci := 10) rfl sp173 (by decide) (by decide) rfl ⟨Nat.le_of_ble_eq_true rfl, Nat.le_of_ble_eq_true rfl⟩ (Nat.le_of_ble_eq_true rfl) (c_X11_no hc5) ?_
  obtain rfl := Option.some.inj h
  dsimp only
  exact ev_iret dX11_hoursFor_14 rfl rfl
set_option maxHeartbeats 4000000 in
set_option maxRecDepth 20000 in
theorem c_X11_wrongShelf {σ : Mem} {x1 x2 : Int}  {q : Int} (h : f_X11_wrongShelf σ x1 x2 = some q) : Ms yX11_wrongShelf M_X11_wrongShelf 210 210 [(2, (173 : Int)), (0, x1), (0, x2)] rho σ (some (0, q), rho, σ) := by
  refine Ms.of 0 (by decide +kernel) rfl (fun z => absurd z (by decide)) (fun _ _ _ => trivial) rfl rfl ?_
  unfold f_X11_wrongShelf at h
  show Ev M_X11_wrongShelf 210 210 _ 0 210 rho σ [(2, (173 : Int)), (0, x1), (0, x2)] []
  refine ev_aload_n dX11_wrongShelf_0 rfl (by decide) ?_
  refine ev_getf (j := 4) (t := 2) (x := (177 : Int)) dX11_wrongShelf_1 cf_X11 wf_X11_19 sp173 (by decide) (by decide) rfl (by decide) (rp173_4 _) ?_
  refine ev_iload_n dX11_wrongShelf_4 rfl ?_
  refine ev_iald dX11_wrongShelf_5 sp177 (by decide) (by decide) h (fun h => ?_)
  refine ev_bipush dX11_wrongShelf_6 (by decide) (by decide) ?_
  refine ev_icmp_lt (tgt := 16) dX11_wrongShelf_8 rfl h (fun cb h => ?_) (fun cb h => ?_)
  · refine ev_aload_n dX11_wrongShelf_16 rfl (by decide) ?_
    refine ev_getf (j := 4) (t := 2) (x := (177 : Int)) dX11_wrongShelf_17 cf_X11 wf_X11_19 sp173 (by decide) (by decide) rfl (by decide) (rp173_4 _) ?_
    refine ev_iload_n dX11_wrongShelf_20 rfl ?_
    refine ev_iald dX11_wrongShelf_21 sp177 (by decide) (by decide) h (fun h => ?_)
    refine ev_if_ge (tgt := 30) dX11_wrongShelf_22 rfl h (fun cb h => ?_) (fun cb h => ?_)
    · refine ev_aload_n dX11_wrongShelf_30 rfl (by decide) ?_
      refine ev_getf (j := 5) (t := 2) (x := (178 : Int)) dX11_wrongShelf_31 cf_X11 wf_X11_22 sp173 (by decide) (by decide) rfl (by decide) (rp173_5 _) ?_
      refine ev_iload_n dX11_wrongShelf_34 rfl ?_
      refine ev_iald dX11_wrongShelf_35 sp178 (by decide) (by decide) h (fun h => ?_)
      refine ev_iload_n dX11_wrongShelf_36 rfl ?_
      refine ev_icmp_ge (tgt := 45) dX11_wrongShelf_37 rfl h (fun cb h => ?_) (fun cb h => ?_)
      · refine ev_iconst dX11_wrongShelf_45 (by decide) ?_
        obtain rfl := Option.some.inj h
        exact ev_iret dX11_wrongShelf_46 rfl rfl
      refine ev_bipush dX11_wrongShelf_40 (by decide) (by decide) ?_
      refine ev_goto (tgt := 46) dX11_wrongShelf_42 rfl ?_
      obtain rfl := Option.some.inj h
      exact ev_iret dX11_wrongShelf_46 rfl rfl
    refine ev_bipush dX11_wrongShelf_25 (by decide) (by decide) ?_
    refine ev_goto (tgt := 46) dX11_wrongShelf_27 rfl ?_
    obtain rfl := Option.some.inj h
    exact ev_iret dX11_wrongShelf_46 rfl rfl
  refine ev_bipush dX11_wrongShelf_11 (by decide) (by decide) ?_
  refine ev_goto (tgt := 46) dX11_wrongShelf_13 rfl ?_
  obtain rfl := Option.some.inj h
  exact ev_iret dX11_wrongShelf_46 rfl rfl
def K_X11_kinds_122 (σ : Mem) (x1 x2 x3 x6 x7 x8 : Int) (r : Option V × Mem × Mem) : (Int × Int) ⊕ ((Int)) → Prop := Sum.elim (fun a => Ev M_X11_kinds 210 210 r 122 210 rho σ [(2, (173 : Int)), (0, x1), (0, x2), (0, x3), (9, 0), (0, a.1), (0, x6), (0, x7), (1, x8), (9, 0), (0, a.2), (9, 0)] []) (fun e => Ev M_X11_kinds 210 210 r 207 210 rho σ [(2, (173 : Int)), (0, x1), (0, x2), (0, x3), (9, 0), (0, e), (0, x6), (0, x7), (9, 0), (9, 0), (9, 0), (9, 0)] [])
def K_X11_kinds_66 (σ : Mem) (x1 x2 x3 : Int) (r : Option V × Mem × Mem) : (Int × Int × Int) ⊕ ((Int × Int)) → Prop := Sum.elim (fun a => Ev M_X11_kinds 210 210 r 66 210 rho σ [(2, (173 : Int)), (0, x1), (0, x2), (0, x3), (9, 0), (0, a.1), (0, a.2.1), (0, a.2.2), (9, 0), (9, 0), (9, 0), (9, 0)] []) (fun e => Ev M_X11_kinds 210 210 r 213 210 rho σ [(2, (173 : Int)), (9, 0), (9, 0), (9, 0), (9, 0), (0, e.1), (0, e.2), (9, 0), (9, 0), (9, 0), (9, 0), (9, 0)] [])
set_option maxHeartbeats 4000000 in
set_option maxRecDepth 20000 in
theorem e_X11_kinds_27 (σ : Mem)  {q : (Int × Mem)} (h : f_X11_kinds_27 σ  = some q) : Ev M_X11_kinds 210 210 (some (0, q.1), rho, q.2) 27 210 rho σ [(2, (173 : Int)), (9, 0), (9, 0), (9, 0), (9, 0), (9, 0), (9, 0), (9, 0), (9, 0), (9, 0), (9, 0), (9, 0)] [] := by
  unfold f_X11_kinds_27 at h
  refine ev_aload_n dX11_kinds_27 rfl (by decide) ?_
  refine ev_bipush dX11_kinds_28 (by decide) (by decide) ?_
  obtain ⟨v11, hc12, h⟩ := bind_of h
  refine ev_invV_v (k := (173 : Int)) (av := [(0, (-52 : Int))]) (st := []) (v := (0, v11.1)) (τ := v11.2) dX11_kinds_30 ml_X11_151 mv_X11_no (T := TX11) (ci := 10) rfl sp173 (by decide) (by decide) rfl ⟨Nat.le_of_ble_eq_true rfl, Nat.le_of_ble_eq_true rfl⟩ (Nat.le_of_ble_eq_true rfl) (c_X11_no hc12) ?_
  obtain rfl := Option.some.inj h
  dsimp only
  exact ev_iret dX11_kinds_33 rfl rfl
set_option maxHeartbeats 4000000 in
set_option maxRecDepth 20000 in
theorem e_X11_kinds_199 (σ : Mem) (x1 x2 x3 x6 x7 x8 x10 s0 : Int)  {q : ((Int × Int) ⊕ ((Int)))} (h : f_X11_kinds_199 σ x1 x2 x3 x6 x7 x8 x10 s0 = some q) {r : Option V × Mem × Mem} (K : K_X11_kinds_122 σ x1 x2 x3 x6 x7 x8 r q) : Ev M_X11_kinds 210 210 r 199 210 rho σ [(2, (173 : Int)), (0, x1), (0, x2), (0, x3), (9, 0), (9, 0), (0, x6), (0, x7), (1, x8), (9, 0), (0, x10), (9, 0)] [(0, s0)] := by
  unfold f_X11_kinds_199 at h
  refine ev_istore dX11_kinds_199 rfl (by decide) ?_
  show Ev _ _ _ _ 201 _ _ _ [(2, (173 : Int)), (0, x1), (0, x2), (0, x3), (9, 0), (0, s0), (0, x6), (0, x7), (1, x8), (9, 0), (0, x10), (9, 0)] _
  refine ev_iincG dX11_kinds_201 rfl h rfl (fun v25 h => ?_)
  show Ev _ _ _ _ 204 _ _ _ [(2, (173 : Int)), (0, x1), (0, x2), (0, x3), (9, 0), (0, s0), (0, x6), (0, x7), (1, x8), (9, 0), (0, v25), (9, 0)] _
  refine ev_goto (tgt := 122) dX11_kinds_204 rfl ?_
  obtain rfl := Option.some.inj h
  exact ev_sub (L2 := [(2, (173 : Int)), (0, x1), (0, x2), (0, x3), (9, 0), (0, s0), (0, x6), (0, x7), (1, x8), (9, 0), (0, v25), (9, 0)]) K ⟨.inr rfl, .inr rfl, .inr rfl, .inr rfl, .inl rfl, .inr rfl, .inr rfl, .inr rfl, .inr rfl, .inl rfl, .inr rfl, .inl rfl, trivial⟩
set_option maxHeartbeats 4000000 in
set_option maxRecDepth 20000 in
theorem e_X11_kinds_178 (σ : Mem) (x1 x2 x3 x5 x6 x7 x8 x10 s0 : Int)  {q : ((Int × Int) ⊕ ((Int)))} (h : f_X11_kinds_178 σ x1 x2 x3 x5 x6 x7 x8 x10 s0 = some q) {r : Option V × Mem × Mem} (K : K_X11_kinds_122 σ x1 x2 x3 x6 x7 x8 r q) : Ev M_X11_kinds 210 210 r 178 210 rho σ [(2, (173 : Int)), (0, x1), (0, x2), (0, x3), (9, 0), (0, x5), (0, x6), (0, x7), (1, x8), (9, 0), (0, x10), (9, 0)] [(0, s0)] := by
  unfold f_X11_kinds_178 at h
  refine ev_istore dX11_kinds_178 rfl (by decide) ?_
  show Ev _ _ _ _ 180 _ _ _ [(2, (173 : Int)), (0, x1), (0, x2), (0, x3), (9, 0), (0, x5), (0, x6), (0, x7), (1, x8), (9, 0), (0, x10), (0, s0)] _
  refine ev_iload dX11_kinds_180 rfl ?_
  refine ev_if_eq (tgt := 190) dX11_kinds_182 rfl h (fun cb h => ?_) (fun cb h => ?_)
  · refine ev_iload dX11_kinds_190 rfl ?_
    refine ev_iconst dX11_kinds_192 (by decide) ?_
    refine ev_iload dX11_kinds_193 rfl ?_
    refine ev_ishl dX11_kinds_195 ?_
    refine ev_iconst dX11_kinds_196 (by decide) ?_
    refine ev_ixor dX11_kinds_197 ?_
    refine ev_iand dX11_kinds_198 ?_
    exact ev_sub (L2 := [(2, (173 : Int)), (0, x1), (0, x2), (0, x3), (9, 0), (9, 0), (0, x6), (0, x7), (1, x8), (9, 0), (0, x10), (9, 0)]) (e_X11_kinds_199 σ x1 x2 x3 x6 x7 x8 x10 (jand x5 (jxor (jshl (1 : Int) x10) (-1 : Int))) h K) ⟨.inr rfl, .inr rfl, .inr rfl, .inr rfl, .inl rfl, .inl rfl, .inr rfl, .inr rfl, .inr rfl, .inl rfl, .inr rfl, .inl rfl, trivial⟩
  refine ev_iload dX11_kinds_185 rfl ?_
  refine ev_goto (tgt := 199) dX11_kinds_187 rfl ?_
  exact ev_sub (L2 := [(2, (173 : Int)), (0, x1), (0, x2), (0, x3), (9, 0), (9, 0), (0, x6), (0, x7), (1, x8), (9, 0), (0, x10), (9, 0)]) (e_X11_kinds_199 σ x1 x2 x3 x6 x7 x8 x10 x5 h K) ⟨.inr rfl, .inr rfl, .inr rfl, .inr rfl, .inl rfl, .inl rfl, .inr rfl, .inr rfl, .inr rfl, .inl rfl, .inr rfl, .inl rfl, trivial⟩
set_option maxHeartbeats 4000000 in
set_option maxRecDepth 20000 in
theorem e_X11_kinds_207 (σ : Mem) (x1 x2 x3 x5 x6 x7 : Int)  {q : ((Int × Int × Int) ⊕ ((Int × Int)))} (h : f_X11_kinds_207 σ x1 x2 x3 x5 x6 x7 = some q) {r : Option V × Mem × Mem} (K : K_X11_kinds_66 σ x1 x2 x3 r q) : Ev M_X11_kinds 210 210 r 207 210 rho σ [(2, (173 : Int)), (0, x1), (0, x2), (0, x3), (9, 0), (0, x5), (0, x6), (0, x7), (9, 0), (9, 0), (9, 0), (9, 0)] [] := by
  unfold f_X11_kinds_207 at h
  refine ev_iincG dX11_kinds_207 rfl h rfl (fun v24 h => ?_)
  show Ev _ _ _ _ 210 _ _ _ [(2, (173 : Int)), (0, x1), (0, x2), (0, x3), (9, 0), (0, x5), (0, x6), (0, v24), (9, 0), (9, 0), (9, 0), (9, 0)] _
  refine ev_goto (tgt := 66) dX11_kinds_210 rfl ?_
  obtain rfl := Option.some.inj h
  exact ev_sub (L2 := [(2, (173 : Int)), (0, x1), (0, x2), (0, x3), (9, 0), (0, x5), (0, x6), (0, v24), (9, 0), (9, 0), (9, 0), (9, 0)]) K ⟨.inr rfl, .inr rfl, .inr rfl, .inr rfl, .inl rfl, .inr rfl, .inr rfl, .inr rfl, .inl rfl, .inl rfl, .inl rfl, .inl rfl, trivial⟩
set_option maxHeartbeats 4000000 in
set_option maxRecDepth 20000 in
theorem b_X11_kinds_122 (σ : Mem) (x1 x2 x3 x6 x7 x8 : Int)  {r : Option V × Mem × Mem} : ∀ a x, f_X11_kinds_122B σ x1 x2 x3 x6 x7 x8 a = some x → K_X11_kinds_122 σ x1 x2 x3 x6 x7 x8 r x → K_X11_kinds_122 σ x1 x2 x3 x6 x7 x8 r (.inl a) := by
  intro a x h K
  obtain ⟨x5, x10⟩ := a
  have h : f_X11_kinds_122C σ x1 x2 x3 x6 x7 x8 x5 x10 = some x := h
  unfold f_X11_kinds_122C at h
  show Ev M_X11_kinds 210 210 r 122 210 rho σ [(2, (173 : Int)), (0, x1), (0, x2), (0, x3), (9, 0), (0, x5), (0, x6), (0, x7), (1, x8), (9, 0), (0, x10), (9, 0)] []
  refine ev_iload dX11_kinds_122 rfl ?_
  refine ev_bipush dX11_kinds_124 (by decide) (by decide) ?_
  refine ev_icmp_ge (tgt := 207) dX11_kinds_126 rfl h (fun cb h => ?_) (fun cb h => ?_)
  · obtain rfl := Option.some.inj h
    exact ev_sub (L2 := [(2, (173 : Int)), (0, x1), (0, x2), (0, x3), (9, 0), (0, x5), (0, x6), (0, x7), (9, 0), (9, 0), (9, 0), (9, 0)]) K ⟨.inr rfl, .inr rfl, .inr rfl, .inr rfl, .inl rfl, .inr rfl, .inr rfl, .inr rfl, .inl rfl, .inl rfl, .inl rfl, .inl rfl, trivial⟩
  refine ev_iload dX11_kinds_129 rfl ?_
  refine ev_if_eq (tgt := 207) dX11_kinds_131 rfl h (fun cb h => ?_) (fun cb h => ?_)
  · obtain rfl := Option.some.inj h
    exact ev_sub (L2 := [(2, (173 : Int)), (0, x1), (0, x2), (0, x3), (9, 0), (0, x5), (0, x6), (0, x7), (9, 0), (9, 0), (9, 0), (9, 0)]) K ⟨.inr rfl, .inr rfl, .inr rfl, .inr rfl, .inl rfl, .inr rfl, .inr rfl, .inr rfl, .inl rfl, .inl rfl, .inl rfl, .inl rfl, trivial⟩
  refine ev_iload dX11_kinds_134 rfl ?_
  refine ev_aload_n dX11_kinds_136 rfl (by decide) ?_
  refine ev_iload_n dX11_kinds_137 rfl ?_
  refine ev_iconst dX11_kinds_138 (by decide) ?_
  obtain ⟨v18, hc19, h⟩ := bind_of h
  refine ev_invV_v (k := (173 : Int)) (av := [(0, x1), (0, (1 : Int))]) (st := [(0, x10)]) (v := (0, v18)) (τ := σ) dX11_kinds_139 ml_X11_128 mv_X11_who (T := TX11) (ci := 10) rfl sp173 (by decide) (by decide) rfl ⟨Nat.le_of_ble_eq_true rfl, Nat.le_of_ble_eq_true rfl⟩ (Nat.le_of_ble_eq_true rfl) (c_X11_who hc19) ?_
  refine ev_aload_n dX11_kinds_142 rfl (by decide) ?_
  refine ev_lload dX11_kinds_143 rfl ?_
  refine ev_l2i dX11_kinds_145 ?_
  obtain ⟨v20, hc21, h⟩ := bind_of h
  refine ev_invV_v (k := (173 : Int)) (av := [(0, (lj x8))]) (st := [(0, v18), (0, x10)]) (v := (0, v20)) (τ := σ) dX11_kinds_146 ml_X11_132 mv_X11_length (T := TX11) (ci := 10) rfl sp173 (by decide) (by decide) rfl ⟨Nat.le_of_ble_eq_true rfl, Nat.le_of_ble_eq_true rfl⟩ (Nat.le_of_ble_eq_true rfl) (c_X11_length hc21) ?_
  obtain ⟨v22, hc23, h⟩ := bind_of h
  refine ev_invS_v (av := [(0, x10), (0, v18), (0, v20)]) (st := []) (v := (0, v22)) (τ := σ) dX11_kinds_149 ml_X11_136 mt_X11_timeOf rfl ⟨Nat.le_of_ble_eq_true rfl, Nat.le_of_ble_eq_true rfl⟩ (Nat.le_of_ble_eq_true rfl) (c_X11_timeOf hc23) ?_
  refine ev_i2lk dX11_kinds_152 ?_
  show Ev _ _ _ _ 153 _ _ _ _ _
  refine ev_aload_n dX11_kinds_153 rfl (by decide) ?_
  refine ev_getf (j := 6) (t := 2) (x := (179 : Int)) dX11_kinds_154 cf_X11 wf_X11_25 sp173 (by decide) (by decide) rfl (by decide) (rp173_6 _) ?_
  refine ev_bipush dX11_kinds_157 (by decide) (by decide) ?_
  refine ev_iload_n dX11_kinds_159 rfl ?_
  refine ev_imul dX11_kinds_160 ?_
  refine ev_iconst dX11_kinds_161 (by decide) ?_
  refine ev_iload dX11_kinds_162 rfl ?_
  refine ev_imul dX11_kinds_164 ?_
  refine ev_iadd dX11_kinds_165 ?_
  refine ev_iconst dX11_kinds_166 (by decide) ?_
  refine ev_iadd dX11_kinds_167 ?_
  refine ev_lald dX11_kinds_168 sp179 (by decide) (by decide) h (fun h => ?_)
  show Ev _ _ _ _ 169 _ _ _ _ _
  refine ev_lc_ne (tgt := 177) dX11_kinds_169 dX11_kinds_170 rfl h (fun cb h => ?_) (fun cb h => ?_)
  · refine ev_iconst dX11_kinds_177 (by decide) ?_
    exact ev_sub (L2 := [(2, (173 : Int)), (0, x1), (0, x2), (0, x3), (9, 0), (0, x5), (0, x6), (0, x7), (1, x8), (9, 0), (0, x10), (9, 0)]) (e_X11_kinds_178 σ x1 x2 x3 x5 x6 x7 x8 x10 (0 : Int) h K) ⟨.inr rfl, .inr rfl, .inr rfl, .inr rfl, .inl rfl, .inr rfl, .inr rfl, .inr rfl, .inr rfl, .inl rfl, .inr rfl, .inl rfl, trivial⟩
  refine ev_iconst dX11_kinds_173 (by decide) ?_
  refine ev_goto (tgt := 178) dX11_kinds_174 rfl ?_
  exact ev_sub (L2 := [(2, (173 : Int)), (0, x1), (0, x2), (0, x3), (9, 0), (0, x5), (0, x6), (0, x7), (1, x8), (9, 0), (0, x10), (9, 0)]) (e_X11_kinds_178 σ x1 x2 x3 x5 x6 x7 x8 x10 (1 : Int) h K) ⟨.inr rfl, .inr rfl, .inr rfl, .inr rfl, .inl rfl, .inr rfl, .inr rfl, .inr rfl, .inr rfl, .inl rfl, .inr rfl, .inl rfl, trivial⟩
set_option maxHeartbeats 4000000 in
set_option maxRecDepth 20000 in
theorem e_X11_kinds_122 (σ : Mem) (x1 x2 x3 x5 x6 x7 x8 x10 : Int)  {q : ((Int × Int × Int) ⊕ ((Int × Int)))} (h : f_X11_kinds_122 σ x1 x2 x3 x5 x6 x7 x8 x10 = some q) {r : Option V × Mem × Mem} (K : K_X11_kinds_66 σ x1 x2 x3 r q) : Ev M_X11_kinds 210 210 r 122 210 rho σ [(2, (173 : Int)), (0, x1), (0, x2), (0, x3), (9, 0), (0, x5), (0, x6), (0, x7), (1, x8), (9, 0), (0, x10), (9, 0)] [] := by
  unfold f_X11_kinds_122 at h
  obtain ⟨e, hl, h⟩ := bind_of h
  refine loop_ev (K := K_X11_kinds_122 σ x1 x2 x3 x6 x7 x8 r) (b_X11_kinds_122 σ x1 x2 x3 x6 x7 x8) FU (x5, x10) e hl ?_
  show Ev M_X11_kinds 210 210 r 207 210 rho σ [(2, (173 : Int)), (0, x1), (0, x2), (0, x3), (9, 0), (0, e), (0, x6), (0, x7), (9, 0), (9, 0), (9, 0), (9, 0)] []
  replace h : f_X11_kinds_207 σ x1 x2 x3 e x6 x7 = some q := h
  exact ev_sub (L2 := [(2, (173 : Int)), (0, x1), (0, x2), (0, x3), (9, 0), (0, e), (0, x6), (0, x7), (9, 0), (9, 0), (9, 0), (9, 0)]) (e_X11_kinds_207 σ x1 x2 x3 e x6 x7 h K) ⟨.inr rfl, .inr rfl, .inr rfl, .inr rfl, .inl rfl, .inr rfl, .inr rfl, .inr rfl, .inl rfl, .inl rfl, .inl rfl, .inl rfl, trivial⟩
set_option maxHeartbeats 4000000 in
set_option maxRecDepth 20000 in
theorem e_X11_kinds_117 (σ : Mem) (x1 x2 x3 x5 x7 x8 s0 : Int)  {q : ((Int × Int × Int) ⊕ ((Int × Int)))} (h : f_X11_kinds_117 σ x1 x2 x3 x5 x7 x8 s0 = some q) {r : Option V × Mem × Mem} (K : K_X11_kinds_66 σ x1 x2 x3 r q) : Ev M_X11_kinds 210 210 r 117 210 rho σ [(2, (173 : Int)), (0, x1), (0, x2), (0, x3), (9, 0), (0, x5), (9, 0), (0, x7), (1, x8), (9, 0), (9, 0), (9, 0)] [(0, s0)] := by
  unfold f_X11_kinds_117 at h
  refine ev_istore dX11_kinds_117 rfl (by decide) ?_
  show Ev _ _ _ _ 119 _ _ _ [(2, (173 : Int)), (0, x1), (0, x2), (0, x3), (9, 0), (0, x5), (0, s0), (0, x7), (1, x8), (9, 0), (9, 0), (9, 0)] _
  refine ev_iconst dX11_kinds_119 (by decide) ?_
  refine ev_istore dX11_kinds_120 rfl (by decide) ?_
  show Ev _ _ _ _ 122 _ _ _ [(2, (173 : Int)), (0, x1), (0, x2), (0, x3), (9, 0), (0, x5), (0, s0), (0, x7), (1, x8), (9, 0), (0, (0 : Int)), (9, 0)] _
  exact ev_sub (L2 := [(2, (173 : Int)), (0, x1), (0, x2), (0, x3), (9, 0), (0, x5), (0, s0), (0, x7), (1, x8), (9, 0), (0, (0 : Int)), (9, 0)]) (e_X11_kinds_122 σ x1 x2 x3 x5 s0 x7 x8 (0 : Int) h K) ⟨.inr rfl, .inr rfl, .inr rfl, .inr rfl, .inl rfl, .inr rfl, .inr rfl, .inr rfl, .inr rfl, .inl rfl, .inr rfl, .inl rfl, trivial⟩
set_option maxHeartbeats 4000000 in
set_option maxRecDepth 20000 in
theorem e_X11_kinds_116 (σ : Mem) (x1 x2 x3 x5 x7 x8 : Int)  {q : ((Int × Int × Int) ⊕ ((Int × Int)))} (h : f_X11_kinds_116 σ x1 x2 x3 x5 x7 x8 = some q) {r : Option V × Mem × Mem} (K : K_X11_kinds_66 σ x1 x2 x3 r q) : Ev M_X11_kinds 210 210 r 116 210 rho σ [(2, (173 : Int)), (0, x1), (0, x2), (0, x3), (9, 0), (0, x5), (9, 0), (0, x7), (1, x8), (9, 0), (9, 0), (9, 0)] [] := by
  unfold f_X11_kinds_116 at h
  refine ev_iconst dX11_kinds_116 (by decide) ?_
  exact ev_sub (L2 := [(2, (173 : Int)), (0, x1), (0, x2), (0, x3), (9, 0), (0, x5), (9, 0), (0, x7), (1, x8), (9, 0), (9, 0), (9, 0)]) (e_X11_kinds_117 σ x1 x2 x3 x5 x7 x8 (0 : Int) h K) ⟨.inr rfl, .inr rfl, .inr rfl, .inr rfl, .inl rfl, .inr rfl, .inl rfl, .inr rfl, .inr rfl, .inl rfl, .inl rfl, .inl rfl, trivial⟩
set_option maxHeartbeats 4000000 in
set_option maxRecDepth 20000 in
theorem e_X11_kinds_213 (σ : Mem) (x5 x6 : Int)  {q : (Int × Mem)} (h : f_X11_kinds_213 σ x5 x6 = some q) : Ev M_X11_kinds 210 210 (some (0, q.1), rho, q.2) 213 210 rho σ [(2, (173 : Int)), (9, 0), (9, 0), (9, 0), (9, 0), (0, x5), (0, x6), (9, 0), (9, 0), (9, 0), (9, 0), (9, 0)] [] := by
  unfold f_X11_kinds_213 at h
  refine ev_iload dX11_kinds_213 rfl ?_
  refine ev_if_eq (tgt := 223) dX11_kinds_215 rfl h (fun cb h => ?_) (fun cb h => ?_)
  · refine ev_aload_n dX11_kinds_223 rfl (by decide) ?_
    refine ev_bipush dX11_kinds_224 (by decide) (by decide) ?_
    obtain ⟨v16, hc17, h⟩ := bind_of h
    refine ev_invV_v (k := (173 : Int)) (av := [(0, (-55 : Int))]) (st := []) (v := (0, v16.1)) (τ := v16.2) dX11_kinds_226 ml_X11_151 mv_X11_no (T := TX11) (ci := 10) rfl sp173 (by decide) (by decide) rfl ⟨Nat.le_of_ble_eq_true rfl, Nat.le_of_ble_eq_true rfl⟩ (Nat.le_of_ble_eq_true rfl) (c_X11_no hc17) ?_
    obtain rfl := Option.some.inj h
    dsimp only
    exact ev_iret dX11_kinds_229 rfl rfl
  refine ev_iload dX11_kinds_218 rfl ?_
  refine ev_goto (tgt := 229) dX11_kinds_220 rfl ?_
  obtain rfl := Option.some.inj h
  dsimp only
  exact ev_iret dX11_kinds_229 rfl rfl
set_option maxHeartbeats 4000000 in
set_option maxRecDepth 20000 in
theorem b_X11_kinds_66 (σ : Mem) (x1 x2 x3 : Int)  {r : Option V × Mem × Mem} : ∀ a x, f_X11_kinds_66B σ x1 x2 x3 a = some x → K_X11_kinds_66 σ x1 x2 x3 r x → K_X11_kinds_66 σ x1 x2 x3 r (.inl a) := by
  intro a x h K
  obtain ⟨x5, x6, x7⟩ := a
  have h : f_X11_kinds_66C σ x1 x2 x3 x5 x6 x7 = some x := h
  unfold f_X11_kinds_66C at h
  show Ev M_X11_kinds 210 210 r 66 210 rho σ [(2, (173 : Int)), (0, x1), (0, x2), (0, x3), (9, 0), (0, x5), (0, x6), (0, x7), (9, 0), (9, 0), (9, 0), (9, 0)] []
  refine ev_iload dX11_kinds_66 rfl ?_
  refine ev_iload_n dX11_kinds_68 rfl ?_
  refine ev_icmp_ge (tgt := 213) dX11_kinds_69 rfl h (fun cb h => ?_) (fun cb h => ?_)
  · obtain rfl := Option.some.inj h
    exact ev_sub (L2 := [(2, (173 : Int)), (9, 0), (9, 0), (9, 0), (9, 0), (0, x5), (0, x6), (9, 0), (9, 0), (9, 0), (9, 0), (9, 0)]) K ⟨.inr rfl, .inl rfl, .inl rfl, .inl rfl, .inl rfl, .inr rfl, .inr rfl, .inl rfl, .inl rfl, .inl rfl, .inl rfl, .inl rfl, trivial⟩
  refine ev_aload_n dX11_kinds_72 rfl (by decide) ?_
  refine ev_getf (j := 6) (t := 2) (x := (179 : Int)) dX11_kinds_73 cf_X11 wf_X11_25 sp173 (by decide) (by decide) rfl (by decide) (rp173_6 _) ?_
  refine ev_bipush dX11_kinds_76 (by decide) (by decide) ?_
  refine ev_iload_n dX11_kinds_78 rfl ?_
  refine ev_imul dX11_kinds_79 ?_
  refine ev_iconst dX11_kinds_80 (by decide) ?_
  refine ev_iload dX11_kinds_81 rfl ?_
  refine ev_imul dX11_kinds_83 ?_
  refine ev_iadd dX11_kinds_84 ?_
  refine ev_lald dX11_kinds_85 sp179 (by decide) (by decide) h (fun h => ?_)
  refine ev_lstoreG dX11_kinds_86 h rfl (by decide) (fun v13 h => ?_)
  show Ev _ _ _ _ 88 _ _ _ [(2, (173 : Int)), (0, x1), (0, x2), (0, x3), (9, 0), (0, x5), (0, x6), (0, x7), (1, v13), (9, 0), (9, 0), (9, 0)] _
  show Ev _ _ _ _ 88 _ _ _ _ _
  refine ev_iload dX11_kinds_88 rfl ?_
  refine ev_if_eq (tgt := 116) dX11_kinds_90 rfl h (fun cb h => ?_) (fun cb h => ?_)
  · exact ev_sub (L2 := [(2, (173 : Int)), (0, x1), (0, x2), (0, x3), (9, 0), (0, x5), (9, 0), (0, x7), (1, v13), (9, 0), (9, 0), (9, 0)]) (e_X11_kinds_116 σ x1 x2 x3 x5 x7 v13 h K) ⟨.inr rfl, .inr rfl, .inr rfl, .inr rfl, .inl rfl, .inr rfl, .inl rfl, .inr rfl, .inr rfl, .inl rfl, .inl rfl, .inl rfl, trivial⟩
  refine ev_lload dX11_kinds_93 rfl ?_
  refine ev_lconst (x := (0 : Int)) dX11_kinds_95 (by decide) (by decide) ?_
  refine ev_aload_n dX11_kinds_96 rfl (by decide) ?_
  refine ev_getf (j := 0) (t := 2) (x := (174 : Int)) dX11_kinds_97 cf_X11 wf_X11_7 sp173 (by decide) (by decide) rfl (by decide) (rp173_0 _) ?_
  refine ev_bipush dX11_kinds_100 (by decide) (by decide) ?_
  refine ev_iald dX11_kinds_102 sp174 (by decide) (by decide) h (fun h => ?_)
  refine ev_iconst dX11_kinds_103 (by decide) ?_
  refine ev_isub dX11_kinds_104 ?_
  refine ev_i2lk dX11_kinds_105 ?_
  obtain ⟨v14, hc15, h⟩ := bind_of h
  refine ev_invS_v (av := [(1, v13), (1, (0 : Int)), (1, (jsub (σ (174 : Int) (82 : Int)) (1 : Int)))]) (st := []) (v := (0, v14)) (τ := σ) dX11_kinds_106 ml_X11_120 mt_X11_isIn rfl ⟨Nat.le_of_ble_eq_true rfl, Nat.le_of_ble_eq_true rfl⟩ (Nat.le_of_ble_eq_true rfl) (c_X11_isIn hc15) ?_
  refine ev_if_eq (tgt := 116) dX11_kinds_109 rfl h (fun cb h => ?_) (fun cb h => ?_)
  · exact ev_sub (L2 := [(2, (173 : Int)), (0, x1), (0, x2), (0, x3), (9, 0), (0, x5), (9, 0), (0, x7), (1, v13), (9, 0), (9, 0), (9, 0)]) (e_X11_kinds_116 σ x1 x2 x3 x5 x7 v13 h K) ⟨.inr rfl, .inr rfl, .inr rfl, .inr rfl, .inl rfl, .inr rfl, .inl rfl, .inr rfl, .inr rfl, .inl rfl, .inl rfl, .inl rfl, trivial⟩
  refine ev_iconst dX11_kinds_112 (by decide) ?_
  refine ev_goto (tgt := 117) dX11_kinds_113 rfl ?_
  exact ev_sub (L2 := [(2, (173 : Int)), (0, x1), (0, x2), (0, x3), (9, 0), (0, x5), (9, 0), (0, x7), (1, v13), (9, 0), (9, 0), (9, 0)]) (e_X11_kinds_117 σ x1 x2 x3 x5 x7 v13 (1 : Int) h K) ⟨.inr rfl, .inr rfl, .inr rfl, .inr rfl, .inl rfl, .inr rfl, .inl rfl, .inr rfl, .inr rfl, .inl rfl, .inl rfl, .inl rfl, trivial⟩
set_option maxHeartbeats 4000000 in
set_option maxRecDepth 20000 in
theorem e_X11_kinds_66 (σ : Mem) (x1 x2 x3 x5 x6 x7 : Int)  {q : (Int × Mem)} (h : f_X11_kinds_66 σ x1 x2 x3 x5 x6 x7 = some q) : Ev M_X11_kinds 210 210 (some (0, q.1), rho, q.2) 66 210 rho σ [(2, (173 : Int)), (0, x1), (0, x2), (0, x3), (9, 0), (0, x5), (0, x6), (0, x7), (9, 0), (9, 0), (9, 0), (9, 0)] [] := by
  unfold f_X11_kinds_66 at h
  obtain ⟨e, hl, h⟩ := bind_of h
  refine loop_ev (K := K_X11_kinds_66 σ x1 x2 x3 (some (0, q.1), rho, q.2)) (b_X11_kinds_66 σ x1 x2 x3) FU (x5, x6, x7) e hl ?_
  show Ev M_X11_kinds 210 210 _ 213 210 rho σ [(2, (173 : Int)), (9, 0), (9, 0), (9, 0), (9, 0), (0, e.1), (0, e.2), (9, 0), (9, 0), (9, 0), (9, 0), (9, 0)] []
  replace h : f_X11_kinds_213 σ e.1 e.2 = some q := h
  exact ev_sub (L2 := [(2, (173 : Int)), (9, 0), (9, 0), (9, 0), (9, 0), (0, e.1), (0, e.2), (9, 0), (9, 0), (9, 0), (9, 0), (9, 0)]) (e_X11_kinds_213 σ e.1 e.2 h) ⟨.inr rfl, .inl rfl, .inl rfl, .inl rfl, .inl rfl, .inr rfl, .inr rfl, .inl rfl, .inl rfl, .inl rfl, .inl rfl, .inl rfl, trivial⟩
set_option maxHeartbeats 4000000 in
set_option maxRecDepth 20000 in
theorem c_X11_kinds {σ : Mem} {x1 x2 x3 : Int}  {q : (Int × Mem)} (h : f_X11_kinds σ x1 x2 x3 = some q) : Ms yX11_kinds M_X11_kinds 210 210 [(2, (173 : Int)), (0, x1), (0, x2), (0, x3)] rho σ (some (0, q.1), rho, q.2) := by
  refine Ms.of 8 (by decide +kernel) rfl (fun z => absurd z (by decide)) (fun _ _ _ => trivial) rfl rfl ?_
  unfold f_X11_kinds at h
  show Ev M_X11_kinds 210 210 _ 0 210 rho σ [(2, (173 : Int)), (0, x1), (0, x2), (0, x3), (9, 0), (9, 0), (9, 0), (9, 0), (9, 0), (9, 0), (9, 0), (9, 0)] []
  refine ev_aload_n dX11_kinds_0 rfl (by decide) ?_
  refine ev_iload_n dX11_kinds_1 rfl ?_
  obtain ⟨v1, hc2, h⟩ := bind_of h
  refine ev_invV_v (k := (173 : Int)) (av := [(0, x1)]) (st := []) (v := (0, v1)) (τ := σ) dX11_kinds_2 ml_X11_157 mv_X11_isCand (T := TX11) (ci := 10) rfl sp173 (by decide) (by decide) rfl ⟨Nat.le_of_ble_eq_true rfl, Nat.le_of_ble_eq_true rfl⟩ (Nat.le_of_ble_eq_true rfl) (c_X11_isCand hc2) ?_
  refine ev_if_eq (tgt := 27) dX11_kinds_5 rfl h (fun cb h => ?_) (fun cb h => ?_)
  · exact ev_sub (L2 := [(2, (173 : Int)), (9, 0), (9, 0), (9, 0), (9, 0), (9, 0), (9, 0), (9, 0), (9, 0), (9, 0), (9, 0), (9, 0)]) (e_X11_kinds_27 σ h) ⟨.inr rfl, .inl rfl, .inl rfl, .inl rfl, .inl rfl, .inl rfl, .inl rfl, .inl rfl, .inl rfl, .inl rfl, .inl rfl, .inl rfl, trivial⟩
  refine ev_iload_n dX11_kinds_8 rfl ?_
  obtain ⟨v3, hc4, h⟩ := bind_of h
  refine ev_invS_v (av := [(0, x2)]) (st := []) (v := (0, v3)) (τ := σ) dX11_kinds_9 ml_X11_145 mt_X11_isShelf rfl ⟨Nat.le_of_ble_eq_true rfl, Nat.le_of_ble_eq_true rfl⟩ (Nat.le_of_ble_eq_true rfl) (c_X11_isShelf hc4) ?_
  refine ev_if_eq (tgt := 27) dX11_kinds_12 rfl h (fun cb h => ?_) (fun cb h => ?_)
  · exact ev_sub (L2 := [(2, (173 : Int)), (9, 0), (9, 0), (9, 0), (9, 0), (9, 0), (9, 0), (9, 0), (9, 0), (9, 0), (9, 0), (9, 0)]) (e_X11_kinds_27 σ h) ⟨.inr rfl, .inl rfl, .inl rfl, .inl rfl, .inl rfl, .inl rfl, .inl rfl, .inl rfl, .inl rfl, .inl rfl, .inl rfl, .inl rfl, trivial⟩
  refine ev_iload_n dX11_kinds_15 rfl ?_
  refine ev_i2lk dX11_kinds_16 ?_
  refine ev_lconst (x := (0 : Int)) dX11_kinds_17 (by decide) (by decide) ?_
  refine ev_ldc2 (x := (12 : Int)) dX11_kinds_18 wc_X11_162 (by decide) (by decide) ?_
  obtain ⟨v5, hc6, h⟩ := bind_of h
  refine ev_invS_v (av := [(1, x3), (1, (0 : Int)), (1, (12 : Int))]) (st := []) (v := (0, v5)) (τ := σ) dX11_kinds_21 ml_X11_120 mt_X11_isIn rfl ⟨Nat.le_of_ble_eq_true rfl, Nat.le_of_ble_eq_true rfl⟩ (Nat.le_of_ble_eq_true rfl) (c_X11_isIn hc6) ?_
  refine ev_if_ne (tgt := 34) dX11_kinds_24 rfl h (fun cb h => ?_) (fun cb h => ?_)
  · refine ev_aload_n dX11_kinds_34 rfl (by decide) ?_
    refine ev_iload_n dX11_kinds_35 rfl ?_
    refine ev_iconst dX11_kinds_36 (by decide) ?_
    refine ev_iload_n dX11_kinds_37 rfl ?_
    refine ev_imul dX11_kinds_38 ?_
    obtain ⟨v7, hc8, h⟩ := bind_of h
    refine ev_invV_v (k := (173 : Int)) (av := [(0, x2), (0, (jmul (2 : Int) x3))]) (st := []) (v := (0, v7)) (τ := σ) dX11_kinds_39 ml_X11_365 mv_X11_wrongShelf (T := TX11) (ci := 10) rfl sp173 (by decide) (by decide) rfl ⟨Nat.le_of_ble_eq_true rfl, Nat.le_of_ble_eq_true rfl⟩ (Nat.le_of_ble_eq_true rfl) (c_X11_wrongShelf hc8) ?_
    refine ev_istore dX11_kinds_42 rfl (by decide) ?_
    show Ev _ _ _ _ 44 _ _ _ [(2, (173 : Int)), (0, x1), (0, x2), (0, x3), (0, v7), (9, 0), (9, 0), (9, 0), (9, 0), (9, 0), (9, 0), (9, 0)] _
    refine ev_iload dX11_kinds_44 rfl ?_
    refine ev_if_eq (tgt := 56) dX11_kinds_46 rfl h (fun cb h => ?_) (fun cb h => ?_)
    · refine ev_bipush dX11_kinds_56 (by decide) (by decide) ?_
      refine ev_istore dX11_kinds_58 rfl (by decide) ?_
      show Ev _ _ _ _ 60 _ _ _ [(2, (173 : Int)), (0, x1), (0, x2), (0, x3), (0, v7), (0, (63 : Int)), (9, 0), (9, 0), (9, 0), (9, 0), (9, 0), (9, 0)] _
      refine ev_iconst dX11_kinds_60 (by decide) ?_
      refine ev_istore dX11_kinds_61 rfl (by decide) ?_
      show Ev _ _ _ _ 63 _ _ _ [(2, (173 : Int)), (0, x1), (0, x2), (0, x3), (0, v7), (0, (63 : Int)), (0, (1 : Int)), (9, 0), (9, 0), (9, 0), (9, 0), (9, 0)] _
      refine ev_iconst dX11_kinds_63 (by decide) ?_
      refine ev_istore dX11_kinds_64 rfl (by decide) ?_
      show Ev _ _ _ _ 66 _ _ _ [(2, (173 : Int)), (0, x1), (0, x2), (0, x3), (0, v7), (0, (63 : Int)), (0, (1 : Int)), (0, (0 : Int)), (9, 0), (9, 0), (9, 0), (9, 0)] _
      exact ev_sub (L2 := [(2, (173 : Int)), (0, x1), (0, x2), (0, x3), (9, 0), (0, (63 : Int)), (0, (1 : Int)), (0, (0 : Int)), (9, 0), (9, 0), (9, 0), (9, 0)]) (e_X11_kinds_66 σ x1 x2 x3 (63 : Int) (1 : Int) (0 : Int) h) ⟨.inr rfl, .inr rfl, .inr rfl, .inr rfl, .inl rfl, .inr rfl, .inr rfl, .inr rfl, .inl rfl, .inl rfl, .inl rfl, .inl rfl, trivial⟩
    refine ev_aload_n dX11_kinds_49 rfl (by decide) ?_
    refine ev_iload dX11_kinds_50 rfl ?_
    obtain ⟨v9, hc10, h⟩ := bind_of h
    refine ev_invV_v (k := (173 : Int)) (av := [(0, v7)]) (st := []) (v := (0, v9.1)) (τ := v9.2) dX11_kinds_52 ml_X11_151 mv_X11_no (T := TX11) (ci := 10) rfl sp173 (by decide) (by decide) rfl ⟨Nat.le_of_ble_eq_true rfl, Nat.le_of_ble_eq_true rfl⟩ (Nat.le_of_ble_eq_true rfl) (c_X11_no hc10) ?_
    obtain rfl := Option.some.inj h
    dsimp only
    exact ev_iret dX11_kinds_55 rfl rfl
  exact ev_sub (L2 := [(2, (173 : Int)), (9, 0), (9, 0), (9, 0), (9, 0), (9, 0), (9, 0), (9, 0), (9, 0), (9, 0), (9, 0), (9, 0)]) (e_X11_kinds_27 σ h) ⟨.inr rfl, .inl rfl, .inl rfl, .inl rfl, .inl rfl, .inl rfl, .inl rfl, .inl rfl, .inl rfl, .inl rfl, .inl rfl, .inl rfl, trivial⟩
def K_X11_judge_95 (σ : Mem) (x1 x3 x4 : Int) (r : Option V × Mem × Mem) : (Int × Int × Int × Int) ⊕ ((Int) ⊕ (Int) ⊕ (Unit)) → Prop := Sum.elim (fun a => Ev M_X11_judge 210 210 r 95 210 rho σ [(2, (173 : Int)), (0, x1), (9, 0), (0, x3), (0, x4), (9, 0), (0, a.1), (0, a.2.1), (0, a.2.2.1), (0, a.2.2.2), (9, 0), (9, 0), (9, 0)] []) (Sum.elim (fun e => Ev M_X11_judge 210 210 r 139 210 rho σ [(9, 0), (9, 0), (9, 0), (9, 0), (9, 0), (9, 0), (9, 0), (9, 0), (9, 0), (0, e), (9, 0), (9, 0), (9, 0)] []) (Sum.elim (fun e => Ev M_X11_judge 210 210 r 209 210 rho σ [(9, 0), (9, 0), (9, 0), (9, 0), (9, 0), (9, 0), (9, 0), (9, 0), (9, 0), (0, e), (9, 0), (9, 0), (9, 0)] []) (fun e => Ev M_X11_judge 210 210 r 228 210 rho σ [(9, 0), (9, 0), (9, 0), (9, 0), (9, 0), (9, 0), (9, 0), (9, 0), (9, 0), (9, 0), (9, 0), (9, 0), (9, 0)] [])))
set_option maxHeartbeats 4000000 in
set_option maxRecDepth 20000 in
theorem e_X11_judge_35 (σ : Mem)  {q : (Int × Mem)} (h : f_X11_judge_35 σ  = some q) : Ev M_X11_judge 210 210 (some (0, q.1), rho, q.2) 35 210 rho σ [(2, (173 : Int)), (9, 0), (9, 0), (9, 0), (9, 0), (9, 0), (9, 0), (9, 0), (9, 0), (9, 0), (9, 0), (9, 0), (9, 0)] [] := by
  unfold f_X11_judge_35 at h
  refine ev_aload_n dX11_judge_35 rfl (by decide) ?_
  refine ev_bipush dX11_judge_36 (by decide) (by decide) ?_
  obtain ⟨v19, hc20, h⟩ := bind_of h
  refine ev_invV_v (k := (173 : Int)) (av := [(0, (-52 : Int))]) (st := []) (v := (0, v19.1)) (τ := v19.2) dX11_judge_38 ml_X11_151 mv_X11_no (T := TX11) (ci := 10) rfl sp173 (by decide) (by decide) rfl ⟨Nat.le_of_ble_eq_true rfl, Nat.le_of_ble_eq_true rfl⟩ (Nat.le_of_ble_eq_true rfl) (c_X11_no hc20) ?_
  obtain rfl := Option.some.inj h
  dsimp only
  exact ev_iret dX11_judge_41 rfl rfl
set_option maxHeartbeats 4000000 in
set_option maxRecDepth 20000 in
theorem b_X11_judge_95 (σ : Mem) (x1 x3 x4 : Int)  {r : Option V × Mem × Mem} : ∀ a x, f_X11_judge_95B σ x1 x3 x4 a = some x → K_X11_judge_95 σ x1 x3 x4 r x → K_X11_judge_95 σ x1 x3 x4 r (.inl a) := by
  intro a x h K
  obtain ⟨x6, x7, x8, x9⟩ := a
  have h : f_X11_judge_95C σ x1 x3 x4 x6 x7 x8 x9 = some x := h
  unfold f_X11_judge_95C at h
  show Ev M_X11_judge 210 210 r 95 210 rho σ [(2, (173 : Int)), (0, x1), (9, 0), (0, x3), (0, x4), (9, 0), (0, x6), (0, x7), (0, x8), (0, x9), (9, 0), (9, 0), (9, 0)] []
  refine ev_iload dX11_judge_95 rfl ?_
  refine ev_iload dX11_judge_97 rfl ?_
  refine ev_icmp_ge (tgt := 228) dX11_judge_99 rfl h (fun cb h => ?_) (fun cb h => ?_)
  · obtain rfl := Option.some.inj h
    exact ev_sub (L2 := [(9, 0), (9, 0), (9, 0), (9, 0), (9, 0), (9, 0), (9, 0), (9, 0), (9, 0), (9, 0), (9, 0), (9, 0), (9, 0)]) K ⟨.inl rfl, .inl rfl, .inl rfl, .inl rfl, .inl rfl, .inl rfl, .inl rfl, .inl rfl, .inl rfl, .inl rfl, .inl rfl, .inl rfl, .inl rfl, trivial⟩
  refine ev_aload_n dX11_judge_102 rfl (by decide) ?_
  refine ev_getf (j := 6) (t := 2) (x := (179 : Int)) dX11_judge_103 cf_X11 wf_X11_25 sp173 (by decide) (by decide) rfl (by decide) (rp173_6 _) ?_
  refine ev_bipush dX11_judge_106 (by decide) (by decide) ?_
  refine ev_iload_n dX11_judge_108 rfl ?_
  refine ev_imul dX11_judge_109 ?_
  refine ev_iload dX11_judge_110 rfl ?_
  refine ev_iadd dX11_judge_112 ?_
  refine ev_lald dX11_judge_113 sp179 (by decide) (by decide) h (fun h => ?_)
  refine ev_lstoreG dX11_judge_114 h rfl (by decide) (fun v21 h => ?_)
  show Ev _ _ _ _ 116 _ _ _ [(2, (173 : Int)), (0, x1), (9, 0), (0, x3), (0, x4), (9, 0), (0, x6), (0, x7), (0, x8), (0, x9), (1, v21), (9, 0), (9, 0)] _
  refine ev_lload dX11_judge_116 rfl ?_
  refine ev_lconst (x := (0 : Int)) dX11_judge_118 (by decide) (by decide) ?_
  show Ev _ _ _ _ 119 _ _ _ _ _
  refine ev_ldc2 (x := (11 : Int)) dX11_judge_119 wc_X11_368 (by decide) (by decide) ?_
  obtain ⟨v22, hc23, h⟩ := bind_of h
  refine ev_invS_v (av := [(1, v21), (1, (0 : Int)), (1, (11 : Int))]) (st := []) (v := (0, v22)) (τ := σ) dX11_judge_122 ml_X11_120 mt_X11_isIn rfl ⟨Nat.le_of_ble_eq_true rfl, Nat.le_of_ble_eq_true rfl⟩ (Nat.le_of_ble_eq_true rfl) (c_X11_isIn hc23) ?_
  refine ev_if_eq (tgt := 139) dX11_judge_125 rfl h (fun cb h => ?_) (fun cb h => ?_)
  · obtain rfl := Option.some.inj h
    exact ev_sub (L2 := [(9, 0), (9, 0), (9, 0), (9, 0), (9, 0), (9, 0), (9, 0), (9, 0), (9, 0), (0, x9), (9, 0), (9, 0), (9, 0)]) K ⟨.inl rfl, .inl rfl, .inl rfl, .inl rfl, .inl rfl, .inl rfl, .inl rfl, .inl rfl, .inl rfl, .inr rfl, .inl rfl, .inl rfl, .inl rfl, trivial⟩
  refine ev_iload dX11_judge_128 rfl ?_
  refine ev_lload dX11_judge_130 rfl ?_
  refine ev_l2i dX11_judge_132 ?_
  refine ev_ishr dX11_judge_133 ?_
  refine ev_iconst dX11_judge_134 (by decide) ?_
  refine ev_iand dX11_judge_135 ?_
  refine ev_if_ne (tgt := 142) dX11_judge_136 rfl h (fun cb h => ?_) (fun cb h => ?_)
  · refine ev_iload dX11_judge_142 rfl ?_
    refine ev_iconst dX11_judge_144 (by decide) ?_
    refine ev_lload dX11_judge_145 rfl ?_
    refine ev_l2i dX11_judge_147 ?_
    refine ev_ishl dX11_judge_148 ?_
    refine ev_iconst dX11_judge_149 (by decide) ?_
    refine ev_ixor dX11_judge_150 ?_
    refine ev_iand dX11_judge_151 ?_
    refine ev_istoreG dX11_judge_152 h rfl (by decide) (fun v24 h => ?_)
    show Ev _ _ _ _ 154 _ _ _ [(2, (173 : Int)), (0, x1), (9, 0), (0, x3), (0, x4), (9, 0), (0, v24), (0, x7), (0, x8), (0, x9), (1, v21), (9, 0), (9, 0)] _
    refine ev_iload dX11_judge_154 rfl ?_
    refine ev_aload_n dX11_judge_156 rfl (by decide) ?_
    show Ev _ _ _ _ 157 _ _ _ _ _
    refine ev_lload dX11_judge_157 rfl ?_
    refine ev_l2i dX11_judge_159 ?_
    obtain ⟨v25, hc26, h⟩ := bind_of h
    refine ev_invV_v (k := (173 : Int)) (av := [(0, (lj v21))]) (st := [(0, x7)]) (v := (0, v25)) (τ := σ) dX11_judge_160 ml_X11_255 mv_X11_start (T := TX11) (ci := 10) rfl sp173 (by decide) (by decide) rfl ⟨Nat.le_of_ble_eq_true rfl, Nat.le_of_ble_eq_true rfl⟩ (Nat.le_of_ble_eq_true rfl) (c_X11_start hc26) ?_
    refine ev_mx dX11_judge_163 wa_X11_258 wm_max (by decide) (Nat.le_of_ble_eq_true rfl) ?_
    refine ev_aload_n dX11_judge_166 rfl (by decide) ?_
    refine ev_iload_n dX11_judge_167 rfl ?_
    refine ev_lload dX11_judge_168 rfl ?_
    refine ev_l2i dX11_judge_170 ?_
    obtain ⟨v27, hc28, h⟩ := bind_of h
    refine ev_invV_v (k := (173 : Int)) (av := [(0, x1), (0, (lj v21))]) (st := [(0, (mx x7 v25))]) (v := (0, v27)) (τ := σ) dX11_judge_171 ml_X11_263 mv_X11_timed (T := TX11) (ci := 10) rfl sp173 (by decide) (by decide) rfl ⟨Nat.le_of_ble_eq_true rfl, Nat.le_of_ble_eq_true rfl⟩ (Nat.le_of_ble_eq_true rfl) (c_X11_timed hc28) ?_
    refine ev_iadd dX11_judge_174 ?_
    refine ev_istoreG dX11_judge_175 h rfl (by decide) (fun v29 h => ?_)
    show Ev _ _ _ _ 177 _ _ _ [(2, (173 : Int)), (0, x1), (9, 0), (0, x3), (0, x4), (9, 0), (0, v24), (0, x7), (0, x8), (0, x9), (1, v21), (9, 0), (0, v29)] _
    refine ev_iload dX11_judge_177 rfl ?_
    show Ev _ _ _ _ 179 _ _ _ _ _
    refine ev_aload_n dX11_judge_179 rfl (by decide) ?_
    refine ev_iload_n dX11_judge_180 rfl ?_
    refine ev_lload dX11_judge_181 rfl ?_
    refine ev_l2i dX11_judge_183 ?_
    obtain ⟨v30, hc31, h⟩ := bind_of h
    refine ev_invV_v (k := (173 : Int)) (av := [(0, x1), (0, (lj v21))]) (st := [(0, x8)]) (v := (0, v30)) (τ := σ) dX11_judge_184 ml_X11_263 mv_X11_timed (T := TX11) (ci := 10) rfl sp173 (by decide) (by decide) rfl ⟨Nat.le_of_ble_eq_true rfl, Nat.le_of_ble_eq_true rfl⟩ (Nat.le_of_ble_eq_true rfl) (c_X11_timed hc31) ?_
    refine ev_iadd dX11_judge_187 ?_
    refine ev_istoreG dX11_judge_188 h rfl (by decide) (fun v32 h => ?_)
    show Ev _ _ _ _ 190 _ _ _ [(2, (173 : Int)), (0, x1), (9, 0), (0, x3), (0, x4), (9, 0), (0, v24), (0, x7), (0, v32), (0, x9), (1, v21), (9, 0), (0, v29)] _
    refine ev_iload dX11_judge_190 rfl ?_
    refine ev_bipush dX11_judge_192 (by decide) (by decide) ?_
    refine ev_icmp_gt (tgt := 209) dX11_judge_194 rfl h (fun cb h => ?_) (fun cb h => ?_)
    · obtain rfl := Option.some.inj h
      exact ev_sub (L2 := [(9, 0), (9, 0), (9, 0), (9, 0), (9, 0), (9, 0), (9, 0), (9, 0), (9, 0), (0, x9), (9, 0), (9, 0), (9, 0)]) K ⟨.inl rfl, .inl rfl, .inl rfl, .inl rfl, .inl rfl, .inl rfl, .inl rfl, .inl rfl, .inl rfl, .inr rfl, .inl rfl, .inl rfl, .inl rfl, trivial⟩
    refine ev_iload dX11_judge_197 rfl ?_
    refine ev_aload_n dX11_judge_199 rfl (by decide) ?_
    refine ev_getf (j := 0) (t := 2) (x := (174 : Int)) dX11_judge_200 cf_X11 wf_X11_7 sp173 (by decide) (by decide) rfl (by decide) (rp173_0 _) ?_
    refine ev_bipush dX11_judge_203 (by decide) (by decide) ?_
    refine ev_iald dX11_judge_205 sp174 (by decide) (by decide) h (fun h => ?_)
    refine ev_icmp_le (tgt := 212) dX11_judge_206 rfl h (fun cb h => ?_) (fun cb h => ?_)
    · refine ev_iload dX11_judge_212 rfl ?_
      refine ev_aload_n dX11_judge_214 rfl (by decide) ?_
      refine ev_iload_n dX11_judge_215 rfl ?_
      obtain ⟨v33, hc34, h⟩ := bind_of h
      refine ev_invV_v (k := (173 : Int)) (av := [(0, x1)]) (st := [(0, v29)]) (v := (0, v33)) (τ := σ) dX11_judge_216 ml_X11_252 mv_X11_rest (T := TX11) (ci := 10) rfl sp173 (by decide) (by decide) rfl ⟨Nat.le_of_ble_eq_true rfl, Nat.le_of_ble_eq_true rfl⟩ (Nat.le_of_ble_eq_true rfl) (c_X11_rest hc34) ?_
      refine ev_iadd dX11_judge_219 ?_
      refine ev_istoreG dX11_judge_220 h rfl (by decide) (fun v35 h => ?_)
      show Ev _ _ _ _ 222 _ _ _ [(2, (173 : Int)), (0, x1), (9, 0), (0, x3), (0, x4), (9, 0), (0, v24), (0, v35), (0, v32), (0, x9), (1, v21), (9, 0), (0, v29)] _
      refine ev_iincG dX11_judge_222 rfl h rfl (fun v36 h => ?_)
      show Ev _ _ _ _ 225 _ _ _ [(2, (173 : Int)), (0, x1), (9, 0), (0, x3), (0, x4), (9, 0), (0, v24), (0, v35), (0, v32), (0, v36), (1, v21), (9, 0), (0, v29)] _
      refine ev_goto (tgt := 95) dX11_judge_225 rfl ?_
      obtain rfl := Option.some.inj h
      exact ev_sub (L2 := [(2, (173 : Int)), (0, x1), (9, 0), (0, x3), (0, x4), (9, 0), (0, v24), (0, v35), (0, v32), (0, v36), (9, 0), (9, 0), (9, 0)]) K ⟨.inr rfl, .inr rfl, .inl rfl, .inr rfl, .inr rfl, .inl rfl, .inr rfl, .inr rfl, .inr rfl, .inr rfl, .inl rfl, .inl rfl, .inl rfl, trivial⟩
    obtain rfl := Option.some.inj h
    exact ev_sub (L2 := [(9, 0), (9, 0), (9, 0), (9, 0), (9, 0), (9, 0), (9, 0), (9, 0), (9, 0), (0, x9), (9, 0), (9, 0), (9, 0)]) K ⟨.inl rfl, .inl rfl, .inl rfl, .inl rfl, .inl rfl, .inl rfl, .inl rfl, .inl rfl, .inl rfl, .inr rfl, .inl rfl, .inl rfl, .inl rfl, trivial⟩
  obtain rfl := Option.some.inj h
  exact ev_sub (L2 := [(9, 0), (9, 0), (9, 0), (9, 0), (9, 0), (9, 0), (9, 0), (9, 0), (9, 0), (0, x9), (9, 0), (9, 0), (9, 0)]) K ⟨.inl rfl, .inl rfl, .inl rfl, .inl rfl, .inl rfl, .inl rfl, .inl rfl, .inl rfl, .inl rfl, .inr rfl, .inl rfl, .inl rfl, .inl rfl, trivial⟩
set_option maxHeartbeats 4000000 in
set_option maxRecDepth 20000 in
theorem e_X11_judge_95 (σ : Mem) (x1 x3 x4 x6 x7 x8 x9 : Int)  {q : (Int × Mem)} (h : f_X11_judge_95 σ x1 x3 x4 x6 x7 x8 x9 = some q) : Ev M_X11_judge 210 210 (some (0, q.1), rho, q.2) 95 210 rho σ [(2, (173 : Int)), (0, x1), (9, 0), (0, x3), (0, x4), (9, 0), (0, x6), (0, x7), (0, x8), (0, x9), (9, 0), (9, 0), (9, 0)] [] := by
  unfold f_X11_judge_95 at h
  obtain ⟨e, hl, h⟩ := bind_of h
  refine loop_ev (K := K_X11_judge_95 σ x1 x3 x4 (some (0, q.1), rho, q.2)) (b_X11_judge_95 σ x1 x3 x4) FU (x6, x7, x8, x9) e hl ?_
  rcases e with e | e
  · show Ev M_X11_judge 210 210 _ 139 210 rho σ [(9, 0), (9, 0), (9, 0), (9, 0), (9, 0), (9, 0), (9, 0), (9, 0), (9, 0), (0, e), (9, 0), (9, 0), (9, 0)] []
    replace h : some (e, σ) = some q := h
    refine ev_iload dX11_judge_139 rfl ?_
    obtain rfl := Option.some.inj h
    dsimp only
    exact ev_iret dX11_judge_141 rfl rfl
  rcases e with e | e
  · show Ev M_X11_judge 210 210 _ 209 210 rho σ [(9, 0), (9, 0), (9, 0), (9, 0), (9, 0), (9, 0), (9, 0), (9, 0), (9, 0), (0, e), (9, 0), (9, 0), (9, 0)] []
    replace h : some (e, σ) = some q := h
    refine ev_iload dX11_judge_209 rfl ?_
    obtain rfl := Option.some.inj h
    dsimp only
    exact ev_iret dX11_judge_211 rfl rfl
  · show Ev M_X11_judge 210 210 _ 228 210 rho σ [(9, 0), (9, 0), (9, 0), (9, 0), (9, 0), (9, 0), (9, 0), (9, 0), (9, 0), (9, 0), (9, 0), (9, 0), (9, 0)] []
    replace h : some ((-1 : Int), σ) = some q := h
    refine ev_iconst dX11_judge_228 (by decide) ?_
    obtain rfl := Option.some.inj h
    dsimp only
    exact ev_iret dX11_judge_229 rfl rfl
set_option maxHeartbeats 4000000 in
set_option maxRecDepth 20000 in
theorem c_X11_judge {σ : Mem} {x1 x2 x3 x4 : Int}  {q : (Int × Mem)} (h : f_X11_judge σ x1 x2 x3 x4 = some q) : Ms yX11_judge M_X11_judge 210 210 [(2, (173 : Int)), (0, x1), (0, x2), (0, x3), (0, x4)] rho σ (some (0, q.1), rho, q.2) := by
  refine Ms.of 8 (by decide +kernel) rfl (fun z => absurd z (by decide)) (fun _ _ _ => trivial) rfl rfl ?_
  unfold f_X11_judge at h
  show Ev M_X11_judge 210 210 _ 0 210 rho σ [(2, (173 : Int)), (0, x1), (0, x2), (0, x3), (0, x4), (9, 0), (9, 0), (9, 0), (9, 0), (9, 0), (9, 0), (9, 0), (9, 0)] []
  refine ev_aload_n dX11_judge_0 rfl (by decide) ?_
  refine ev_iload_n dX11_judge_1 rfl ?_
  obtain ⟨v1, hc2, h⟩ := bind_of h
  refine ev_invV_v (k := (173 : Int)) (av := [(0, x1)]) (st := []) (v := (0, v1)) (τ := σ) dX11_judge_2 ml_X11_157 mv_X11_isCand (T := TX11) (ci := 10) rfl sp173 (by decide) (by decide) rfl ⟨Nat.le_of_ble_eq_true rfl, Nat.le_of_ble_eq_true rfl⟩ (Nat.le_of_ble_eq_true rfl) (c_X11_isCand hc2) ?_
  refine ev_if_eq (tgt := 35) dX11_judge_5 rfl h (fun cb h => ?_) (fun cb h => ?_)
  · exact ev_sub (L2 := [(2, (173 : Int)), (9, 0), (9, 0), (9, 0), (9, 0), (9, 0), (9, 0), (9, 0), (9, 0), (9, 0), (9, 0), (9, 0), (9, 0)]) (e_X11_judge_35 σ h) ⟨.inr rfl, .inl rfl, .inl rfl, .inl rfl, .inl rfl, .inl rfl, .inl rfl, .inl rfl, .inl rfl, .inl rfl, .inl rfl, .inl rfl, .inl rfl, trivial⟩
  refine ev_iload_n dX11_judge_8 rfl ?_
  obtain ⟨v3, hc4, h⟩ := bind_of h
  refine ev_invS_v (av := [(0, x2)]) (st := []) (v := (0, v3)) (τ := σ) dX11_judge_9 ml_X11_168 mt_X11_isDay rfl ⟨Nat.le_of_ble_eq_true rfl, Nat.le_of_ble_eq_true rfl⟩ (Nat.le_of_ble_eq_true rfl) (c_X11_isDay hc4) ?_
  refine ev_if_eq (tgt := 35) dX11_judge_12 rfl h (fun cb h => ?_) (fun cb h => ?_)
  · exact ev_sub (L2 := [(2, (173 : Int)), (9, 0), (9, 0), (9, 0), (9, 0), (9, 0), (9, 0), (9, 0), (9, 0), (9, 0), (9, 0), (9, 0), (9, 0)]) (e_X11_judge_35 σ h) ⟨.inr rfl, .inl rfl, .inl rfl, .inl rfl, .inl rfl, .inl rfl, .inl rfl, .inl rfl, .inl rfl, .inl rfl, .inl rfl, .inl rfl, .inl rfl, trivial⟩
  refine ev_iload_n dX11_judge_15 rfl ?_
  obtain ⟨v5, hc6, h⟩ := bind_of h
  refine ev_invS_v (av := [(0, x3)]) (st := []) (v := (0, v5)) (τ := σ) dX11_judge_16 ml_X11_145 mt_X11_isShelf rfl ⟨Nat.le_of_ble_eq_true rfl, Nat.le_of_ble_eq_true rfl⟩ (Nat.le_of_ble_eq_true rfl) (c_X11_isShelf hc6) ?_
  refine ev_if_eq (tgt := 35) dX11_judge_19 rfl h (fun cb h => ?_) (fun cb h => ?_)
  · exact ev_sub (L2 := [(2, (173 : Int)), (9, 0), (9, 0), (9, 0), (9, 0), (9, 0), (9, 0), (9, 0), (9, 0), (9, 0), (9, 0), (9, 0), (9, 0)]) (e_X11_judge_35 σ h) ⟨.inr rfl, .inl rfl, .inl rfl, .inl rfl, .inl rfl, .inl rfl, .inl rfl, .inl rfl, .inl rfl, .inl rfl, .inl rfl, .inl rfl, .inl rfl, trivial⟩
  refine ev_iload dX11_judge_22 rfl ?_
  refine ev_i2lk dX11_judge_24 ?_
  refine ev_lconst (x := (0 : Int)) dX11_judge_25 (by decide) (by decide) ?_
  refine ev_ldc2 (x := (12 : Int)) dX11_judge_26 wc_X11_162 (by decide) (by decide) ?_
  obtain ⟨v7, hc8, h⟩ := bind_of h
  refine ev_invS_v (av := [(1, x4), (1, (0 : Int)), (1, (12 : Int))]) (st := []) (v := (0, v7)) (τ := σ) dX11_judge_29 ml_X11_120 mt_X11_isIn rfl ⟨Nat.le_of_ble_eq_true rfl, Nat.le_of_ble_eq_true rfl⟩ (Nat.le_of_ble_eq_true rfl) (c_X11_isIn hc8) ?_
  refine ev_if_ne (tgt := 42) dX11_judge_32 rfl h (fun cb h => ?_) (fun cb h => ?_)
  · refine ev_aload_n dX11_judge_42 rfl (by decide) ?_
    refine ev_iload_n dX11_judge_43 rfl ?_
    refine ev_iload dX11_judge_44 rfl ?_
    obtain ⟨v9, hc10, h⟩ := bind_of h
    refine ev_invV_v (k := (173 : Int)) (av := [(0, x3), (0, x4)]) (st := []) (v := (0, v9)) (τ := σ) dX11_judge_46 ml_X11_365 mv_X11_wrongShelf (T := TX11) (ci := 10) rfl sp173 (by decide) (by decide) rfl ⟨Nat.le_of_ble_eq_true rfl, Nat.le_of_ble_eq_true rfl⟩ (Nat.le_of_ble_eq_true rfl) (c_X11_wrongShelf hc10) ?_
    refine ev_istore dX11_judge_49 rfl (by decide) ?_
    show Ev _ _ _ _ 51 _ _ _ [(2, (173 : Int)), (0, x1), (0, x2), (0, x3), (0, x4), (0, v9), (9, 0), (9, 0), (9, 0), (9, 0), (9, 0), (9, 0), (9, 0)] _
    refine ev_iload dX11_judge_51 rfl ?_
    refine ev_if_eq (tgt := 63) dX11_judge_53 rfl h (fun cb h => ?_) (fun cb h => ?_)
    · refine ev_aload_n dX11_judge_63 rfl (by decide) ?_
      refine ev_iload_n dX11_judge_64 rfl ?_
      obtain ⟨σ11, hc12, h⟩ := bind_of h
      refine ev_invV_n (k := (173 : Int)) (av := [(0, x1)]) (st := []) (τ := σ11) dX11_judge_65 ml_X11_290 mv_X11_plans (T := TX11) (ci := 10) rfl sp173 (by decide) (by decide) rfl ⟨Nat.le_of_ble_eq_true rfl, Nat.le_of_ble_eq_true rfl⟩ (Nat.le_of_ble_eq_true rfl) (c_X11_plans hc12) ?_
      refine ev_aload_n dX11_judge_68 rfl (by decide) ?_
      refine ev_iload_n dX11_judge_69 rfl ?_
      refine ev_iload_n dX11_judge_70 rfl ?_
      obtain ⟨v13, hc14, h⟩ := bind_of h
      refine ev_invV_v (k := (173 : Int)) (av := [(0, x1), (0, x2)]) (st := []) (v := (0, v13)) (τ := σ11) dX11_judge_71 ml_X11_188 mv_X11_ofDay (T := TX11) (ci := 10) rfl sp173 (by decide) (by decide) rfl ⟨Nat.le_of_ble_eq_true rfl, Nat.le_of_ble_eq_true rfl⟩ (Nat.le_of_ble_eq_true rfl) (c_X11_ofDay hc14) ?_
      refine ev_istore dX11_judge_74 rfl (by decide) ?_
      show Ev _ _ _ _ 76 _ _ _ [(2, (173 : Int)), (0, x1), (0, x2), (0, x3), (0, x4), (0, v9), (0, v13), (9, 0), (9, 0), (9, 0), (9, 0), (9, 0), (9, 0)] _
      refine ev_aload_n dX11_judge_76 rfl (by decide) ?_
      refine ev_getf (j := 22) (t := 2) (x := (190 : Int)) dX11_judge_77 cf_X11 wf_X11_60 sp173 (by decide) (by decide) rfl (by decide) (rp173_22 _) ?_
      refine ev_iload_n dX11_judge_80 rfl ?_
      show Ev _ _ _ _ 81 _ _ _ _ _
      refine ev_iald dX11_judge_81 sp190 (by decide) (by decide) h (fun h => ?_)
      refine ev_istoreG dX11_judge_82 h rfl (by decide) (fun v15 h => ?_)
      show Ev _ _ _ _ 84 _ _ _ [(2, (173 : Int)), (0, x1), (0, x2), (0, x3), (0, x4), (0, v9), (0, v13), (0, v15), (9, 0), (9, 0), (9, 0), (9, 0), (9, 0)] _
      refine ev_aload_n dX11_judge_84 rfl (by decide) ?_
      refine ev_getf (j := 23) (t := 2) (x := (191 : Int)) dX11_judge_85 cf_X11 wf_X11_63 sp173 (by decide) (by decide) rfl (by decide) (rp173_23 _) ?_
      refine ev_iload_n dX11_judge_88 rfl ?_
      refine ev_iald dX11_judge_89 sp191 (by decide) (by decide) h (fun h => ?_)
      refine ev_istoreG dX11_judge_90 h rfl (by decide) (fun v16 h => ?_)
      show Ev _ _ _ _ 92 _ _ _ [(2, (173 : Int)), (0, x1), (0, x2), (0, x3), (0, x4), (0, v9), (0, v13), (0, v15), (0, v16), (9, 0), (9, 0), (9, 0), (9, 0)] _
      refine ev_iconst dX11_judge_92 (by decide) ?_
      refine ev_istore dX11_judge_93 rfl (by decide) ?_
      show Ev _ _ _ _ 95 _ _ _ [(2, (173 : Int)), (0, x1), (0, x2), (0, x3), (0, x4), (0, v9), (0, v13), (0, v15), (0, v16), (0, (0 : Int)), (9, 0), (9, 0), (9, 0)] _
      exact ev_sub (L2 := [(2, (173 : Int)), (0, x1), (9, 0), (0, x3), (0, x4), (9, 0), (0, v13), (0, v15), (0, v16), (0, (0 : Int)), (9, 0), (9, 0), (9, 0)]) (e_X11_judge_95 σ11 x1 x3 x4 v13 v15 v16 (0 : Int) h) ⟨.inr rfl, .inr rfl, .inl rfl, .inr rfl, .inr rfl, .inl rfl, .inr rfl, .inr rfl, .inr rfl, .inr rfl, .inl rfl, .inl rfl, .inl rfl, trivial⟩
    refine ev_aload_n dX11_judge_56 rfl (by decide) ?_
    refine ev_iload dX11_judge_57 rfl ?_
    obtain ⟨v17, hc18, h⟩ := bind_of h
    refine ev_invV_v (k := (173 : Int)) (av := [(0, v9)]) (st := []) (v := (0, v17.1)) (τ := v17.2) dX11_judge_59 ml_X11_151 mv_X11_no (T := TX11) (ci := 10) rfl sp173 (by decide) (by decide) rfl ⟨Nat.le_of_ble_eq_true rfl, Nat.le_of_ble_eq_true rfl⟩ (Nat.le_of_ble_eq_true rfl) (c_X11_no hc18) ?_
    obtain rfl := Option.some.inj h
    dsimp only
    exact ev_iret dX11_judge_62 rfl rfl
  exact ev_sub (L2 := [(2, (173 : Int)), (9, 0), (9, 0), (9, 0), (9, 0), (9, 0), (9, 0), (9, 0), (9, 0), (9, 0), (9, 0), (9, 0), (9, 0)]) (e_X11_judge_35 σ h) ⟨.inr rfl, .inl rfl, .inl rfl, .inl rfl, .inl rfl, .inl rfl, .inl rfl, .inl rfl, .inl rfl, .inl rfl, .inl rfl, .inl rfl, .inl rfl, trivial⟩
def K_X11_together_35 (x1 x2 x3 : Int) (r : Option V × Mem × Mem) : (Int × Int × Mem) ⊕ ((Int × Mem)) → Prop := Sum.elim (fun a => Ev M_X11_together 210 210 r 35 210 rho a.2.2 [(2, (173 : Int)), (0, x1), (0, x2), (0, x3), (0, a.1), (0, a.2.1)] []) (fun e => Ev M_X11_together 210 210 r 84 210 rho e.2 [(9, 0), (9, 0), (9, 0), (9, 0), (0, e.1), (9, 0)] [])
set_option maxHeartbeats 4000000 in
set_option maxRecDepth 20000 in
theorem e_X11_together_22 (σ : Mem)  {q : (Int × Mem)} (h : f_X11_together_22 σ  = some q) : Ev M_X11_together 210 210 (some (0, q.1), rho, q.2) 22 210 rho σ [(2, (173 : Int)), (9, 0), (9, 0), (9, 0), (9, 0), (9, 0)] [] := by
  unfold f_X11_together_22 at h
  refine ev_aload_n dX11_together_22 rfl (by decide) ?_
  refine ev_bipush dX11_together_23 (by decide) (by decide) ?_
  obtain ⟨v7, hc8, h⟩ := bind_of h
  refine ev_invV_v (k := (173 : Int)) (av := [(0, (-52 : Int))]) (st := []) (v := (0, v7.1)) (τ := v7.2) dX11_together_25 ml_X11_151 mv_X11_no (T := TX11) (ci := 10) rfl sp173 (by decide) (by decide) rfl ⟨Nat.le_of_ble_eq_true rfl, Nat.le_of_ble_eq_true rfl⟩ (Nat.le_of_ble_eq_true rfl) (c_X11_no hc8) ?_
  obtain rfl := Option.some.inj h
  dsimp only
  exact ev_iret dX11_together_28 rfl rfl
set_option maxHeartbeats 4000000 in
set_option maxRecDepth 20000 in
theorem e_X11_together_75 (σ : Mem) (x1 x2 x3 x5 s1 s0 : Int)  {q : ((Int × Int × Mem) ⊕ ((Int × Mem)))} (h : f_X11_together_75 σ x1 x2 x3 x5 s1 s0 = some q) {r : Option V × Mem × Mem} (K : K_X11_together_35 x1 x2 x3 r q) : Ev M_X11_together 210 210 r 75 210 rho σ [(2, (173 : Int)), (0, x1), (0, x2), (0, x3), (9, 0), (0, x5)] [(0, s1), (0, s0)] := by
  unfold f_X11_together_75 at h
  refine ev_ior dX11_together_75 ?_
  refine ev_istoreG dX11_together_76 h rfl (by decide) (fun v13 h => ?_)
  show Ev _ _ _ _ 78 _ _ _ [(2, (173 : Int)), (0, x1), (0, x2), (0, x3), (0, v13), (0, x5)] _
  refine ev_iincG dX11_together_78 rfl h rfl (fun v14 h => ?_)
  show Ev _ _ _ _ 81 _ _ _ [(2, (173 : Int)), (0, x1), (0, x2), (0, x3), (0, v13), (0, v14)] _
  refine ev_goto (tgt := 35) dX11_together_81 rfl ?_
  obtain rfl := Option.some.inj h
  exact ev_sub (L2 := [(2, (173 : Int)), (0, x1), (0, x2), (0, x3), (0, v13), (0, v14)]) K ⟨.inr rfl, .inr rfl, .inr rfl, .inr rfl, .inr rfl, .inr rfl, trivial⟩
set_option maxHeartbeats 4000000 in
set_option maxRecDepth 20000 in
theorem b_X11_together_35 (x1 x2 x3 : Int)  {r : Option V × Mem × Mem} : ∀ a x, f_X11_together_35B x1 x2 x3 a = some x → K_X11_together_35 x1 x2 x3 r x → K_X11_together_35 x1 x2 x3 r (.inl a) := by
  intro a x h K
  obtain ⟨x4, x5, σ⟩ := a
  have h : f_X11_together_35C x1 x2 x3 x4 x5 σ = some x := h
  unfold f_X11_together_35C at h
  show Ev M_X11_together 210 210 r 35 210 rho σ [(2, (173 : Int)), (0, x1), (0, x2), (0, x3), (0, x4), (0, x5)] []
  refine ev_iload dX11_together_35 rfl ?_
  refine ev_aload_n dX11_together_37 rfl (by decide) ?_
  refine ev_getf (j := 0) (t := 2) (x := (174 : Int)) dX11_together_38 cf_X11 wf_X11_7 sp173 (by decide) (by decide) rfl (by decide) (rp173_0 _) ?_
  refine ev_bipush dX11_together_41 (by decide) (by decide) ?_
  refine ev_iald dX11_together_43 sp174 (by decide) (by decide) h (fun h => ?_)
  refine ev_icmp_ge (tgt := 84) dX11_together_44 rfl h (fun cb h => ?_) (fun cb h => ?_)
  · obtain rfl := Option.some.inj h
    exact ev_sub (L2 := [(9, 0), (9, 0), (9, 0), (9, 0), (0, x4), (9, 0)]) K ⟨.inl rfl, .inl rfl, .inl rfl, .inl rfl, .inr rfl, .inl rfl, trivial⟩
  refine ev_aload_n dX11_together_47 rfl (by decide) ?_
  refine ev_iload dX11_together_48 rfl ?_
  obtain ⟨σ9, hc10, h⟩ := bind_of h
  refine ev_invV_n (k := (173 : Int)) (av := [(0, x5)]) (st := []) (τ := σ9) dX11_together_50 ml_X11_290 mv_X11_plans (T := TX11) (ci := 10) rfl sp173 (by decide) (by decide) rfl ⟨Nat.le_of_ble_eq_true rfl, Nat.le_of_ble_eq_true rfl⟩ (Nat.le_of_ble_eq_true rfl) (c_X11_plans hc10) ?_
  refine ev_iload dX11_together_53 rfl ?_
  refine ev_aload_n dX11_together_55 rfl (by decide) ?_
  refine ev_iload dX11_together_56 rfl ?_
  refine ev_iload_n dX11_together_58 rfl ?_
  refine ev_iload_n dX11_together_59 rfl ?_
  obtain ⟨v11, hc12, h⟩ := bind_of h
  refine ev_invV_v (k := (173 : Int)) (av := [(0, x5), (0, x2), (0, x3)]) (st := [(0, x4)]) (v := (0, v11)) (τ := σ9) dX11_together_60 ml_X11_310 mv_X11_doing (T := TX11) (ci := 10) rfl sp173 (by decide) (by decide) rfl ⟨Nat.le_of_ble_eq_true rfl, Nat.le_of_ble_eq_true rfl⟩ (Nat.le_of_ble_eq_true rfl) (c_X11_doing hc12) ?_
  refine ev_iload_n dX11_together_63 rfl ?_
  refine ev_icmp_ne (tgt := 74) dX11_together_64 rfl h (fun cb h => ?_) (fun cb h => ?_)
  · refine ev_iconst dX11_together_74 (by decide) ?_
    exact ev_sub (L2 := [(2, (173 : Int)), (0, x1), (0, x2), (0, x3), (9, 0), (0, x5)]) (e_X11_together_75 σ9 x1 x2 x3 x5 (0 : Int) x4 h K) ⟨.inr rfl, .inr rfl, .inr rfl, .inr rfl, .inl rfl, .inr rfl, trivial⟩
  refine ev_iconst dX11_together_67 (by decide) ?_
  refine ev_iload dX11_together_68 rfl ?_
  refine ev_ishl dX11_together_70 ?_
  refine ev_goto (tgt := 75) dX11_together_71 rfl ?_
  exact ev_sub (L2 := [(2, (173 : Int)), (0, x1), (0, x2), (0, x3), (9, 0), (0, x5)]) (e_X11_together_75 σ9 x1 x2 x3 x5 (jshl (1 : Int) x5) x4 h K) ⟨.inr rfl, .inr rfl, .inr rfl, .inr rfl, .inl rfl, .inr rfl, trivial⟩
set_option maxHeartbeats 4000000 in
set_option maxRecDepth 20000 in
theorem e_X11_together_35 (σ : Mem) (x1 x2 x3 x4 x5 : Int)  {q : (Int × Mem)} (h : f_X11_together_35 σ x1 x2 x3 x4 x5 = some q) : Ev M_X11_together 210 210 (some (0, q.1), rho, q.2) 35 210 rho σ [(2, (173 : Int)), (0, x1), (0, x2), (0, x3), (0, x4), (0, x5)] [] := by
  unfold f_X11_together_35 at h
  obtain ⟨e, hl, h⟩ := bind_of h
  refine loop_ev (K := K_X11_together_35 x1 x2 x3 (some (0, q.1), rho, q.2)) (b_X11_together_35 x1 x2 x3) FU (x4, x5, σ) e hl ?_
  show Ev M_X11_together 210 210 _ 84 210 rho e.2 [(9, 0), (9, 0), (9, 0), (9, 0), (0, e.1), (9, 0)] []
  replace h : some (e.1, e.2) = some q := h
  refine ev_iload dX11_together_84 rfl ?_
  obtain rfl := Option.some.inj h
  dsimp only
  exact ev_iret dX11_together_86 rfl rfl
set_option maxHeartbeats 4000000 in
set_option maxRecDepth 20000 in
theorem c_X11_together {σ : Mem} {x1 x2 x3 : Int}  {q : (Int × Mem)} (h : f_X11_together σ x1 x2 x3 = some q) : Ms yX11_together M_X11_together 210 210 [(2, (173 : Int)), (0, x1), (0, x2), (0, x3)] rho σ (some (0, q.1), rho, q.2) := by
  refine Ms.of 2 (by decide +kernel) rfl (fun z => absurd z (by decide)) (fun _ _ _ => trivial) rfl rfl ?_
  unfold f_X11_together at h
  show Ev M_X11_together 210 210 _ 0 210 rho σ [(2, (173 : Int)), (0, x1), (0, x2), (0, x3), (9, 0), (9, 0)] []
  refine ev_aload_n dX11_together_0 rfl (by decide) ?_
  refine ev_iload_n dX11_together_1 rfl ?_
  obtain ⟨v1, hc2, h⟩ := bind_of h
  refine ev_invV_v (k := (173 : Int)) (av := [(0, x1)]) (st := []) (v := (0, v1)) (τ := σ) dX11_together_2 ml_X11_174 mv_X11_isPaper (T := TX11) (ci := 10) rfl sp173 (by decide) (by decide) rfl ⟨Nat.le_of_ble_eq_true rfl, Nat.le_of_ble_eq_true rfl⟩ (Nat.le_of_ble_eq_true rfl) (c_X11_isPaper hc2) ?_
  refine ev_if_eq (tgt := 22) dX11_together_5 rfl h (fun cb h => ?_) (fun cb h => ?_)
  · exact ev_sub (L2 := [(2, (173 : Int)), (9, 0), (9, 0), (9, 0), (9, 0), (9, 0)]) (e_X11_together_22 σ h) ⟨.inr rfl, .inl rfl, .inl rfl, .inl rfl, .inl rfl, .inl rfl, trivial⟩
  refine ev_iload_n dX11_together_8 rfl ?_
  obtain ⟨v3, hc4, h⟩ := bind_of h
  refine ev_invS_v (av := [(0, x2)]) (st := []) (v := (0, v3)) (τ := σ) dX11_together_9 ml_X11_168 mt_X11_isDay rfl ⟨Nat.le_of_ble_eq_true rfl, Nat.le_of_ble_eq_true rfl⟩ (Nat.le_of_ble_eq_true rfl) (c_X11_isDay hc4) ?_
  refine ev_if_eq (tgt := 22) dX11_together_12 rfl h (fun cb h => ?_) (fun cb h => ?_)
  · exact ev_sub (L2 := [(2, (173 : Int)), (9, 0), (9, 0), (9, 0), (9, 0), (9, 0)]) (e_X11_together_22 σ h) ⟨.inr rfl, .inl rfl, .inl rfl, .inl rfl, .inl rfl, .inl rfl, trivial⟩
  refine ev_iload_n dX11_together_15 rfl ?_
  obtain ⟨v5, hc6, h⟩ := bind_of h
  refine ev_invS_v (av := [(0, x3)]) (st := []) (v := (0, v5)) (τ := σ) dX11_together_16 ml_X11_171 mt_X11_isSlot rfl ⟨Nat.le_of_ble_eq_true rfl, Nat.le_of_ble_eq_true rfl⟩ (Nat.le_of_ble_eq_true rfl) (c_X11_isSlot hc6) ?_
  refine ev_if_ne (tgt := 29) dX11_together_19 rfl h (fun cb h => ?_) (fun cb h => ?_)
  · refine ev_iconst dX11_together_29 (by decide) ?_
    refine ev_istore dX11_together_30 rfl (by decide) ?_
    show Ev _ _ _ _ 32 _ _ _ [(2, (173 : Int)), (0, x1), (0, x2), (0, x3), (0, (0 : Int)), (9, 0)] _
    refine ev_iconst dX11_together_32 (by decide) ?_
    refine ev_istore dX11_together_33 rfl (by decide) ?_
    show Ev _ _ _ _ 35 _ _ _ [(2, (173 : Int)), (0, x1), (0, x2), (0, x3), (0, (0 : Int)), (0, (0 : Int))] _
    exact ev_sub (L2 := [(2, (173 : Int)), (0, x1), (0, x2), (0, x3), (0, (0 : Int)), (0, (0 : Int))]) (e_X11_together_35 σ x1 x2 x3 (0 : Int) (0 : Int) h) ⟨.inr rfl, .inr rfl, .inr rfl, .inr rfl, .inr rfl, .inr rfl, trivial⟩
  exact ev_sub (L2 := [(2, (173 : Int)), (9, 0), (9, 0), (9, 0), (9, 0), (9, 0)]) (e_X11_together_22 σ h) ⟨.inr rfl, .inl rfl, .inl rfl, .inl rfl, .inl rfl, .inl rfl, trivial⟩
set_option maxHeartbeats 4000000 in
set_option maxRecDepth 20000 in
theorem c_X11_draw {σ : Mem} {x1 : Int}  {q : (Int × Mem)} (h : f_X11_draw σ x1 = some q) : Ms yX11_draw M_X11_draw 210 210 [(2, (173 : Int)), (0, x1)] rho σ (some (0, q.1), rho, q.2) := by
  refine Ms.of 0 (by decide +kernel) rfl (fun z => absurd z (by decide)) (fun _ _ _ => trivial) rfl rfl ?_
  unfold f_X11_draw at h
  show Ev M_X11_draw 210 210 _ 0 210 rho σ [(2, (173 : Int)), (0, x1)] []
  refine ev_aload_n dX11_draw_0 rfl (by decide) ?_
  refine ev_getf (j := 0) (t := 2) (x := (174 : Int)) dX11_draw_1 cf_X11 wf_X11_7 sp173 (by decide) (by decide) rfl (by decide) (rp173_0 _) ?_
  refine ev_bipush dX11_draw_4 (by decide) (by decide) ?_
  refine ev_aload_n dX11_draw_6 rfl (by decide) ?_
  refine ev_getf (j := 0) (t := 2) (x := (174 : Int)) dX11_draw_7 cf_X11 wf_X11_7 sp173 (by decide) (by decide) rfl (by decide) (rp173_0 _) ?_
  refine ev_bipush dX11_draw_10 (by decide) (by decide) ?_
  refine ev_iald dX11_draw_12 sp174 (by decide) (by decide) h (fun h => ?_)
  refine ev_ldcw (x := (1103515245 : Int)) dX11_draw_13 wc_X11_370 (by decide) (by decide) ?_
  refine ev_imul dX11_draw_16 ?_
  refine ev_sipush dX11_draw_17 (by decide) (by decide) ?_
  refine ev_iadd dX11_draw_20 ?_
  show Ev _ _ _ _ 21 _ _ _ _ _
  refine ev_iastG dX11_draw_21 sp174 (by decide) (by decide) h (fun σ1 h => ?_)
  refine ev_aload_n dX11_draw_22 rfl (by decide) ?_
  refine ev_getf (j := 0) (t := 2) (x := (174 : Int)) dX11_draw_23 cf_X11 wf_X11_7 sp173 (by decide) (by decide) rfl (by decide) (rp173_0 _) ?_
  refine ev_bipush dX11_draw_26 (by decide) (by decide) ?_
  refine ev_iald dX11_draw_28 sp174 (by decide) (by decide) h (fun h => ?_)
  refine ev_bipush dX11_draw_29 (by decide) (by decide) ?_
  refine ev_iushr dX11_draw_31 ?_
  refine ev_iload_n dX11_draw_32 rfl ?_
  refine ev_irem dX11_draw_33 h (fun h => ?_)
  obtain rfl := Option.some.inj h
  dsimp only
  exact ev_iret dX11_draw_34 rfl rfl
def K_X11_changes_50 (x1 : Int) (r : Option V × Mem × Mem) : (Int × Int × Mem) ⊕ ((Int × Mem)) → Prop := Sum.elim (fun a => Ev M_X11_changes 210 210 r 50 210 rho a.2.2 [(2, (173 : Int)), (0, x1), (0, a.1), (0, a.2.1), (9, 0), (9, 0)] []) (fun e => Ev M_X11_changes 210 210 r 109 210 rho e.2 [(9, 0), (9, 0), (0, e.1), (9, 0), (9, 0), (9, 0)] [])
set_option maxHeartbeats 4000000 in
set_option maxRecDepth 20000 in
theorem e_X11_changes_39 (σ : Mem)  {q : (Int × Mem)} (h : f_X11_changes_39 σ  = some q) : Ev M_X11_changes 210 210 (some (0, q.1), rho, q.2) 39 210 rho σ [(2, (173 : Int)), (9, 0), (9, 0), (9, 0), (9, 0), (9, 0)] [] := by
  unfold f_X11_changes_39 at h
  refine ev_aload_n dX11_changes_39 rfl (by decide) ?_
  refine ev_bipush dX11_changes_40 (by decide) (by decide) ?_
  obtain ⟨v5, hc6, h⟩ := bind_of h
  refine ev_invV_v (k := (173 : Int)) (av := [(0, (-55 : Int))]) (st := []) (v := (0, v5.1)) (τ := v5.2) dX11_changes_42 ml_X11_151 mv_X11_no (T := TX11) (ci := 10) rfl sp173 (by decide) (by decide) rfl ⟨Nat.le_of_ble_eq_true rfl, Nat.le_of_ble_eq_true rfl⟩ (Nat.le_of_ble_eq_true rfl) (c_X11_no hc6) ?_
  obtain rfl := Option.some.inj h
  dsimp only
  exact ev_iret dX11_changes_45 rfl rfl
set_option maxHeartbeats 4000000 in
set_option maxRecDepth 20000 in
theorem e_X11_changes_103 (σ : Mem) (x1 x2 x3 : Int)  {q : ((Int × Int × Mem) ⊕ ((Int × Mem)))} (h : f_X11_changes_103 σ x1 x2 x3 = some q) {r : Option V × Mem × Mem} (K : K_X11_changes_50 x1 r q) : Ev M_X11_changes 210 210 r 103 210 rho σ [(2, (173 : Int)), (0, x1), (0, x2), (0, x3), (9, 0), (9, 0)] [] := by
  unfold f_X11_changes_103 at h
  refine ev_iincG dX11_changes_103 rfl h rfl (fun v18 h => ?_)
  show Ev _ _ _ _ 106 _ _ _ [(2, (173 : Int)), (0, x1), (0, x2), (0, v18), (9, 0), (9, 0)] _
  refine ev_goto (tgt := 50) dX11_changes_106 rfl ?_
  obtain rfl := Option.some.inj h
  exact ev_sub (L2 := [(2, (173 : Int)), (0, x1), (0, x2), (0, v18), (9, 0), (9, 0)]) K ⟨.inr rfl, .inr rfl, .inr rfl, .inr rfl, .inl rfl, .inl rfl, trivial⟩
set_option maxHeartbeats 4000000 in
set_option maxRecDepth 20000 in
theorem b_X11_changes_50 (x1 : Int)  {r : Option V × Mem × Mem} : ∀ a x, f_X11_changes_50B x1 a = some x → K_X11_changes_50 x1 r x → K_X11_changes_50 x1 r (.inl a) := by
  intro a x h K
  obtain ⟨x2, x3, σ⟩ := a
  have h : f_X11_changes_50C x1 x2 x3 σ = some x := h
  unfold f_X11_changes_50C at h
  show Ev M_X11_changes 210 210 r 50 210 rho σ [(2, (173 : Int)), (0, x1), (0, x2), (0, x3), (9, 0), (9, 0)] []
  refine ev_iload_n dX11_changes_50 rfl ?_
  refine ev_iload_n dX11_changes_51 rfl ?_
  refine ev_icmp_ge (tgt := 109) dX11_changes_52 rfl h (fun cb h => ?_) (fun cb h => ?_)
  · obtain rfl := Option.some.inj h
    exact ev_sub (L2 := [(9, 0), (9, 0), (0, x2), (9, 0), (9, 0), (9, 0)]) K ⟨.inl rfl, .inl rfl, .inr rfl, .inl rfl, .inl rfl, .inl rfl, trivial⟩
  refine ev_aload_n dX11_changes_55 rfl (by decide) ?_
  refine ev_aload_n dX11_changes_56 rfl (by decide) ?_
  refine ev_getf (j := 0) (t := 2) (x := (174 : Int)) dX11_changes_57 cf_X11 wf_X11_7 sp173 (by decide) (by decide) rfl (by decide) (rp173_0 _) ?_
  refine ev_bipush dX11_changes_60 (by decide) (by decide) ?_
  refine ev_iald dX11_changes_62 sp174 (by decide) (by decide) h (fun h => ?_)
  obtain ⟨v7, hc8, h⟩ := bind_of h
  refine ev_invV_v (k := (173 : Int)) (av := [(0, (σ (174 : Int) (83 : Int)))]) (st := []) (v := (0, v7.1)) (τ := v7.2) dX11_changes_63 ml_X11_373 mv_X11_draw (T := TX11) (ci := 10) rfl sp173 (by decide) (by decide) rfl ⟨Nat.le_of_ble_eq_true rfl, Nat.le_of_ble_eq_true rfl⟩ (Nat.le_of_ble_eq_true rfl) (c_X11_draw hc8) ?_
  refine ev_istoreG dX11_changes_66 h rfl (by decide) (fun v9 h => ?_)
  show Ev _ _ _ _ 68 _ _ _ [(2, (173 : Int)), (0, x1), (0, x2), (0, x3), (0, v9), (9, 0)] _
  refine ev_aload_n dX11_changes_68 rfl (by decide) ?_
  refine ev_aload_n dX11_changes_69 rfl (by decide) ?_
  refine ev_getf (j := 0) (t := 2) (x := (174 : Int)) dX11_changes_70 cf_X11 wf_X11_7 sp173 (by decide) (by decide) rfl (by decide) (rp173_0 _) ?_
  refine ev_bipush dX11_changes_73 (by decide) (by decide) ?_
  show Ev _ _ _ _ 75 _ _ _ _ _
  refine ev_iald dX11_changes_75 sp174 (by decide) (by decide) h (fun h => ?_)
  obtain ⟨v10, hc11, h⟩ := bind_of h
  refine ev_invV_v (k := (173 : Int)) (av := [(0, (v7.2 (174 : Int) (82 : Int)))]) (st := []) (v := (0, v10.1)) (τ := v10.2) dX11_changes_76 ml_X11_373 mv_X11_draw (T := TX11) (ci := 10) rfl sp173 (by decide) (by decide) rfl ⟨Nat.le_of_ble_eq_true rfl, Nat.le_of_ble_eq_true rfl⟩ (Nat.le_of_ble_eq_true rfl) (c_X11_draw hc11) ?_
  refine ev_istoreG dX11_changes_79 h rfl (by decide) (fun v12 h => ?_)
  show Ev _ _ _ _ 81 _ _ _ [(2, (173 : Int)), (0, x1), (0, x2), (0, x3), (0, v9), (0, v12)] _
  refine ev_aload_n dX11_changes_81 rfl (by decide) ?_
  refine ev_iload dX11_changes_82 rfl ?_
  refine ev_iload dX11_changes_84 rfl ?_
  obtain ⟨v13, hc14, h⟩ := bind_of h
  refine ev_invV_v (k := (173 : Int)) (av := [(0, v9), (0, v12)]) (st := []) (v := (0, v13)) (τ := v10.2) dX11_changes_86 ml_X11_194 mv_X11_isFifth (T := TX11) (ci := 10) rfl sp173 (by decide) (by decide) rfl ⟨Nat.le_of_ble_eq_true rfl, Nat.le_of_ble_eq_true rfl⟩ (Nat.le_of_ble_eq_true rfl) (c_X11_isFifth hc14) ?_
  refine ev_if_ne (tgt := 103) dX11_changes_89 rfl h (fun cb h => ?_) (fun cb h => ?_)
  · exact ev_sub (L2 := [(2, (173 : Int)), (0, x1), (0, x2), (0, x3), (9, 0), (9, 0)]) (e_X11_changes_103 v10.2 x1 x2 x3 h K) ⟨.inr rfl, .inr rfl, .inr rfl, .inr rfl, .inl rfl, .inl rfl, trivial⟩
  refine ev_aload_n dX11_changes_92 rfl (by decide) ?_
  refine ev_iload dX11_changes_93 rfl ?_
  refine ev_iload dX11_changes_95 rfl ?_
  obtain ⟨σ15, hc16, h⟩ := bind_of h
  refine ev_invV_n (k := (173 : Int)) (av := [(0, v9), (0, v12)]) (st := []) (τ := σ15) dX11_changes_97 ml_X11_197 mv_X11_toggles (T := TX11) (ci := 10) rfl sp173 (by decide) (by decide) rfl ⟨Nat.le_of_ble_eq_true rfl, Nat.le_of_ble_eq_true rfl⟩ (Nat.le_of_ble_eq_true rfl) (c_X11_toggles hc16) ?_
  refine ev_iincG dX11_changes_100 rfl h rfl (fun v17 h => ?_)
  show Ev _ _ _ _ 103 _ _ _ [(2, (173 : Int)), (0, x1), (0, v17), (0, x3), (0, v9), (0, v12)] _
  exact ev_sub (L2 := [(2, (173 : Int)), (0, x1), (0, v17), (0, x3), (9, 0), (9, 0)]) (e_X11_changes_103 σ15 x1 v17 x3 h K) ⟨.inr rfl, .inr rfl, .inr rfl, .inr rfl, .inl rfl, .inl rfl, trivial⟩
set_option maxHeartbeats 4000000 in
set_option maxRecDepth 20000 in
theorem e_X11_changes_50 (σ : Mem) (x1 x2 x3 : Int)  {q : (Int × Mem)} (h : f_X11_changes_50 σ x1 x2 x3 = some q) : Ev M_X11_changes 210 210 (some (0, q.1), rho, q.2) 50 210 rho σ [(2, (173 : Int)), (0, x1), (0, x2), (0, x3), (9, 0), (9, 0)] [] := by
  unfold f_X11_changes_50 at h
  obtain ⟨e, hl, h⟩ := bind_of h
  refine loop_ev (K := K_X11_changes_50 x1 (some (0, q.1), rho, q.2)) (b_X11_changes_50 x1) FU (x2, x3, σ) e hl ?_
  show Ev M_X11_changes 210 210 _ 109 210 rho e.2 [(9, 0), (9, 0), (0, e.1), (9, 0), (9, 0), (9, 0)] []
  replace h : some (e.1, e.2) = some q := h
  refine ev_iload_n dX11_changes_109 rfl ?_
  obtain rfl := Option.some.inj h
  dsimp only
  exact ev_iret dX11_changes_110 rfl rfl
set_option maxHeartbeats 4000000 in
set_option maxRecDepth 20000 in
theorem c_X11_changes {σ : Mem} {x1 : Int}  {q : (Int × Mem)} (h : f_X11_changes σ x1 = some q) : Ms yX11_changes M_X11_changes 210 210 [(2, (173 : Int)), (0, x1)] rho σ (some (0, q.1), rho, q.2) := by
  refine Ms.of 4 (by decide +kernel) rfl (fun z => absurd z (by decide)) (fun _ _ _ => trivial) rfl rfl ?_
  unfold f_X11_changes at h
  show Ev M_X11_changes 210 210 _ 0 210 rho σ [(2, (173 : Int)), (0, x1), (9, 0), (9, 0), (9, 0), (9, 0)] []
  refine ev_iload_n dX11_changes_0 rfl ?_
  refine ev_i2lk dX11_changes_1 ?_
  refine ev_lconst (x := (1 : Int)) dX11_changes_2 (by decide) (by decide) ?_
  refine ev_ldc2 (x := (60 : Int)) dX11_changes_3 wc_X11_371 (by decide) (by decide) ?_
  obtain ⟨v1, hc2, h⟩ := bind_of h
  refine ev_invS_v (av := [(1, x1), (1, (1 : Int)), (1, (60 : Int))]) (st := []) (v := (0, v1)) (τ := σ) dX11_changes_6 ml_X11_120 mt_X11_isIn rfl ⟨Nat.le_of_ble_eq_true rfl, Nat.le_of_ble_eq_true rfl⟩ (Nat.le_of_ble_eq_true rfl) (c_X11_isIn hc2) ?_
  refine ev_if_ne (tgt := 19) dX11_changes_9 rfl h (fun cb h => ?_) (fun cb h => ?_)
  · refine ev_aload_n dX11_changes_19 rfl (by decide) ?_
    refine ev_getf (j := 0) (t := 2) (x := (174 : Int)) dX11_changes_20 cf_X11 wf_X11_7 sp173 (by decide) (by decide) rfl (by decide) (rp173_0 _) ?_
    refine ev_bipush dX11_changes_23 (by decide) (by decide) ?_
    refine ev_iald dX11_changes_25 sp174 (by decide) (by decide) h (fun h => ?_)
    refine ev_if_eq (tgt := 39) dX11_changes_26 rfl h (fun cb h => ?_) (fun cb h => ?_)
    · exact ev_sub (L2 := [(2, (173 : Int)), (9, 0), (9, 0), (9, 0), (9, 0), (9, 0)]) (e_X11_changes_39 σ h) ⟨.inr rfl, .inl rfl, .inl rfl, .inl rfl, .inl rfl, .inl rfl, trivial⟩
    refine ev_aload_n dX11_changes_29 rfl (by decide) ?_
    refine ev_getf (j := 0) (t := 2) (x := (174 : Int)) dX11_changes_30 cf_X11 wf_X11_7 sp173 (by decide) (by decide) rfl (by decide) (rp173_0 _) ?_
    refine ev_bipush dX11_changes_33 (by decide) (by decide) ?_
    refine ev_iald dX11_changes_35 sp174 (by decide) (by decide) h (fun h => ?_)
    refine ev_if_ne (tgt := 46) dX11_changes_36 rfl h (fun cb h => ?_) (fun cb h => ?_)
    · refine ev_iconst dX11_changes_46 (by decide) ?_
      refine ev_istore_n dX11_changes_47 rfl (by decide) ?_
      show Ev _ _ _ _ 48 _ _ _ [(2, (173 : Int)), (0, x1), (0, (0 : Int)), (9, 0), (9, 0), (9, 0)] _
      refine ev_iconst dX11_changes_48 (by decide) ?_
      refine ev_istore_n dX11_changes_49 rfl (by decide) ?_
      show Ev _ _ _ _ 50 _ _ _ [(2, (173 : Int)), (0, x1), (0, (0 : Int)), (0, (0 : Int)), (9, 0), (9, 0)] _
      exact ev_sub (L2 := [(2, (173 : Int)), (0, x1), (0, (0 : Int)), (0, (0 : Int)), (9, 0), (9, 0)]) (e_X11_changes_50 σ x1 (0 : Int) (0 : Int) h) ⟨.inr rfl, .inr rfl, .inr rfl, .inr rfl, .inl rfl, .inl rfl, trivial⟩
    exact ev_sub (L2 := [(2, (173 : Int)), (9, 0), (9, 0), (9, 0), (9, 0), (9, 0)]) (e_X11_changes_39 σ h) ⟨.inr rfl, .inl rfl, .inl rfl, .inl rfl, .inl rfl, .inl rfl, trivial⟩
  refine ev_aload_n dX11_changes_12 rfl (by decide) ?_
  refine ev_bipush dX11_changes_13 (by decide) (by decide) ?_
  obtain ⟨v3, hc4, h⟩ := bind_of h
  refine ev_invV_v (k := (173 : Int)) (av := [(0, (-52 : Int))]) (st := []) (v := (0, v3.1)) (τ := v3.2) dX11_changes_15 ml_X11_151 mv_X11_no (T := TX11) (ci := 10) rfl sp173 (by decide) (by decide) rfl ⟨Nat.le_of_ble_eq_true rfl, Nat.le_of_ble_eq_true rfl⟩ (Nat.le_of_ble_eq_true rfl) (c_X11_no hc4) ?_
  obtain rfl := Option.some.inj h
  dsimp only
  exact ev_iret dX11_changes_18 rfl rfl
set_option maxHeartbeats 4000000 in
set_option maxRecDepth 20000 in
theorem c_X11_seed {σ : Mem} {x1 : Int}  {q : (Int × Mem)} (h : f_X11_seed σ x1 = some q) : Ms yX11_seed M_X11_seed 210 210 [(2, (173 : Int)), (0, x1)] rho σ (some (0, q.1), rho, q.2) := by
  refine Ms.of 0 (by decide +kernel) rfl (fun z => absurd z (by decide)) (fun _ _ _ => trivial) rfl rfl ?_
  unfold f_X11_seed at h
  show Ev M_X11_seed 210 210 _ 0 210 rho σ [(2, (173 : Int)), (0, x1)] []
  refine ev_aload_n dX11_seed_0 rfl (by decide) ?_
  refine ev_bipush dX11_seed_1 (by decide) (by decide) ?_
  refine ev_iload_n dX11_seed_3 rfl ?_
  obtain ⟨v1, hc2, h⟩ := bind_of h
  refine ev_invV_v (k := (173 : Int)) (av := [(0, (87 : Int)), (0, x1)]) (st := []) (v := (0, v1.1)) (τ := v1.2) dX11_seed_4 ml_X11_177 mv_X11_becomes (T := TX11) (ci := 10) rfl sp173 (by decide) (by decide) rfl ⟨Nat.le_of_ble_eq_true rfl, Nat.le_of_ble_eq_true rfl⟩ (Nat.le_of_ble_eq_true rfl) (c_X11_becomes hc2) ?_
  obtain rfl := Option.some.inj h
  dsimp only
  exact ev_iret dX11_seed_7 rfl rfl
set_option maxHeartbeats 4000000 in
set_option maxRecDepth 20000 in
theorem c_X11_image {σ : Mem}  {q : (Int × Mem)} (h : f_X11_image σ  = some q) : Ms yX11_image M_X11_image 210 210 [(2, (173 : Int))] rho σ (some (0, q.1), rho, q.2) := by
  refine Ms.of 0 (by decide +kernel) rfl (fun z => absurd z (by decide)) (fun _ _ _ => trivial) rfl rfl ?_
  unfold f_X11_image at h
  show Ev M_X11_image 210 210 _ 0 210 rho σ [(2, (173 : Int))] []
  refine ev_aload_n dX11_image_0 rfl (by decide) ?_
  refine ev_getf (j := 0) (t := 2) (x := (174 : Int)) dX11_image_1 cf_X11 wf_X11_7 sp173 (by decide) (by decide) rfl (by decide) (rp173_0 _) ?_
  refine ev_aload_n dX11_image_4 rfl (by decide) ?_
  refine ev_getf (j := 1) (t := 2) (x := (175 : Int)) dX11_image_5 cf_X11 wf_X11_13 sp173 (by decide) (by decide) rfl (by decide) (rp173_1 _) ?_
  obtain ⟨σ1, hc2, h⟩ := bind_of h
  refine ev_invS_n (av := [(2, (174 : Int)), (2, (175 : Int))]) (st := []) (τ := σ1) dX11_image_8 ml_X11_245 mt_X11_move rfl ⟨Nat.le_of_ble_eq_true rfl, Nat.le_of_ble_eq_true rfl⟩ (Nat.le_of_ble_eq_true rfl) (c_X11_move hM174 hM175 hc2) ?_
  refine ev_aload_n dX11_image_11 rfl (by decide) ?_
  refine ev_iconst dX11_image_12 (by decide) ?_
  refine ev_putfG (j := 2) (t := 0) dX11_image_13 cf_X11 wf_X11_376 sp173 (by decide) (by decide) rfl (by decide) (by decide) rfl (fun _ => .inr rfl) h (fun σ3 h => ?_)
  refine ev_iconst dX11_image_16 (by decide) ?_
  obtain rfl := Option.some.inj h
  dsimp only
  exact ev_iret dX11_image_17 rfl rfl
def K_X11_back_27 (r : Option V × Mem × Mem) : (Int × Mem) ⊕ ((Mem)) → Prop := Sum.elim (fun a => Ev M_X11_back 210 210 r 27 210 rho a.2 [(2, (173 : Int)), (0, a.1)] []) (fun e => Ev M_X11_back 210 210 r 74 210 rho e [(9, 0), (9, 0)] [])
set_option maxHeartbeats 4000000 in
set_option maxRecDepth 20000 in
theorem e_X11_back_67 (σ : Mem) (x1 s2 s1 : Int)  {q : ((Int × Mem) ⊕ ((Mem)))} (h : f_X11_back_67 σ x1 s2 s1 = some q) {r : Option V × Mem × Mem} (K : K_X11_back_27  r q) : Ev M_X11_back 210 210 r 67 210 rho σ [(2, (173 : Int)), (0, x1)] [(0, s2), (0, s1), (2, (177 : Int))] := by
  unfold f_X11_back_67 at h
  refine ev_iastG dX11_back_67 sp177 (by decide) (by decide) h (fun σ5 h => ?_)
  refine ev_iincG dX11_back_68 rfl h rfl (fun v6 h => ?_)
  show Ev _ _ _ _ 71 _ _ _ [(2, (173 : Int)), (0, v6)] _
  refine ev_goto (tgt := 27) dX11_back_71 rfl ?_
  obtain rfl := Option.some.inj h
  exact ev_sub (L2 := [(2, (173 : Int)), (0, v6)]) K ⟨.inr rfl, .inr rfl, trivial⟩
set_option maxHeartbeats 4000000 in
set_option maxRecDepth 20000 in
theorem b_X11_back_27  {r : Option V × Mem × Mem} : ∀ a x, f_X11_back_27B  a = some x → K_X11_back_27  r x → K_X11_back_27  r (.inl a) := by
  intro a x h K
  obtain ⟨x1, σ⟩ := a
  have h : f_X11_back_27C  x1 σ = some x := h
  unfold f_X11_back_27C at h
  show Ev M_X11_back 210 210 r 27 210 rho σ [(2, (173 : Int)), (0, x1)] []
  refine ev_iload_n dX11_back_27 rfl ?_
  refine ev_bipush dX11_back_28 (by decide) (by decide) ?_
  refine ev_icmp_ge (tgt := 74) dX11_back_30 rfl h (fun cb h => ?_) (fun cb h => ?_)
  · obtain rfl := Option.some.inj h
    exact ev_sub (L2 := [(9, 0), (9, 0)]) K ⟨.inl rfl, .inl rfl, trivial⟩
  refine ev_aload_n dX11_back_33 rfl (by decide) ?_
  refine ev_getf (j := 4) (t := 2) (x := (177 : Int)) dX11_back_34 cf_X11 wf_X11_19 sp173 (by decide) (by decide) rfl (by decide) (rp173_4 _) ?_
  refine ev_iload_n dX11_back_37 rfl ?_
  refine ev_aload_n dX11_back_38 rfl (by decide) ?_
  refine ev_getf (j := 4) (t := 2) (x := (177 : Int)) dX11_back_39 cf_X11 wf_X11_19 sp173 (by decide) (by decide) rfl (by decide) (rp173_4 _) ?_
  refine ev_iload_n dX11_back_42 rfl ?_
  refine ev_iald dX11_back_43 sp177 (by decide) (by decide) h (fun h => ?_)
  refine ev_bipush dX11_back_44 (by decide) (by decide) ?_
  refine ev_aload_n dX11_back_46 rfl (by decide) ?_
  refine ev_getf (j := 0) (t := 2) (x := (174 : Int)) dX11_back_47 cf_X11 wf_X11_7 sp173 (by decide) (by decide) rfl (by decide) (rp173_0 _) ?_
  refine ev_bipush dX11_back_50 (by decide) (by decide) ?_
  show Ev _ _ _ _ 52 _ _ _ _ _
  refine ev_iald dX11_back_52 sp174 (by decide) (by decide) h (fun h => ?_)
  refine ev_iadd dX11_back_53 ?_
  refine ev_icmp_lt (tgt := 61) dX11_back_54 rfl h (fun cb h => ?_) (fun cb h => ?_)
  · refine ev_aload_n dX11_back_61 rfl (by decide) ?_
    refine ev_getf (j := 4) (t := 2) (x := (177 : Int)) dX11_back_62 cf_X11 wf_X11_19 sp173 (by decide) (by decide) rfl (by decide) (rp173_4 _) ?_
    refine ev_iload_n dX11_back_65 rfl ?_
    refine ev_iald dX11_back_66 sp177 (by decide) (by decide) h (fun h => ?_)
    exact ev_sub (L2 := [(2, (173 : Int)), (0, x1)]) (e_X11_back_67 σ x1 (σ (177 : Int) x1) x1 h K) ⟨.inr rfl, .inr rfl, trivial⟩
  refine ev_iconst dX11_back_57 (by decide) ?_
  refine ev_goto (tgt := 67) dX11_back_58 rfl ?_
  exact ev_sub (L2 := [(2, (173 : Int)), (0, x1)]) (e_X11_back_67 σ x1 (-1 : Int) x1 h K) ⟨.inr rfl, .inr rfl, trivial⟩
set_option maxHeartbeats 4000000 in
set_option maxRecDepth 20000 in
theorem e_X11_back_27 (σ : Mem) (x1 : Int)  {q : (Int × Mem)} (h : f_X11_back_27 σ x1 = some q) : Ev M_X11_back 210 210 (some (0, q.1), rho, q.2) 27 210 rho σ [(2, (173 : Int)), (0, x1)] [] := by
  unfold f_X11_back_27 at h
  obtain ⟨e, hl, h⟩ := bind_of h
  refine loop_ev (K := K_X11_back_27  (some (0, q.1), rho, q.2)) (b_X11_back_27 ) FU (x1, σ) e hl ?_
  show Ev M_X11_back 210 210 _ 74 210 rho e [(9, 0), (9, 0)] []
  replace h : some ((1 : Int), e) = some q := h
  refine ev_iconst dX11_back_74 (by decide) ?_
  obtain rfl := Option.some.inj h
  dsimp only
  exact ev_iret dX11_back_75 rfl rfl
set_option maxHeartbeats 4000000 in
set_option maxRecDepth 20000 in
theorem c_X11_back {σ : Mem}  {q : (Int × Mem)} (h : f_X11_back σ  = some q) : Ms yX11_back M_X11_back 210 210 [(2, (173 : Int))] rho σ (some (0, q.1), rho, q.2) := by
  refine Ms.of 1 (by decide +kernel) rfl (fun z => absurd z (by decide)) (fun _ _ _ => trivial) rfl rfl ?_
  unfold f_X11_back at h
  show Ev M_X11_back 210 210 _ 0 210 rho σ [(2, (173 : Int)), (9, 0)] []
  refine ev_aload_n dX11_back_0 rfl (by decide) ?_
  refine ev_getf (j := 2) (t := 0) (x := (σ (173 : Int) 2)) dX11_back_1 cf_X11 wf_X11_376 sp173 (by decide) (by decide) rfl (by decide) rfl ?_
  refine ev_if_ne (tgt := 14) dX11_back_4 rfl h (fun cb h => ?_) (fun cb h => ?_)
  · refine ev_aload_n dX11_back_14 rfl (by decide) ?_
    refine ev_getf (j := 1) (t := 2) (x := (175 : Int)) dX11_back_15 cf_X11 wf_X11_13 sp173 (by decide) (by decide) rfl (by decide) (rp173_1 _) ?_
    refine ev_aload_n dX11_back_18 rfl (by decide) ?_
    refine ev_getf (j := 0) (t := 2) (x := (174 : Int)) dX11_back_19 cf_X11 wf_X11_7 sp173 (by decide) (by decide) rfl (by decide) (rp173_0 _) ?_
    obtain ⟨σ1, hc2, h⟩ := bind_of h
    refine ev_invS_n (av := [(2, (175 : Int)), (2, (174 : Int))]) (st := []) (τ := σ1) dX11_back_22 ml_X11_245 mt_X11_move rfl ⟨Nat.le_of_ble_eq_true rfl, Nat.le_of_ble_eq_true rfl⟩ (Nat.le_of_ble_eq_true rfl) (c_X11_move hM175 hM174 hc2) ?_
    refine ev_iconst dX11_back_25 (by decide) ?_
    refine ev_istore_n dX11_back_26 rfl (by decide) ?_
    show Ev _ _ _ _ 27 _ _ _ [(2, (173 : Int)), (0, (0 : Int))] _
    exact ev_sub (L2 := [(2, (173 : Int)), (0, (0 : Int))]) (e_X11_back_27 σ1 (0 : Int) h) ⟨.inr rfl, .inr rfl, trivial⟩
  refine ev_aload_n dX11_back_7 rfl (by decide) ?_
  refine ev_bipush dX11_back_8 (by decide) (by decide) ?_
  obtain ⟨v3, hc4, h⟩ := bind_of h
  refine ev_invV_v (k := (173 : Int)) (av := [(0, (-55 : Int))]) (st := []) (v := (0, v3.1)) (τ := v3.2) dX11_back_10 ml_X11_151 mv_X11_no (T := TX11) (ci := 10) rfl sp173 (by decide) (by decide) rfl ⟨Nat.le_of_ble_eq_true rfl, Nat.le_of_ble_eq_true rfl⟩ (Nat.le_of_ble_eq_true rfl) (c_X11_no hc4) ?_
  obtain rfl := Option.some.inj h
  dsimp only
  exact ev_iret dX11_back_13 rfl rfl
def K_X11_taken_4 (σ : Mem) (r : Option V × Mem × Mem) : (Int × Int) ⊕ ((Int)) → Prop := Sum.elim (fun a => Ev M_X11_taken 210 210 r 4 210 rho σ [(2, (173 : Int)), (0, a.1), (0, a.2)] []) (fun e => Ev M_X11_taken 210 210 r 33 210 rho σ [(9, 0), (0, e), (9, 0)] [])
set_option maxHeartbeats 4000000 in
set_option maxRecDepth 20000 in
theorem b_X11_taken_4 (σ : Mem)  {r : Option V × Mem × Mem} : ∀ a x, f_X11_taken_4B σ a = some x → K_X11_taken_4 σ r x → K_X11_taken_4 σ r (.inl a) := by
  intro a x h K
  obtain ⟨x1, x2⟩ := a
  have h : f_X11_taken_4C σ x1 x2 = some x := h
  unfold f_X11_taken_4C at h
  show Ev M_X11_taken 210 210 r 4 210 rho σ [(2, (173 : Int)), (0, x1), (0, x2)] []
  refine ev_iload_n dX11_taken_4 rfl ?_
  refine ev_aload_n dX11_taken_5 rfl (by decide) ?_
  refine ev_getf (j := 0) (t := 2) (x := (174 : Int)) dX11_taken_6 cf_X11 wf_X11_7 sp173 (by decide) (by decide) rfl (by decide) (rp173_0 _) ?_
  refine ev_bipush dX11_taken_9 (by decide) (by decide) ?_
  refine ev_iald dX11_taken_11 sp174 (by decide) (by decide) h (fun h => ?_)
  refine ev_icmp_ge (tgt := 33) dX11_taken_12 rfl h (fun cb h => ?_) (fun cb h => ?_)
  · obtain rfl := Option.some.inj h
    exact ev_sub (L2 := [(9, 0), (0, x1), (9, 0)]) K ⟨.inl rfl, .inr rfl, .inl rfl, trivial⟩
  refine ev_iload_n dX11_taken_15 rfl ?_
  refine ev_aload_n dX11_taken_16 rfl (by decide) ?_
  refine ev_iload_n dX11_taken_17 rfl ?_
  refine ev_iconst dX11_taken_18 (by decide) ?_
  obtain ⟨v1, hc2, h⟩ := bind_of h
  refine ev_invV_v (k := (173 : Int)) (av := [(0, x2), (0, (3 : Int))]) (st := [(0, x1)]) (v := (0, v1)) (τ := σ) dX11_taken_19 ml_X11_128 mv_X11_who (T := TX11) (ci := 10) rfl sp173 (by decide) (by decide) rfl ⟨Nat.le_of_ble_eq_true rfl, Nat.le_of_ble_eq_true rfl⟩ (Nat.le_of_ble_eq_true rfl) (c_X11_who hc2) ?_
  obtain ⟨v3, hc4, h⟩ := bind_of h
  refine ev_invS_v (av := [(0, v1)]) (st := [(0, x1)]) (v := (0, v3)) (τ := σ) dX11_taken_22 ml_X11_191 mt_X11_many rfl ⟨Nat.le_of_ble_eq_true rfl, Nat.le_of_ble_eq_true rfl⟩ (Nat.le_of_ble_eq_true rfl) (c_X11_many hc4) ?_
  refine ev_iadd dX11_taken_25 ?_
  refine ev_istore_nG dX11_taken_26 h rfl (by decide) (fun v5 h => ?_)
  show Ev _ _ _ _ 27 _ _ _ [(2, (173 : Int)), (0, v5), (0, x2)] _
  refine ev_iincG dX11_taken_27 rfl h rfl (fun v6 h => ?_)
  show Ev _ _ _ _ 30 _ _ _ [(2, (173 : Int)), (0, v5), (0, v6)] _
  refine ev_goto (tgt := 4) dX11_taken_30 rfl ?_
  obtain rfl := Option.some.inj h
  exact ev_sub (L2 := [(2, (173 : Int)), (0, v5), (0, v6)]) K ⟨.inr rfl, .inr rfl, .inr rfl, trivial⟩
set_option maxHeartbeats 4000000 in
set_option maxRecDepth 20000 in
theorem e_X11_taken_4 (σ : Mem) (x1 x2 : Int)  {q : Int} (h : f_X11_taken_4 σ x1 x2 = some q) : Ev M_X11_taken 210 210 (some (0, q), rho, σ) 4 210 rho σ [(2, (173 : Int)), (0, x1), (0, x2)] [] := by
  unfold f_X11_taken_4 at h
  obtain ⟨e, hl, h⟩ := bind_of h
  refine loop_ev (K := K_X11_taken_4 σ (some (0, q), rho, σ)) (b_X11_taken_4 σ) FU (x1, x2) e hl ?_
  show Ev M_X11_taken 210 210 _ 33 210 rho σ [(9, 0), (0, e), (9, 0)] []
  replace h : some e = some q := h
  refine ev_iload_n dX11_taken_33 rfl ?_
  obtain rfl := Option.some.inj h
  exact ev_iret dX11_taken_34 rfl rfl
set_option maxHeartbeats 4000000 in
set_option maxRecDepth 20000 in
theorem c_X11_taken {σ : Mem}  {q : Int} (h : f_X11_taken σ  = some q) : Ms yX11_taken M_X11_taken 210 210 [(2, (173 : Int))] rho σ (some (0, q), rho, σ) := by
  refine Ms.of 2 (by decide +kernel) rfl (fun z => absurd z (by decide)) (fun _ _ _ => trivial) rfl rfl ?_
  unfold f_X11_taken at h
  show Ev M_X11_taken 210 210 _ 0 210 rho σ [(2, (173 : Int)), (9, 0), (9, 0)] []
  refine ev_iconst dX11_taken_0 (by decide) ?_
  refine ev_istore_n dX11_taken_1 rfl (by decide) ?_
  show Ev _ _ _ _ 2 _ _ _ [(2, (173 : Int)), (0, (0 : Int)), (9, 0)] _
  refine ev_iconst dX11_taken_2 (by decide) ?_
  refine ev_istore_n dX11_taken_3 rfl (by decide) ?_
  show Ev _ _ _ _ 4 _ _ _ [(2, (173 : Int)), (0, (0 : Int)), (0, (0 : Int))] _
  exact ev_sub (L2 := [(2, (173 : Int)), (0, (0 : Int)), (0, (0 : Int))]) (e_X11_taken_4 σ (0 : Int) (0 : Int) h) ⟨.inr rfl, .inr rfl, .inr rfl, trivial⟩
def K_X11_badDays_22 (σ : Mem) (x2 : Int) (r : Option V × Mem × Mem) : (Int × Int) ⊕ ((Int)) → Prop := Sum.elim (fun a => Ev M_X11_badDays 210 210 r 22 210 rho σ [(2, (173 : Int)), (0, a.1), (0, x2), (0, a.2)] []) (fun e => Ev M_X11_badDays 210 210 r 52 210 rho σ [(2, (173 : Int)), (0, e), (0, x2), (9, 0)] [])
def K_X11_badDays_4 (r : Option V × Mem × Mem) : (Int × Int × Mem) ⊕ ((Int × Mem)) → Prop := Sum.elim (fun a => Ev M_X11_badDays 210 210 r 4 210 rho a.2.2 [(2, (173 : Int)), (0, a.1), (0, a.2.1), (9, 0)] []) (fun e => Ev M_X11_badDays 210 210 r 58 210 rho e.2 [(9, 0), (0, e.1), (9, 0), (9, 0)] [])
set_option maxHeartbeats 4000000 in
set_option maxRecDepth 20000 in
theorem e_X11_badDays_44 (σ : Mem) (x2 x3 s1 s0 : Int)  {q : ((Int × Int) ⊕ ((Int)))} (h : f_X11_badDays_44 σ x2 x3 s1 s0 = some q) {r : Option V × Mem × Mem} (K : K_X11_badDays_22 σ x2 r q) : Ev M_X11_badDays 210 210 r 44 210 rho σ [(2, (173 : Int)), (9, 0), (0, x2), (0, x3)] [(0, s1), (0, s0)] := by
  unfold f_X11_badDays_44 at h
  refine ev_ior dX11_badDays_44 ?_
  refine ev_istore_nG dX11_badDays_45 h rfl (by decide) (fun v5 h => ?_)
  show Ev _ _ _ _ 46 _ _ _ [(2, (173 : Int)), (0, v5), (0, x2), (0, x3)] _
  refine ev_iincG dX11_badDays_46 rfl h rfl (fun v6 h => ?_)
  show Ev _ _ _ _ 49 _ _ _ [(2, (173 : Int)), (0, v5), (0, x2), (0, v6)] _
  refine ev_goto (tgt := 22) dX11_badDays_49 rfl ?_
  obtain rfl := Option.some.inj h
  exact ev_sub (L2 := [(2, (173 : Int)), (0, v5), (0, x2), (0, v6)]) K ⟨.inr rfl, .inr rfl, .inr rfl, .inr rfl, trivial⟩
set_option maxHeartbeats 4000000 in
set_option maxRecDepth 20000 in
theorem e_X11_badDays_52 (σ : Mem) (x1 x2 : Int)  {q : ((Int × Int × Mem) ⊕ ((Int × Mem)))} (h : f_X11_badDays_52 σ x1 x2 = some q) {r : Option V × Mem × Mem} (K : K_X11_badDays_4  r q) : Ev M_X11_badDays 210 210 r 52 210 rho σ [(2, (173 : Int)), (0, x1), (0, x2), (9, 0)] [] := by
  unfold f_X11_badDays_52 at h
  refine ev_iincG dX11_badDays_52 rfl h rfl (fun v7 h => ?_)
  show Ev _ _ _ _ 55 _ _ _ [(2, (173 : Int)), (0, x1), (0, v7), (9, 0)] _
  refine ev_goto (tgt := 4) dX11_badDays_55 rfl ?_
  obtain rfl := Option.some.inj h
  exact ev_sub (L2 := [(2, (173 : Int)), (0, x1), (0, v7), (9, 0)]) K ⟨.inr rfl, .inr rfl, .inr rfl, .inl rfl, trivial⟩
set_option maxHeartbeats 4000000 in
set_option maxRecDepth 20000 in
theorem b_X11_badDays_22 (σ : Mem) (x2 : Int)  {r : Option V × Mem × Mem} : ∀ a x, f_X11_badDays_22B σ x2 a = some x → K_X11_badDays_22 σ x2 r x → K_X11_badDays_22 σ x2 r (.inl a) := by
  intro a x h K
  obtain ⟨x1, x3⟩ := a
  have h : f_X11_badDays_22C σ x2 x1 x3 = some x := h
  unfold f_X11_badDays_22C at h
  show Ev M_X11_badDays 210 210 r 22 210 rho σ [(2, (173 : Int)), (0, x1), (0, x2), (0, x3)] []
  refine ev_iload_n dX11_badDays_22 rfl ?_
  refine ev_iconst dX11_badDays_23 (by decide) ?_
  refine ev_icmp_ge (tgt := 52) dX11_badDays_24 rfl h (fun cb h => ?_) (fun cb h => ?_)
  · obtain rfl := Option.some.inj h
    exact ev_sub (L2 := [(2, (173 : Int)), (0, x1), (0, x2), (9, 0)]) K ⟨.inr rfl, .inr rfl, .inr rfl, .inl rfl, trivial⟩
  refine ev_iload_n dX11_badDays_27 rfl ?_
  refine ev_aload_n dX11_badDays_28 rfl (by decide) ?_
  refine ev_getf (j := 19) (t := 2) (x := (187 : Int)) dX11_badDays_29 cf_X11 wf_X11_51 sp173 (by decide) (by decide) rfl (by decide) (rp173_19 _) ?_
  refine ev_iload_n dX11_badDays_32 rfl ?_
  refine ev_iald dX11_badDays_33 sp187 (by decide) (by decide) h (fun h => ?_)
  refine ev_if_ne (tgt := 43) dX11_badDays_34 rfl h (fun cb h => ?_) (fun cb h => ?_)
  · refine ev_iconst dX11_badDays_43 (by decide) ?_
    exact ev_sub (L2 := [(2, (173 : Int)), (9, 0), (0, x2), (0, x3)]) (e_X11_badDays_44 σ x2 x3 (0 : Int) x1 h K) ⟨.inr rfl, .inl rfl, .inr rfl, .inr rfl, trivial⟩
  refine ev_iconst dX11_badDays_37 (by decide) ?_
  refine ev_iload_n dX11_badDays_38 rfl ?_
  refine ev_ishl dX11_badDays_39 ?_
  refine ev_goto (tgt := 44) dX11_badDays_40 rfl ?_
  exact ev_sub (L2 := [(2, (173 : Int)), (9, 0), (0, x2), (0, x3)]) (e_X11_badDays_44 σ x2 x3 (jshl (1 : Int) x3) x1 h K) ⟨.inr rfl, .inl rfl, .inr rfl, .inr rfl, trivial⟩
set_option maxHeartbeats 4000000 in
set_option maxRecDepth 20000 in
theorem e_X11_badDays_22 (σ : Mem) (x1 x2 x3 : Int)  {q : ((Int × Int × Mem) ⊕ ((Int × Mem)))} (h : f_X11_badDays_22 σ x1 x2 x3 = some q) {r : Option V × Mem × Mem} (K : K_X11_badDays_4  r q) : Ev M_X11_badDays 210 210 r 22 210 rho σ [(2, (173 : Int)), (0, x1), (0, x2), (0, x3)] [] := by
  unfold f_X11_badDays_22 at h
  obtain ⟨e, hl, h⟩ := bind_of h
  refine loop_ev (K := K_X11_badDays_22 σ x2 r) (b_X11_badDays_22 σ x2) FU (x1, x3) e hl ?_
  show Ev M_X11_badDays 210 210 r 52 210 rho σ [(2, (173 : Int)), (0, e), (0, x2), (9, 0)] []
  replace h : f_X11_badDays_52 σ e x2 = some q := h
  exact ev_sub (L2 := [(2, (173 : Int)), (0, e), (0, x2), (9, 0)]) (e_X11_badDays_52 σ e x2 h K) ⟨.inr rfl, .inr rfl, .inr rfl, .inl rfl, trivial⟩
set_option maxHeartbeats 4000000 in
set_option maxRecDepth 20000 in
theorem e_X11_badDays_58 (σ : Mem) (x1 : Int)  {q : (Int × Mem)} (h : f_X11_badDays_58 σ x1 = some q) : Ev M_X11_badDays 210 210 (some (0, q.1), rho, q.2) 58 210 rho σ [(9, 0), (0, x1), (9, 0), (9, 0)] [] := by
  unfold f_X11_badDays_58 at h
  refine ev_iload_n dX11_badDays_58 rfl ?_
  obtain ⟨v3, hc4, h⟩ := bind_of h
  refine ev_invS_v (av := [(0, x1)]) (st := []) (v := (0, v3)) (τ := σ) dX11_badDays_59 ml_X11_191 mt_X11_many rfl ⟨Nat.le_of_ble_eq_true rfl, Nat.le_of_ble_eq_true rfl⟩ (Nat.le_of_ble_eq_true rfl) (c_X11_many hc4) ?_
  obtain rfl := Option.some.inj h
  dsimp only
  exact ev_iret dX11_badDays_62 rfl rfl
set_option maxHeartbeats 4000000 in
set_option maxRecDepth 20000 in
theorem b_X11_badDays_4  {r : Option V × Mem × Mem} : ∀ a x, f_X11_badDays_4B  a = some x → K_X11_badDays_4  r x → K_X11_badDays_4  r (.inl a) := by
  intro a x h K
  obtain ⟨x1, x2, σ⟩ := a
  have h : f_X11_badDays_4C  x1 x2 σ = some x := h
  unfold f_X11_badDays_4C at h
  show Ev M_X11_badDays 210 210 r 4 210 rho σ [(2, (173 : Int)), (0, x1), (0, x2), (9, 0)] []
  refine ev_iload_n dX11_badDays_4 rfl ?_
  refine ev_aload_n dX11_badDays_5 rfl (by decide) ?_
  refine ev_getf (j := 0) (t := 2) (x := (174 : Int)) dX11_badDays_6 cf_X11 wf_X11_7 sp173 (by decide) (by decide) rfl (by decide) (rp173_0 _) ?_
  refine ev_bipush dX11_badDays_9 (by decide) (by decide) ?_
  refine ev_iald dX11_badDays_11 sp174 (by decide) (by decide) h (fun h => ?_)
  refine ev_icmp_ge (tgt := 58) dX11_badDays_12 rfl h (fun cb h => ?_) (fun cb h => ?_)
  · obtain rfl := Option.some.inj h
    exact ev_sub (L2 := [(9, 0), (0, x1), (9, 0), (9, 0)]) K ⟨.inl rfl, .inr rfl, .inl rfl, .inl rfl, trivial⟩
  refine ev_aload_n dX11_badDays_15 rfl (by decide) ?_
  refine ev_iload_n dX11_badDays_16 rfl ?_
  obtain ⟨σ1, hc2, h⟩ := bind_of h
  refine ev_invV_n (k := (173 : Int)) (av := [(0, x2)]) (st := []) (τ := σ1) dX11_badDays_17 ml_X11_290 mv_X11_plans (T := TX11) (ci := 10) rfl sp173 (by decide) (by decide) rfl ⟨Nat.le_of_ble_eq_true rfl, Nat.le_of_ble_eq_true rfl⟩ (Nat.le_of_ble_eq_true rfl) (c_X11_plans hc2) ?_
  refine ev_iconst dX11_badDays_20 (by decide) ?_
  refine ev_istore_n dX11_badDays_21 rfl (by decide) ?_
  show Ev _ _ _ _ 22 _ _ _ [(2, (173 : Int)), (0, x1), (0, x2), (0, (0 : Int))] _
  exact ev_sub (L2 := [(2, (173 : Int)), (0, x1), (0, x2), (0, (0 : Int))]) (e_X11_badDays_22 σ1 x1 x2 (0 : Int) h K) ⟨.inr rfl, .inr rfl, .inr rfl, .inr rfl, trivial⟩
set_option maxHeartbeats 4000000 in
set_option maxRecDepth 20000 in
theorem e_X11_badDays_4 (σ : Mem) (x1 x2 : Int)  {q : (Int × Mem)} (h : f_X11_badDays_4 σ x1 x2 = some q) : Ev M_X11_badDays 210 210 (some (0, q.1), rho, q.2) 4 210 rho σ [(2, (173 : Int)), (0, x1), (0, x2), (9, 0)] [] := by
  unfold f_X11_badDays_4 at h
  obtain ⟨e, hl, h⟩ := bind_of h
  refine loop_ev (K := K_X11_badDays_4  (some (0, q.1), rho, q.2)) (b_X11_badDays_4 ) FU (x1, x2, σ) e hl ?_
  show Ev M_X11_badDays 210 210 _ 58 210 rho e.2 [(9, 0), (0, e.1), (9, 0), (9, 0)] []
  replace h : f_X11_badDays_58 e.2 e.1 = some q := h
  exact ev_sub (L2 := [(9, 0), (0, e.1), (9, 0), (9, 0)]) (e_X11_badDays_58 e.2 e.1 h) ⟨.inl rfl, .inr rfl, .inl rfl, .inl rfl, trivial⟩
set_option maxHeartbeats 4000000 in
set_option maxRecDepth 20000 in
theorem c_X11_badDays {σ : Mem}  {q : (Int × Mem)} (h : f_X11_badDays σ  = some q) : Ms yX11_badDays M_X11_badDays 210 210 [(2, (173 : Int))] rho σ (some (0, q.1), rho, q.2) := by
  refine Ms.of 3 (by decide +kernel) rfl (fun z => absurd z (by decide)) (fun _ _ _ => trivial) rfl rfl ?_
  unfold f_X11_badDays at h
  show Ev M_X11_badDays 210 210 _ 0 210 rho σ [(2, (173 : Int)), (9, 0), (9, 0), (9, 0)] []
  refine ev_iconst dX11_badDays_0 (by decide) ?_
  refine ev_istore_n dX11_badDays_1 rfl (by decide) ?_
  show Ev _ _ _ _ 2 _ _ _ [(2, (173 : Int)), (0, (0 : Int)), (9, 0), (9, 0)] _
  refine ev_iconst dX11_badDays_2 (by decide) ?_
  refine ev_istore_n dX11_badDays_3 rfl (by decide) ?_
  show Ev _ _ _ _ 4 _ _ _ [(2, (173 : Int)), (0, (0 : Int)), (0, (0 : Int)), (9, 0)] _
  exact ev_sub (L2 := [(2, (173 : Int)), (0, (0 : Int)), (0, (0 : Int)), (9, 0)]) (e_X11_badDays_4 σ (0 : Int) (0 : Int) h) ⟨.inr rfl, .inr rfl, .inr rfl, .inl rfl, trivial⟩
def K_X11_status_123 (σ : Mem) (r : Option V × Mem × Mem) : (Int × Int) ⊕ ((Int)) → Prop := Sum.elim (fun a => Ev M_X11_status 210 210 r 123 210 rho σ [(2, (173 : Int)), (9, 0), (0, a.1), (0, a.2)] []) (fun e => Ev M_X11_status 210 210 r 152 210 rho σ [(9, 0), (9, 0), (0, e), (9, 0)] [])
set_option maxHeartbeats 4000000 in
set_option maxRecDepth 20000 in
theorem e_X11_status_144 (σ : Mem) (x3 s1 s0 : Int)  {q : ((Int × Int) ⊕ ((Int)))} (h : f_X11_status_144 σ x3 s1 s0 = some q) {r : Option V × Mem × Mem} (K : K_X11_status_123 σ r q) : Ev M_X11_status 210 210 r 144 210 rho σ [(2, (173 : Int)), (9, 0), (9, 0), (0, x3)] [(0, s1), (0, s0)] := by
  unfold f_X11_status_144 at h
  refine ev_iadd dX11_status_144 ?_
  refine ev_istore_nG dX11_status_145 h rfl (by decide) (fun v7 h => ?_)
  show Ev _ _ _ _ 146 _ _ _ [(2, (173 : Int)), (9, 0), (0, v7), (0, x3)] _
  refine ev_iincG dX11_status_146 rfl h rfl (fun v8 h => ?_)
  show Ev _ _ _ _ 149 _ _ _ [(2, (173 : Int)), (9, 0), (0, v7), (0, v8)] _
  refine ev_goto (tgt := 123) dX11_status_149 rfl ?_
  obtain rfl := Option.some.inj h
  exact ev_sub (L2 := [(2, (173 : Int)), (9, 0), (0, v7), (0, v8)]) K ⟨.inr rfl, .inl rfl, .inr rfl, .inr rfl, trivial⟩
set_option maxHeartbeats 4000000 in
set_option maxRecDepth 20000 in
theorem b_X11_status_123 (σ : Mem)  {r : Option V × Mem × Mem} : ∀ a x, f_X11_status_123B σ a = some x → K_X11_status_123 σ r x → K_X11_status_123 σ r (.inl a) := by
  intro a x h K
  obtain ⟨x2, x3⟩ := a
  have h : f_X11_status_123C σ x2 x3 = some x := h
  unfold f_X11_status_123C at h
  show Ev M_X11_status 210 210 r 123 210 rho σ [(2, (173 : Int)), (9, 0), (0, x2), (0, x3)] []
  refine ev_iload_n dX11_status_123 rfl ?_
  refine ev_bipush dX11_status_124 (by decide) (by decide) ?_
  refine ev_icmp_ge (tgt := 152) dX11_status_126 rfl h (fun cb h => ?_) (fun cb h => ?_)
  · obtain rfl := Option.some.inj h
    exact ev_sub (L2 := [(9, 0), (9, 0), (0, x2), (9, 0)]) K ⟨.inl rfl, .inl rfl, .inr rfl, .inl rfl, trivial⟩
  refine ev_iload_n dX11_status_129 rfl ?_
  refine ev_aload_n dX11_status_130 rfl (by decide) ?_
  refine ev_getf (j := 4) (t := 2) (x := (177 : Int)) dX11_status_131 cf_X11 wf_X11_19 sp173 (by decide) (by decide) rfl (by decide) (rp173_4 _) ?_
  refine ev_iload_n dX11_status_134 rfl ?_
  refine ev_iald dX11_status_135 sp177 (by decide) (by decide) h (fun h => ?_)
  refine ev_if_lt (tgt := 143) dX11_status_136 rfl h (fun cb h => ?_) (fun cb h => ?_)
  · refine ev_iconst dX11_status_143 (by decide) ?_
    exact ev_sub (L2 := [(2, (173 : Int)), (9, 0), (9, 0), (0, x3)]) (e_X11_status_144 σ x3 (0 : Int) x2 h K) ⟨.inr rfl, .inl rfl, .inl rfl, .inr rfl, trivial⟩
  refine ev_iconst dX11_status_139 (by decide) ?_
  refine ev_goto (tgt := 144) dX11_status_140 rfl ?_
  exact ev_sub (L2 := [(2, (173 : Int)), (9, 0), (9, 0), (0, x3)]) (e_X11_status_144 σ x3 (1 : Int) x2 h K) ⟨.inr rfl, .inl rfl, .inl rfl, .inr rfl, trivial⟩
set_option maxHeartbeats 4000000 in
set_option maxRecDepth 20000 in
theorem e_X11_status_123 (σ : Mem) (x2 x3 : Int)  {q : (Int × Mem)} (h : f_X11_status_123 σ x2 x3 = some q) : Ev M_X11_status 210 210 (some (0, q.1), rho, q.2) 123 210 rho σ [(2, (173 : Int)), (9, 0), (0, x2), (0, x3)] [] := by
  unfold f_X11_status_123 at h
  obtain ⟨e, hl, h⟩ := bind_of h
  refine loop_ev (K := K_X11_status_123 σ (some (0, q.1), rho, q.2)) (b_X11_status_123 σ) FU (x2, x3) e hl ?_
  show Ev M_X11_status 210 210 _ 152 210 rho σ [(9, 0), (9, 0), (0, e), (9, 0)] []
  replace h : some (e, σ) = some q := h
  refine ev_iload_n dX11_status_152 rfl ?_
  obtain rfl := Option.some.inj h
  dsimp only
  exact ev_iret dX11_status_153 rfl rfl
set_option maxHeartbeats 4000000 in
set_option maxRecDepth 20000 in
theorem c_X11_status {σ : Mem} {x1 : Int}  {q : (Int × Mem)} (h : f_X11_status σ x1 = some q) : Ms yX11_status M_X11_status 210 210 [(2, (173 : Int)), (0, x1)] rho σ (some (0, q.1), rho, q.2) := by
  refine Ms.of 2 (by decide +kernel) rfl (fun z => absurd z (by decide)) (fun _ _ _ => trivial) rfl rfl ?_
  unfold f_X11_status at h
  show Ev M_X11_status 210 210 _ 0 210 rho σ [(2, (173 : Int)), (0, x1), (9, 0), (9, 0)] []
  refine ev_iload_n dX11_status_0 rfl ?_
  refine ev_by h (fun cs h => ?_) (fun cs0 h => ?_)
  · refine ev_tswIn (off := 55) (tgt := 56) dX11_status_1 (by rw [cs]; decide) (by rw [cs]; decide) (by rw [cs]; rfl) rfl ?_
    refine ev_aload_n dX11_status_56 rfl (by decide) ?_
    refine ev_getf (j := 0) (t := 2) (x := (174 : Int)) dX11_status_57 cf_X11 wf_X11_7 sp173 (by decide) (by decide) rfl (by decide) (rp173_0 _) ?_
    refine ev_bipush dX11_status_60 (by decide) (by decide) ?_
    refine ev_iald dX11_status_62 sp174 (by decide) (by decide) h (fun h => ?_)
    obtain rfl := Option.some.inj h
    dsimp only
    exact ev_iret dX11_status_63 rfl rfl
  refine ev_by h (fun cs h => ?_) (fun cs1 h => ?_)
  · refine ev_tswIn (off := 63) (tgt := 64) dX11_status_1 (by rw [cs]; decide) (by rw [cs]; decide) (by rw [cs]; rfl) rfl ?_
    refine ev_aload_n dX11_status_64 rfl (by decide) ?_
    refine ev_getf (j := 0) (t := 2) (x := (174 : Int)) dX11_status_65 cf_X11 wf_X11_7 sp173 (by decide) (by decide) rfl (by decide) (rp173_0 _) ?_
    refine ev_bipush dX11_status_68 (by decide) (by decide) ?_
    refine ev_iald dX11_status_70 sp174 (by decide) (by decide) h (fun h => ?_)
    obtain rfl := Option.some.inj h
    dsimp only
    exact ev_iret dX11_status_71 rfl rfl
  refine ev_by h (fun cs h => ?_) (fun cs2 h => ?_)
  · refine ev_tswIn (off := 71) (tgt := 72) dX11_status_1 (by rw [cs]; decide) (by rw [cs]; decide) (by rw [cs]; rfl) rfl ?_
    refine ev_aload_n dX11_status_72 rfl (by decide) ?_
    refine ev_getf (j := 0) (t := 2) (x := (174 : Int)) dX11_status_73 cf_X11 wf_X11_7 sp173 (by decide) (by decide) rfl (by decide) (rp173_0 _) ?_
    refine ev_bipush dX11_status_76 (by decide) (by decide) ?_
    refine ev_iald dX11_status_78 sp174 (by decide) (by decide) h (fun h => ?_)
    obtain rfl := Option.some.inj h
    dsimp only
    exact ev_iret dX11_status_79 rfl rfl
  refine ev_by h (fun cs h => ?_) (fun cs3 h => ?_)
  · refine ev_tswIn (off := 79) (tgt := 80) dX11_status_1 (by rw [cs]; decide) (by rw [cs]; decide) (by rw [cs]; rfl) rfl ?_
    refine ev_aload_n dX11_status_80 rfl (by decide) ?_
    refine ev_getf (j := 0) (t := 2) (x := (174 : Int)) dX11_status_81 cf_X11 wf_X11_7 sp173 (by decide) (by decide) rfl (by decide) (rp173_0 _) ?_
    refine ev_bipush dX11_status_84 (by decide) (by decide) ?_
    refine ev_iald dX11_status_86 sp174 (by decide) (by decide) h (fun h => ?_)
    obtain rfl := Option.some.inj h
    dsimp only
    exact ev_iret dX11_status_87 rfl rfl
  refine ev_by h (fun cs h => ?_) (fun cs4 h => ?_)
  · refine ev_tswIn (off := 87) (tgt := 88) dX11_status_1 (by rw [cs]; decide) (by rw [cs]; decide) (by rw [cs]; rfl) rfl ?_
    refine ev_aload_n dX11_status_88 rfl (by decide) ?_
    refine ev_getf (j := 0) (t := 2) (x := (174 : Int)) dX11_status_89 cf_X11 wf_X11_7 sp173 (by decide) (by decide) rfl (by decide) (rp173_0 _) ?_
    refine ev_bipush dX11_status_92 (by decide) (by decide) ?_
    refine ev_iald dX11_status_94 sp174 (by decide) (by decide) h (fun h => ?_)
    obtain rfl := Option.some.inj h
    dsimp only
    exact ev_iret dX11_status_95 rfl rfl
  refine ev_by h (fun cs h => ?_) (fun cs5 h => ?_)
  · refine ev_tswIn (off := 95) (tgt := 96) dX11_status_1 (by rw [cs]; decide) (by rw [cs]; decide) (by rw [cs]; rfl) rfl ?_
    refine ev_aload_n dX11_status_96 rfl (by decide) ?_
    obtain ⟨v1, hc2, h⟩ := bind_of h
    refine ev_invV_v (k := (173 : Int)) (av := []) (st := []) (v := (0, v1)) (τ := σ) dX11_status_97 ml_X11_380 mv_X11_taken (T := TX11) (ci := 10) rfl sp173 (by decide) (by decide) rfl ⟨Nat.le_of_ble_eq_true rfl, Nat.le_of_ble_eq_true rfl⟩ (Nat.le_of_ble_eq_true rfl) (c_X11_taken hc2) ?_
    obtain rfl := Option.some.inj h
    dsimp only
    exact ev_iret dX11_status_100 rfl rfl
  refine ev_by h (fun cs h => ?_) (fun cs6 h => ?_)
  · refine ev_tswIn (off := 100) (tgt := 101) dX11_status_1 (by rw [cs]; decide) (by rw [cs]; decide) (by rw [cs]; rfl) rfl ?_
    refine ev_aload_n dX11_status_101 rfl (by decide) ?_
    obtain ⟨v3, hc4, h⟩ := bind_of h
    refine ev_invV_v (k := (173 : Int)) (av := []) (st := []) (v := (0, v3.1)) (τ := v3.2) dX11_status_102 ml_X11_383 mv_X11_badDays (T := TX11) (ci := 10) rfl sp173 (by decide) (by decide) rfl ⟨Nat.le_of_ble_eq_true rfl, Nat.le_of_ble_eq_true rfl⟩ (Nat.le_of_ble_eq_true rfl) (c_X11_badDays hc4) ?_
    obtain rfl := Option.some.inj h
    dsimp only
    exact ev_iret dX11_status_105 rfl rfl
  refine ev_by h (fun cs h => ?_) (fun cs7 h => ?_)
  · refine ev_tswIn (off := 105) (tgt := 106) dX11_status_1 (by rw [cs]; decide) (by rw [cs]; decide) (by rw [cs]; rfl) rfl ?_
    refine ev_aload_n dX11_status_106 rfl (by decide) ?_
    refine ev_getf (j := 9) (t := 0) (x := (σ (173 : Int) 9)) dX11_status_107 cf_X11 wf_X11_205 sp173 (by decide) (by decide) rfl (by decide) rfl ?_
    obtain rfl := Option.some.inj h
    dsimp only
    exact ev_iret dX11_status_110 rfl rfl
  refine ev_by h (fun cs h => ?_) (fun cs8 h => ?_)
  · refine ev_tswIn (off := 110) (tgt := 111) dX11_status_1 (by rw [cs]; decide) (by rw [cs]; decide) (by rw [cs]; rfl) rfl ?_
    refine ev_aload_n dX11_status_111 rfl (by decide) ?_
    refine ev_getf (j := 0) (t := 2) (x := (174 : Int)) dX11_status_112 cf_X11 wf_X11_7 sp173 (by decide) (by decide) rfl (by decide) (rp173_0 _) ?_
    refine ev_bipush dX11_status_115 (by decide) (by decide) ?_
    refine ev_iald dX11_status_117 sp174 (by decide) (by decide) h (fun h => ?_)
    obtain rfl := Option.some.inj h
    dsimp only
    exact ev_iret dX11_status_118 rfl rfl
  refine ev_by h (fun cs h => ?_) (fun cs9 h => ?_)
  · refine ev_tswIn (off := 118) (tgt := 119) dX11_status_1 (by rw [cs]; decide) (by rw [cs]; decide) (by rw [cs]; rfl) rfl ?_
    refine ev_iconst dX11_status_119 (by decide) ?_
    refine ev_istore_n dX11_status_120 rfl (by decide) ?_
    show Ev _ _ _ _ 121 _ _ _ [(2, (173 : Int)), (0, x1), (0, (0 : Int)), (9, 0)] _
    refine ev_iconst dX11_status_121 (by decide) ?_
    refine ev_istore_n dX11_status_122 rfl (by decide) ?_
    show Ev _ _ _ _ 123 _ _ _ [(2, (173 : Int)), (0, x1), (0, (0 : Int)), (0, (0 : Int))] _
    exact ev_sub (L2 := [(2, (173 : Int)), (9, 0), (0, (0 : Int)), (0, (0 : Int))]) (e_X11_status_123 σ (0 : Int) (0 : Int) h) ⟨.inr rfl, .inl rfl, .inr rfl, .inr rfl, trivial⟩
  refine ev_tswOut (tgt := 154) dX11_status_1 (by omega) rfl ?_
  refine ev_iload_n dX11_status_154 rfl ?_
  refine ev_i2lk dX11_status_155 ?_
  refine ev_ldc2 (x := (12 : Int)) dX11_status_156 wc_X11_162 (by decide) (by decide) ?_
  refine ev_ldc2 (x := (16 : Int)) dX11_status_159 wc_X11_386 (by decide) (by decide) ?_
  obtain ⟨v5, hc6, h⟩ := bind_of h
  refine ev_invS_v (av := [(1, x1), (1, (12 : Int)), (1, (16 : Int))]) (st := []) (v := (0, v5)) (τ := σ) dX11_status_162 ml_X11_120 mt_X11_isIn rfl ⟨Nat.le_of_ble_eq_true rfl, Nat.le_of_ble_eq_true rfl⟩ (Nat.le_of_ble_eq_true rfl) (c_X11_isIn hc6) ?_
  refine ev_if_eq (tgt := 180) dX11_status_165 rfl h (fun cb h => ?_) (fun cb h => ?_)
  · refine ev_iconst dX11_status_180 (by decide) ?_
    obtain rfl := Option.some.inj h
    dsimp only
    exact ev_iret dX11_status_181 rfl rfl
  refine ev_aload_n dX11_status_168 rfl (by decide) ?_
  refine ev_getf (j := 3) (t := 2) (x := (176 : Int)) dX11_status_169 cf_X11 wf_X11_16 sp173 (by decide) (by decide) rfl (by decide) (rp173_3 _) ?_
  refine ev_iload_n dX11_status_172 rfl ?_
  refine ev_bipush dX11_status_173 (by decide) (by decide) ?_
  refine ev_isub dX11_status_175 ?_
  refine ev_iald dX11_status_176 sp176 (by decide) (by decide) h (fun h => ?_)
  refine ev_goto (tgt := 181) dX11_status_177 rfl ?_
  obtain rfl := Option.some.inj h
  dsimp only
  exact ev_iret dX11_status_181 rfl rfl
