def K_L_looks_49 (m n N : Nat) (xs : Nat → Int32) (x3 : Int) (r : Option V × LM) : (Int × Int × M2) ⊕ ((Int × M2)) → Prop := Sum.elim (fun a => El (xsh m n) (M_L_looks N xs) (false, false) (181, nX m n) (181, nX m n) r 49 (lm m n a.2.2) [(2, (0 : Int)), (1, a.1), (9, 0), (0, x3), (0, a.2.1)] []) (fun e => El (xsh m n) (M_L_looks N xs) (false, false) (181, nX m n) (181, nX m n) r 91 (lm m n e.2) [(2, (0 : Int)), (1, e.1), (9, 0), (0, x3), (9, 0)] [])
def K_L_looks_18 (m n N : Nat) (xs : Nat → Int32) (x3 : Int) (r : Option V × LM) : (Int × Int × M2) ⊕ ((Int × M2)) → Prop := Sum.elim (fun a => El (xsh m n) (M_L_looks N xs) (false, false) (181, nX m n) (181, nX m n) r 18 (lm m n a.2.2) [(2, (0 : Int)), (1, a.1), (9, 0), (0, x3), (0, a.2.1)] []) (fun e => El (xsh m n) (M_L_looks N xs) (false, false) (181, nX m n) (181, nX m n) r 46 (lm m n e.2) [(2, (0 : Int)), (1, e.1), (9, 0), (0, x3), (9, 0)] [])
def K_L_looks_111 (m n N : Nat) (xs : Nat → Int32) (x3 : Int) (r : Option V × LM) : (Int × Int × M2) ⊕ ((Int × M2)) → Prop := Sum.elim (fun a => El (xsh m n) (M_L_looks N xs) (false, false) (181, nX m n) (181, nX m n) r 111 (lm m n a.2.2) [(2, (0 : Int)), (1, a.1), (9, 0), (0, x3), (0, a.2.1)] []) (fun e => El (xsh m n) (M_L_looks N xs) (false, false) (181, nX m n) (181, nX m n) r 138 (lm m n e.2) [(2, (0 : Int)), (1, e.1), (9, 0), (0, x3), (9, 0)] [])
def K_L_looks_146 (m n N : Nat) (xs : Nat → Int32) (r : Option V × LM) : (Int × Int × M2) ⊕ ((Int × M2)) → Prop := Sum.elim (fun a => El (xsh m n) (M_L_looks N xs) (false, false) (181, nX m n) (181, nX m n) r 146 (lm m n a.2.2) [(2, (0 : Int)), (1, a.1), (9, 0), (0, a.2.1), (9, 0)] []) (fun e => El (xsh m n) (M_L_looks N xs) (false, false) (181, nX m n) (181, nX m n) r 171 (lm m n e.2) [(9, 0), (1, e.1), (9, 0), (9, 0), (9, 0)] [])
def K_L_looks_99 (m n N : Nat) (xs : Nat → Int32) (r : Option V × LM) : (Int × Int × M2) ⊕ ((Int × M2)) → Prop := Sum.elim (fun a => El (xsh m n) (M_L_looks N xs) (false, false) (181, nX m n) (181, nX m n) r 99 (lm m n a.2.2) [(2, (0 : Int)), (1, a.1), (9, 0), (0, a.2.1), (9, 0)] []) (fun e => El (xsh m n) (M_L_looks N xs) (false, false) (181, nX m n) (181, nX m n) r 144 (lm m n e.2) [(2, (0 : Int)), (1, e.1), (9, 0), (9, 0), (9, 0)] [])
def K_L_looks_6 (m n N : Nat) (xs : Nat → Int32) (r : Option V × LM) : (Int × Int × M2) ⊕ ((Int × M2)) → Prop := Sum.elim (fun a => El (xsh m n) (M_L_looks N xs) (false, false) (181, nX m n) (181, nX m n) r 6 (lm m n a.2.2) [(2, (0 : Int)), (1, a.1), (9, 0), (0, a.2.1), (9, 0)] []) (fun e => El (xsh m n) (M_L_looks N xs) (false, false) (181, nX m n) (181, nX m n) r 97 (lm m n e.2) [(2, (0 : Int)), (1, e.1), (9, 0), (9, 0), (9, 0)] [])
set_option maxHeartbeats 4000000 in
set_option maxRecDepth 20000 in
theorem e_L_looks_91 (m n N : Nat) (xs : Nat → Int32) (hmn : m ≤ 10 ∧ n ≤ 4) (hN : (N : Int) ≤ 2147483647) (σ : M2) (x1 x3 : Int)  {q : ((Int × Int × M2) ⊕ ((Int × M2)))} (h : f_L_looks_91 m n N xs σ x1 x3 = some q) {r : Option V × LM} (K : K_L_looks_6 m n N xs  r q) : El (xsh m n) (M_L_looks N xs) (false, false) (181, nX m n) (181, nX m n) r 91 (lm m n σ) [(2, (0 : Int)), (1, x1), (9, 0), (0, x3), (9, 0)] [] := by
  unfold f_L_looks_91 at h
  refine el_iincG dL_looks_91 rfl h rfl (fun v13 h => ?_)
  show El _ _ _ _ _ _ 94 _ [(2, (0 : Int)), (1, x1), (9, 0), (0, v13), (9, 0)] _
  refine el_goto (tgt := 6) dL_looks_94 rfl ?_
  obtain rfl := Option.some.inj h
  exact el_sub (L2 := [(2, (0 : Int)), (1, x1), (9, 0), (0, v13), (9, 0)]) K ⟨.inr rfl, .inr rfl, .inl rfl, .inr rfl, .inl rfl, trivial⟩
set_option maxHeartbeats 4000000 in
set_option maxRecDepth 20000 in
theorem b_L_looks_49 (m n N : Nat) (xs : Nat → Int32) (hmn : m ≤ 10 ∧ n ≤ 4) (hN : (N : Int) ≤ 2147483647) (x3 : Int)  {r : Option V × LM} : ∀ a x, f_L_looks_49B m n N xs x3 a = some x → K_L_looks_49 m n N xs x3 r x → K_L_looks_49 m n N xs x3 r (.inl a) := by
  intro a x h K
  obtain ⟨x1, x4, σ⟩ := a
  have h : f_L_looks_49C m n N xs x3 x1 x4 σ = some x := h
  unfold f_L_looks_49C at h
  show El (xsh m n) (M_L_looks N xs) (false, false) (181, nX m n) (181, nX m n) r 49 (lm m n σ) [(2, (0 : Int)), (1, x1), (9, 0), (0, x3), (0, x4)] []
  refine el_iload dL_looks_49 rfl ?_
  refine el_iconst dL_looks_51 (by decide) ?_
  refine el_icmp_ge (tgt := 91) dL_looks_52 rfl h (fun cb h => ?_) (fun cb h => ?_)
  · obtain rfl := Option.some.inj h
    exact el_sub (L2 := [(2, (0 : Int)), (1, x1), (9, 0), (0, x3), (9, 0)]) K ⟨.inr rfl, .inr rfl, .inl rfl, .inr rfl, .inl rfl, trivial⟩
  refine el_ldc2 (x := (31 : Int)) dL_looks_55 wc_L_53 (by decide) (by decide) ?_
  refine el_ldc2 (x := (31 : Int)) dL_looks_58 wc_L_53 (by decide) (by decide) ?_
  refine el_lload_n dL_looks_61 rfl ?_
  refine el_lmul dL_looks_62 ?_
  refine el_aload_n dL_looks_63 rfl (by decide) ?_
  refine el_iload_n dL_looks_64 rfl ?_
  refine el_iload dL_looks_65 rfl ?_
  refine el_iconst dL_looks_67 (by decide) ?_
  obtain ⟨v7, hc8, h⟩ := bind_of h
  refine el_invV (k := (0 : Int)) (av := [(0, x3), (0, x4), (0, (1 : Int))]) (st := [(1, (kmul (31 : Int) x1)), (1, (31 : Int))]) (r2 := (some (0, v7.1), rho, v7.2)) dL_looks_68 ml_L_58 mv_X10_plan (T := TX10) (ci := 9) rfl sp0 (by decide) (by decide) rfl ⟨Nat.le_of_ble_eq_true rfl, Nat.le_of_ble_eq_true rfl⟩ (Nat.le_of_ble_eq_true rfl) (c_X10_plan hc8) ⟨Nat.le_refl _, Nat.le_refl _⟩ ?_
  show El _ _ _ _ _ _ 71 (lm m n (v7.2, σ.2)) _ ((0, v7.1) :: [(1, (kmul (31 : Int) x1)), (1, (31 : Int))])
  refine el_i2lk dL_looks_71 ?_
  refine el_ladd dL_looks_72 ?_
  show El _ _ _ _ _ _ 73 _ _ _
  refine el_lmul dL_looks_73 ?_
  refine el_aload_n dL_looks_74 rfl (by decide) ?_
  refine el_iload_n dL_looks_75 rfl ?_
  refine el_iload dL_looks_76 rfl ?_
  refine el_iconst dL_looks_78 (by decide) ?_
  obtain ⟨v9, hc10, h⟩ := bind_of h
  refine el_invV (k := (0 : Int)) (av := [(0, x3), (0, x4), (0, (2 : Int))]) (st := [(1, (kmul (31 : Int) (kadd (kmul (31 : Int) x1) v7.1)))]) (r2 := (some (0, v9.1), rho, v9.2)) dL_looks_79 ml_L_58 mv_X10_plan (T := TX10) (ci := 9) rfl sp0 (by decide) (by decide) rfl ⟨Nat.le_of_ble_eq_true rfl, Nat.le_of_ble_eq_true rfl⟩ (Nat.le_of_ble_eq_true rfl) (c_X10_plan hc10) ⟨Nat.le_refl _, Nat.le_refl _⟩ ?_
  show El _ _ _ _ _ _ 82 (lm m n (v9.2, (v7.2, σ.2).2)) _ ((0, v9.1) :: [(1, (kmul (31 : Int) (kadd (kmul (31 : Int) x1) v7.1)))])
  refine el_i2lk dL_looks_82 ?_
  refine el_ladd dL_looks_83 ?_
  refine el_lstore_nG dL_looks_84 h rfl (Nat.le_of_ble_eq_true rfl) (fun v11 h => ?_)
  show El _ _ _ _ _ _ 85 _ [(2, (0 : Int)), (1, v11), (9, 0), (0, x3), (0, x4)] _
  refine el_iincG dL_looks_85 rfl h rfl (fun v12 h => ?_)
  show El _ _ _ _ _ _ 88 _ [(2, (0 : Int)), (1, v11), (9, 0), (0, x3), (0, v12)] _
  refine el_goto (tgt := 49) dL_looks_88 rfl ?_
  obtain rfl := Option.some.inj h
  exact el_sub (L2 := [(2, (0 : Int)), (1, v11), (9, 0), (0, x3), (0, v12)]) K ⟨.inr rfl, .inr rfl, .inl rfl, .inr rfl, .inr rfl, trivial⟩
set_option maxHeartbeats 4000000 in
set_option maxRecDepth 20000 in
theorem e_L_looks_49 (m n N : Nat) (xs : Nat → Int32) (hmn : m ≤ 10 ∧ n ≤ 4) (hN : (N : Int) ≤ 2147483647) (σ : M2) (x1 x3 x4 : Int)  {q : ((Int × Int × M2) ⊕ ((Int × M2)))} (h : f_L_looks_49 m n N xs σ x1 x3 x4 = some q) {r : Option V × LM} (K : K_L_looks_6 m n N xs  r q) : El (xsh m n) (M_L_looks N xs) (false, false) (181, nX m n) (181, nX m n) r 49 (lm m n σ) [(2, (0 : Int)), (1, x1), (9, 0), (0, x3), (0, x4)] [] := by
  unfold f_L_looks_49 at h
  obtain ⟨e, hl, h⟩ := bind_of h
  refine loop_ev (K := K_L_looks_49 m n N xs x3 r) (b_L_looks_49 m n N xs hmn hN x3) FU (x1, x4, σ) e hl ?_
  show El (xsh m n) (M_L_looks N xs) (false, false) (181, nX m n) (181, nX m n) r 91 (lm m n e.2) [(2, (0 : Int)), (1, e.1), (9, 0), (0, x3), (9, 0)] []
  replace h : f_L_looks_91 m n N xs e.2 e.1 x3 = some q := h
  exact el_sub (L2 := [(2, (0 : Int)), (1, e.1), (9, 0), (0, x3), (9, 0)]) (e_L_looks_91 m n N xs hmn hN e.2 e.1 x3 h K) ⟨.inr rfl, .inr rfl, .inl rfl, .inr rfl, .inl rfl, trivial⟩
set_option maxHeartbeats 4000000 in
set_option maxRecDepth 20000 in
theorem e_L_looks_46 (m n N : Nat) (xs : Nat → Int32) (hmn : m ≤ 10 ∧ n ≤ 4) (hN : (N : Int) ≤ 2147483647) (σ : M2) (x1 x3 : Int)  {q : ((Int × Int × M2) ⊕ ((Int × M2)))} (h : f_L_looks_46 m n N xs σ x1 x3 = some q) {r : Option V × LM} (K : K_L_looks_6 m n N xs  r q) : El (xsh m n) (M_L_looks N xs) (false, false) (181, nX m n) (181, nX m n) r 46 (lm m n σ) [(2, (0 : Int)), (1, x1), (9, 0), (0, x3), (9, 0)] [] := by
  unfold f_L_looks_46 at h
  refine el_iconst dL_looks_46 (by decide) ?_
  refine el_istore dL_looks_47 rfl (Nat.le_of_ble_eq_true rfl) ?_
  show El _ _ _ _ _ _ 49 _ [(2, (0 : Int)), (1, x1), (9, 0), (0, x3), (0, (0 : Int))] _
  exact el_sub (L2 := [(2, (0 : Int)), (1, x1), (9, 0), (0, x3), (0, (0 : Int))]) (e_L_looks_49 m n N xs hmn hN σ x1 x3 (0 : Int) h K) ⟨.inr rfl, .inr rfl, .inl rfl, .inr rfl, .inr rfl, trivial⟩
set_option maxHeartbeats 4000000 in
set_option maxRecDepth 20000 in
theorem b_L_looks_18 (m n N : Nat) (xs : Nat → Int32) (hmn : m ≤ 10 ∧ n ≤ 4) (hN : (N : Int) ≤ 2147483647) (x3 : Int)  {r : Option V × LM} : ∀ a x, f_L_looks_18B m n N xs x3 a = some x → K_L_looks_18 m n N xs x3 r x → K_L_looks_18 m n N xs x3 r (.inl a) := by
  intro a x h K
  obtain ⟨x1, x4, σ⟩ := a
  have h : f_L_looks_18C m n N xs x3 x1 x4 σ = some x := h
  unfold f_L_looks_18C at h
  show El (xsh m n) (M_L_looks N xs) (false, false) (181, nX m n) (181, nX m n) r 18 (lm m n σ) [(2, (0 : Int)), (1, x1), (9, 0), (0, x3), (0, x4)] []
  refine el_iload dL_looks_18 rfl ?_
  refine el_bipush dL_looks_20 (by decide) (by decide) ?_
  refine el_icmp_ge (tgt := 46) dL_looks_22 rfl h (fun cb h => ?_) (fun cb h => ?_)
  · obtain rfl := Option.some.inj h
    exact el_sub (L2 := [(2, (0 : Int)), (1, x1), (9, 0), (0, x3), (9, 0)]) K ⟨.inr rfl, .inr rfl, .inl rfl, .inr rfl, .inl rfl, trivial⟩
  refine el_ldc2 (x := (31 : Int)) dL_looks_25 wc_L_53 (by decide) (by decide) ?_
  refine el_lload_n dL_looks_28 rfl ?_
  refine el_lmul dL_looks_29 ?_
  refine el_aload_n dL_looks_30 rfl (by decide) ?_
  refine el_iload_n dL_looks_31 rfl ?_
  refine el_iload dL_looks_32 rfl ?_
  obtain ⟨v3, hc4, h⟩ := bind_of h
  refine el_invV (k := (0 : Int)) (av := [(0, x3), (0, x4)]) (st := [(1, (kmul (31 : Int) x1))]) (r2 := (some (0, v3.1), rho, v3.2)) dL_looks_34 ml_L_55 mv_X10_candOf (T := TX10) (ci := 9) rfl sp0 (by decide) (by decide) rfl ⟨Nat.le_of_ble_eq_true rfl, Nat.le_of_ble_eq_true rfl⟩ (Nat.le_of_ble_eq_true rfl) (c_X10_candOf hc4) ⟨Nat.le_refl _, Nat.le_refl _⟩ ?_
  show El _ _ _ _ _ _ 37 (lm m n (v3.2, σ.2)) _ ((0, v3.1) :: [(1, (kmul (31 : Int) x1))])
  refine el_i2lk dL_looks_37 ?_
  refine el_ladd dL_looks_38 ?_
  refine el_lstore_nG dL_looks_39 h rfl (Nat.le_of_ble_eq_true rfl) (fun v5 h => ?_)
  show El _ _ _ _ _ _ 40 _ [(2, (0 : Int)), (1, v5), (9, 0), (0, x3), (0, x4)] _
  refine el_iincG dL_looks_40 rfl h rfl (fun v6 h => ?_)
  show El _ _ _ _ _ _ 43 _ [(2, (0 : Int)), (1, v5), (9, 0), (0, x3), (0, v6)] _
  show El _ _ _ _ _ _ 43 _ _ _
  refine el_goto (tgt := 18) dL_looks_43 rfl ?_
  obtain rfl := Option.some.inj h
  exact el_sub (L2 := [(2, (0 : Int)), (1, v5), (9, 0), (0, x3), (0, v6)]) K ⟨.inr rfl, .inr rfl, .inl rfl, .inr rfl, .inr rfl, trivial⟩
set_option maxHeartbeats 4000000 in
set_option maxRecDepth 20000 in
theorem e_L_looks_18 (m n N : Nat) (xs : Nat → Int32) (hmn : m ≤ 10 ∧ n ≤ 4) (hN : (N : Int) ≤ 2147483647) (σ : M2) (x1 x3 x4 : Int)  {q : ((Int × Int × M2) ⊕ ((Int × M2)))} (h : f_L_looks_18 m n N xs σ x1 x3 x4 = some q) {r : Option V × LM} (K : K_L_looks_6 m n N xs  r q) : El (xsh m n) (M_L_looks N xs) (false, false) (181, nX m n) (181, nX m n) r 18 (lm m n σ) [(2, (0 : Int)), (1, x1), (9, 0), (0, x3), (0, x4)] [] := by
  unfold f_L_looks_18 at h
  obtain ⟨e, hl, h⟩ := bind_of h
  refine loop_ev (K := K_L_looks_18 m n N xs x3 r) (b_L_looks_18 m n N xs hmn hN x3) FU (x1, x4, σ) e hl ?_
  show El (xsh m n) (M_L_looks N xs) (false, false) (181, nX m n) (181, nX m n) r 46 (lm m n e.2) [(2, (0 : Int)), (1, e.1), (9, 0), (0, x3), (9, 0)] []
  replace h : f_L_looks_46 m n N xs e.2 e.1 x3 = some q := h
  exact el_sub (L2 := [(2, (0 : Int)), (1, e.1), (9, 0), (0, x3), (9, 0)]) (e_L_looks_46 m n N xs hmn hN e.2 e.1 x3 h K) ⟨.inr rfl, .inr rfl, .inl rfl, .inr rfl, .inl rfl, trivial⟩
set_option maxHeartbeats 4000000 in
set_option maxRecDepth 20000 in
theorem e_L_looks_138 (m n N : Nat) (xs : Nat → Int32) (hmn : m ≤ 10 ∧ n ≤ 4) (hN : (N : Int) ≤ 2147483647) (σ : M2) (x1 x3 : Int)  {q : ((Int × Int × M2) ⊕ ((Int × M2)))} (h : f_L_looks_138 m n N xs σ x1 x3 = some q) {r : Option V × LM} (K : K_L_looks_99 m n N xs  r q) : El (xsh m n) (M_L_looks N xs) (false, false) (181, nX m n) (181, nX m n) r 138 (lm m n σ) [(2, (0 : Int)), (1, x1), (9, 0), (0, x3), (9, 0)] [] := by
  unfold f_L_looks_138 at h
  refine el_iincG dL_looks_138 rfl h rfl (fun v20 h => ?_)
  show El _ _ _ _ _ _ 141 _ [(2, (0 : Int)), (1, x1), (9, 0), (0, v20), (9, 0)] _
  refine el_goto (tgt := 99) dL_looks_141 rfl ?_
  obtain rfl := Option.some.inj h
  exact el_sub (L2 := [(2, (0 : Int)), (1, x1), (9, 0), (0, v20), (9, 0)]) K ⟨.inr rfl, .inr rfl, .inl rfl, .inr rfl, .inl rfl, trivial⟩
set_option maxHeartbeats 4000000 in
set_option maxRecDepth 20000 in
theorem b_L_looks_111 (m n N : Nat) (xs : Nat → Int32) (hmn : m ≤ 10 ∧ n ≤ 4) (hN : (N : Int) ≤ 2147483647) (x3 : Int)  {r : Option V × LM} : ∀ a x, f_L_looks_111B m n N xs x3 a = some x → K_L_looks_111 m n N xs x3 r x → K_L_looks_111 m n N xs x3 r (.inl a) := by
  intro a x h K
  obtain ⟨x1, x4, σ⟩ := a
  have h : f_L_looks_111C m n N xs x3 x1 x4 σ = some x := h
  unfold f_L_looks_111C at h
  show El (xsh m n) (M_L_looks N xs) (false, false) (181, nX m n) (181, nX m n) r 111 (lm m n σ) [(2, (0 : Int)), (1, x1), (9, 0), (0, x3), (0, x4)] []
  refine el_iload dL_looks_111 rfl ?_
  refine el_iconst dL_looks_113 (by decide) ?_
  refine el_icmp_ge (tgt := 138) dL_looks_114 rfl h (fun cb h => ?_) (fun cb h => ?_)
  · obtain rfl := Option.some.inj h
    exact el_sub (L2 := [(2, (0 : Int)), (1, x1), (9, 0), (0, x3), (9, 0)]) K ⟨.inr rfl, .inr rfl, .inl rfl, .inr rfl, .inl rfl, trivial⟩
  refine el_ldc2 (x := (31 : Int)) dL_looks_117 wc_L_53 (by decide) (by decide) ?_
  refine el_lload_n dL_looks_120 rfl ?_
  refine el_lmul dL_looks_121 ?_
  refine el_aload_n dL_looks_122 rfl (by decide) ?_
  refine el_iload_n dL_looks_123 rfl ?_
  refine el_iload dL_looks_124 rfl ?_
  obtain ⟨v16, hc17, h⟩ := bind_of h
  refine el_invV (k := (0 : Int)) (av := [(0, x3), (0, x4)]) (st := [(1, (kmul (31 : Int) x1))]) (r2 := (some (0, v16.1), rho, v16.2)) dL_looks_126 ml_L_61 mv_X10_paperOf (T := TX10) (ci := 9) rfl sp0 (by decide) (by decide) rfl ⟨Nat.le_of_ble_eq_true rfl, Nat.le_of_ble_eq_true rfl⟩ (Nat.le_of_ble_eq_true rfl) (c_X10_paperOf hc17) ⟨Nat.le_refl _, Nat.le_refl _⟩ ?_
  show El _ _ _ _ _ _ 129 (lm m n (v16.2, σ.2)) _ ((0, v16.1) :: [(1, (kmul (31 : Int) x1))])
  refine el_i2lk dL_looks_129 ?_
  refine el_ladd dL_looks_130 ?_
  refine el_lstore_nG dL_looks_131 h rfl (Nat.le_of_ble_eq_true rfl) (fun v18 h => ?_)
  show El _ _ _ _ _ _ 132 _ [(2, (0 : Int)), (1, v18), (9, 0), (0, x3), (0, x4)] _
  refine el_iincG dL_looks_132 rfl h rfl (fun v19 h => ?_)
  show El _ _ _ _ _ _ 135 _ [(2, (0 : Int)), (1, v18), (9, 0), (0, x3), (0, v19)] _
  show El _ _ _ _ _ _ 135 _ _ _
  refine el_goto (tgt := 111) dL_looks_135 rfl ?_
  obtain rfl := Option.some.inj h
  exact el_sub (L2 := [(2, (0 : Int)), (1, v18), (9, 0), (0, x3), (0, v19)]) K ⟨.inr rfl, .inr rfl, .inl rfl, .inr rfl, .inr rfl, trivial⟩
set_option maxHeartbeats 4000000 in
set_option maxRecDepth 20000 in
theorem e_L_looks_111 (m n N : Nat) (xs : Nat → Int32) (hmn : m ≤ 10 ∧ n ≤ 4) (hN : (N : Int) ≤ 2147483647) (σ : M2) (x1 x3 x4 : Int)  {q : ((Int × Int × M2) ⊕ ((Int × M2)))} (h : f_L_looks_111 m n N xs σ x1 x3 x4 = some q) {r : Option V × LM} (K : K_L_looks_99 m n N xs  r q) : El (xsh m n) (M_L_looks N xs) (false, false) (181, nX m n) (181, nX m n) r 111 (lm m n σ) [(2, (0 : Int)), (1, x1), (9, 0), (0, x3), (0, x4)] [] := by
  unfold f_L_looks_111 at h
  obtain ⟨e, hl, h⟩ := bind_of h
  refine loop_ev (K := K_L_looks_111 m n N xs x3 r) (b_L_looks_111 m n N xs hmn hN x3) FU (x1, x4, σ) e hl ?_
  show El (xsh m n) (M_L_looks N xs) (false, false) (181, nX m n) (181, nX m n) r 138 (lm m n e.2) [(2, (0 : Int)), (1, e.1), (9, 0), (0, x3), (9, 0)] []
  replace h : f_L_looks_138 m n N xs e.2 e.1 x3 = some q := h
  exact el_sub (L2 := [(2, (0 : Int)), (1, e.1), (9, 0), (0, x3), (9, 0)]) (e_L_looks_138 m n N xs hmn hN e.2 e.1 x3 h K) ⟨.inr rfl, .inr rfl, .inl rfl, .inr rfl, .inl rfl, trivial⟩
set_option maxHeartbeats 4000000 in
set_option maxRecDepth 20000 in
theorem b_L_looks_146 (m n N : Nat) (xs : Nat → Int32) (hmn : m ≤ 10 ∧ n ≤ 4) (hN : (N : Int) ≤ 2147483647)  {r : Option V × LM} : ∀ a x, f_L_looks_146B m n N xs  a = some x → K_L_looks_146 m n N xs  r x → K_L_looks_146 m n N xs  r (.inl a) := by
  intro a x h K
  obtain ⟨x1, x3, σ⟩ := a
  have h : f_L_looks_146C m n N xs  x1 x3 σ = some x := h
  unfold f_L_looks_146C at h
  show El (xsh m n) (M_L_looks N xs) (false, false) (181, nX m n) (181, nX m n) r 146 (lm m n σ) [(2, (0 : Int)), (1, x1), (9, 0), (0, x3), (9, 0)] []
  refine el_iload_n dL_looks_146 rfl ?_
  refine el_bipush dL_looks_147 (by decide) (by decide) ?_
  refine el_icmp_ge (tgt := 171) dL_looks_149 rfl h (fun cb h => ?_) (fun cb h => ?_)
  · obtain rfl := Option.some.inj h
    exact el_sub (L2 := [(9, 0), (1, x1), (9, 0), (9, 0), (9, 0)]) K ⟨.inl rfl, .inr rfl, .inl rfl, .inl rfl, .inl rfl, trivial⟩
  refine el_ldc2 (x := (31 : Int)) dL_looks_152 wc_L_53 (by decide) (by decide) ?_
  refine el_lload_n dL_looks_155 rfl ?_
  refine el_lmul dL_looks_156 ?_
  refine el_aload_n dL_looks_157 rfl (by decide) ?_
  refine el_iload_n dL_looks_158 rfl ?_
  obtain ⟨v21, hc22, h⟩ := bind_of h
  refine el_invV (k := (0 : Int)) (av := [(0, x3)]) (st := [(1, (kmul (31 : Int) x1))]) (r2 := (some (0, v21.1), rho, v21.2)) dL_looks_159 ml_L_50 mv_X10_status (T := TX10) (ci := 9) rfl sp0 (by decide) (by decide) rfl ⟨Nat.le_of_ble_eq_true rfl, Nat.le_of_ble_eq_true rfl⟩ (Nat.le_of_ble_eq_true rfl) (c_X10_status hc22) ⟨Nat.le_refl _, Nat.le_refl _⟩ ?_
  show El _ _ _ _ _ _ 162 (lm m n (v21.2, σ.2)) _ ((0, v21.1) :: [(1, (kmul (31 : Int) x1))])
  refine el_i2lk dL_looks_162 ?_
  refine el_ladd dL_looks_163 ?_
  refine el_lstore_nG dL_looks_164 h rfl (Nat.le_of_ble_eq_true rfl) (fun v23 h => ?_)
  show El _ _ _ _ _ _ 165 _ [(2, (0 : Int)), (1, v23), (9, 0), (0, x3), (9, 0)] _
  refine el_iincG dL_looks_165 rfl h rfl (fun v24 h => ?_)
  show El _ _ _ _ _ _ 168 _ [(2, (0 : Int)), (1, v23), (9, 0), (0, v24), (9, 0)] _
  refine el_goto (tgt := 146) dL_looks_168 rfl ?_
  obtain rfl := Option.some.inj h
  exact el_sub (L2 := [(2, (0 : Int)), (1, v23), (9, 0), (0, v24), (9, 0)]) K ⟨.inr rfl, .inr rfl, .inl rfl, .inr rfl, .inl rfl, trivial⟩
set_option maxHeartbeats 4000000 in
set_option maxRecDepth 20000 in
theorem e_L_looks_146 (m n N : Nat) (xs : Nat → Int32) (hmn : m ≤ 10 ∧ n ≤ 4) (hN : (N : Int) ≤ 2147483647) (σ : M2) (x1 x3 : Int)  {q : (Int × M2)} (h : f_L_looks_146 m n N xs σ x1 x3 = some q) : El (xsh m n) (M_L_looks N xs) (false, false) (181, nX m n) (181, nX m n) (some (1, q.1), lm m n q.2) 146 (lm m n σ) [(2, (0 : Int)), (1, x1), (9, 0), (0, x3), (9, 0)] [] := by
  unfold f_L_looks_146 at h
  obtain ⟨e, hl, h⟩ := bind_of h
  refine loop_ev (K := K_L_looks_146 m n N xs  (some (1, q.1), lm m n q.2)) (b_L_looks_146 m n N xs hmn hN ) FU (x1, x3, σ) e hl ?_
  show El (xsh m n) (M_L_looks N xs) (false, false) (181, nX m n) (181, nX m n) _ 171 (lm m n e.2) [(9, 0), (1, e.1), (9, 0), (9, 0), (9, 0)] []
  replace h : some (e.1, e.2) = some q := h
  refine el_lload_n dL_looks_171 rfl ?_
  obtain rfl := Option.some.inj h
  exact el_lret dL_looks_172 rfl (fun z => by cases z) ⟨rfl, rfl⟩ rfl
set_option maxHeartbeats 4000000 in
set_option maxRecDepth 20000 in
theorem e_L_looks_144 (m n N : Nat) (xs : Nat → Int32) (hmn : m ≤ 10 ∧ n ≤ 4) (hN : (N : Int) ≤ 2147483647) (σ : M2) (x1 : Int)  {q : (Int × M2)} (h : f_L_looks_144 m n N xs σ x1 = some q) : El (xsh m n) (M_L_looks N xs) (false, false) (181, nX m n) (181, nX m n) (some (1, q.1), lm m n q.2) 144 (lm m n σ) [(2, (0 : Int)), (1, x1), (9, 0), (9, 0), (9, 0)] [] := by
  unfold f_L_looks_144 at h
  refine el_iconst dL_looks_144 (by decide) ?_
  refine el_istore_n dL_looks_145 rfl (Nat.le_of_ble_eq_true rfl) ?_
  show El _ _ _ _ _ _ 146 _ [(2, (0 : Int)), (1, x1), (9, 0), (0, (0 : Int)), (9, 0)] _
  exact el_sub (L2 := [(2, (0 : Int)), (1, x1), (9, 0), (0, (0 : Int)), (9, 0)]) (e_L_looks_146 m n N xs hmn hN σ x1 (0 : Int) h) ⟨.inr rfl, .inr rfl, .inl rfl, .inr rfl, .inl rfl, trivial⟩
set_option maxHeartbeats 4000000 in
set_option maxRecDepth 20000 in
theorem b_L_looks_99 (m n N : Nat) (xs : Nat → Int32) (hmn : m ≤ 10 ∧ n ≤ 4) (hN : (N : Int) ≤ 2147483647)  {r : Option V × LM} : ∀ a x, f_L_looks_99B m n N xs  a = some x → K_L_looks_99 m n N xs  r x → K_L_looks_99 m n N xs  r (.inl a) := by
  intro a x h K
  obtain ⟨x1, x3, σ⟩ := a
  have h : f_L_looks_99C m n N xs  x1 x3 σ = some x := h
  unfold f_L_looks_99C at h
  show El (xsh m n) (M_L_looks N xs) (false, false) (181, nX m n) (181, nX m n) r 99 (lm m n σ) [(2, (0 : Int)), (1, x1), (9, 0), (0, x3), (9, 0)] []
  refine el_iload_n dL_looks_99 rfl ?_
  refine el_aload_n dL_looks_100 rfl (by decide) ?_
  refine el_iconst dL_looks_101 (by decide) ?_
  obtain ⟨v14, hc15, h⟩ := bind_of h
  refine el_invV (k := (0 : Int)) (av := [(0, (0 : Int))]) (st := [(0, x3)]) (r2 := (some (0, v14.1), rho, v14.2)) dL_looks_102 ml_L_50 mv_X10_status (T := TX10) (ci := 9) rfl sp0 (by decide) (by decide) rfl ⟨Nat.le_of_ble_eq_true rfl, Nat.le_of_ble_eq_true rfl⟩ (Nat.le_of_ble_eq_true rfl) (c_X10_status hc15) ⟨Nat.le_refl _, Nat.le_refl _⟩ ?_
  show El _ _ _ _ _ _ 105 (lm m n (v14.2, σ.2)) _ ((0, v14.1) :: [(0, x3)])
  refine el_icmp_ge (tgt := 144) dL_looks_105 rfl h (fun cb h => ?_) (fun cb h => ?_)
  · obtain rfl := Option.some.inj h
    exact el_sub (L2 := [(2, (0 : Int)), (1, x1), (9, 0), (9, 0), (9, 0)]) K ⟨.inr rfl, .inr rfl, .inl rfl, .inl rfl, .inl rfl, trivial⟩
  refine el_iconst dL_looks_108 (by decide) ?_
  refine el_istore dL_looks_109 rfl (Nat.le_of_ble_eq_true rfl) ?_
  show El _ _ _ _ _ _ 111 _ [(2, (0 : Int)), (1, x1), (9, 0), (0, x3), (0, (0 : Int))] _
  exact el_sub (L2 := [(2, (0 : Int)), (1, x1), (9, 0), (0, x3), (0, (0 : Int))]) (e_L_looks_111 m n N xs hmn hN (v14.2, σ.2) x1 x3 (0 : Int) h K) ⟨.inr rfl, .inr rfl, .inl rfl, .inr rfl, .inr rfl, trivial⟩
set_option maxHeartbeats 4000000 in
set_option maxRecDepth 20000 in
theorem e_L_looks_99 (m n N : Nat) (xs : Nat → Int32) (hmn : m ≤ 10 ∧ n ≤ 4) (hN : (N : Int) ≤ 2147483647) (σ : M2) (x1 x3 : Int)  {q : (Int × M2)} (h : f_L_looks_99 m n N xs σ x1 x3 = some q) : El (xsh m n) (M_L_looks N xs) (false, false) (181, nX m n) (181, nX m n) (some (1, q.1), lm m n q.2) 99 (lm m n σ) [(2, (0 : Int)), (1, x1), (9, 0), (0, x3), (9, 0)] [] := by
  unfold f_L_looks_99 at h
  obtain ⟨e, hl, h⟩ := bind_of h
  refine loop_ev (K := K_L_looks_99 m n N xs  (some (1, q.1), lm m n q.2)) (b_L_looks_99 m n N xs hmn hN ) FU (x1, x3, σ) e hl ?_
  show El (xsh m n) (M_L_looks N xs) (false, false) (181, nX m n) (181, nX m n) _ 144 (lm m n e.2) [(2, (0 : Int)), (1, e.1), (9, 0), (9, 0), (9, 0)] []
  replace h : f_L_looks_144 m n N xs e.2 e.1 = some q := h
  exact el_sub (L2 := [(2, (0 : Int)), (1, e.1), (9, 0), (9, 0), (9, 0)]) (e_L_looks_144 m n N xs hmn hN e.2 e.1 h) ⟨.inr rfl, .inr rfl, .inl rfl, .inl rfl, .inl rfl, trivial⟩
set_option maxHeartbeats 4000000 in
set_option maxRecDepth 20000 in
theorem e_L_looks_97 (m n N : Nat) (xs : Nat → Int32) (hmn : m ≤ 10 ∧ n ≤ 4) (hN : (N : Int) ≤ 2147483647) (σ : M2) (x1 : Int)  {q : (Int × M2)} (h : f_L_looks_97 m n N xs σ x1 = some q) : El (xsh m n) (M_L_looks N xs) (false, false) (181, nX m n) (181, nX m n) (some (1, q.1), lm m n q.2) 97 (lm m n σ) [(2, (0 : Int)), (1, x1), (9, 0), (9, 0), (9, 0)] [] := by
  unfold f_L_looks_97 at h
  refine el_iconst dL_looks_97 (by decide) ?_
  refine el_istore_n dL_looks_98 rfl (Nat.le_of_ble_eq_true rfl) ?_
  show El _ _ _ _ _ _ 99 _ [(2, (0 : Int)), (1, x1), (9, 0), (0, (0 : Int)), (9, 0)] _
  exact el_sub (L2 := [(2, (0 : Int)), (1, x1), (9, 0), (0, (0 : Int)), (9, 0)]) (e_L_looks_99 m n N xs hmn hN σ x1 (0 : Int) h) ⟨.inr rfl, .inr rfl, .inl rfl, .inr rfl, .inl rfl, trivial⟩
set_option maxHeartbeats 4000000 in
set_option maxRecDepth 20000 in
theorem b_L_looks_6 (m n N : Nat) (xs : Nat → Int32) (hmn : m ≤ 10 ∧ n ≤ 4) (hN : (N : Int) ≤ 2147483647)  {r : Option V × LM} : ∀ a x, f_L_looks_6B m n N xs  a = some x → K_L_looks_6 m n N xs  r x → K_L_looks_6 m n N xs  r (.inl a) := by
  intro a x h K
  obtain ⟨x1, x3, σ⟩ := a
  have h : f_L_looks_6C m n N xs  x1 x3 σ = some x := h
  unfold f_L_looks_6C at h
  show El (xsh m n) (M_L_looks N xs) (false, false) (181, nX m n) (181, nX m n) r 6 (lm m n σ) [(2, (0 : Int)), (1, x1), (9, 0), (0, x3), (9, 0)] []
  refine el_iload_n dL_looks_6 rfl ?_
  refine el_aload_n dL_looks_7 rfl (by decide) ?_
  refine el_iconst dL_looks_8 (by decide) ?_
  obtain ⟨v1, hc2, h⟩ := bind_of h
  refine el_invV (k := (0 : Int)) (av := [(0, (1 : Int))]) (st := [(0, x3)]) (r2 := (some (0, v1.1), rho, v1.2)) dL_looks_9 ml_L_50 mv_X10_status (T := TX10) (ci := 9) rfl sp0 (by decide) (by decide) rfl ⟨Nat.le_of_ble_eq_true rfl, Nat.le_of_ble_eq_true rfl⟩ (Nat.le_of_ble_eq_true rfl) (c_X10_status hc2) ⟨Nat.le_refl _, Nat.le_refl _⟩ ?_
  show El _ _ _ _ _ _ 12 (lm m n (v1.2, σ.2)) _ ((0, v1.1) :: [(0, x3)])
  refine el_icmp_ge (tgt := 97) dL_looks_12 rfl h (fun cb h => ?_) (fun cb h => ?_)
  · obtain rfl := Option.some.inj h
    exact el_sub (L2 := [(2, (0 : Int)), (1, x1), (9, 0), (9, 0), (9, 0)]) K ⟨.inr rfl, .inr rfl, .inl rfl, .inl rfl, .inl rfl, trivial⟩
  refine el_iconst dL_looks_15 (by decide) ?_
  refine el_istore dL_looks_16 rfl (Nat.le_of_ble_eq_true rfl) ?_
  show El _ _ _ _ _ _ 18 _ [(2, (0 : Int)), (1, x1), (9, 0), (0, x3), (0, (0 : Int))] _
  exact el_sub (L2 := [(2, (0 : Int)), (1, x1), (9, 0), (0, x3), (0, (0 : Int))]) (e_L_looks_18 m n N xs hmn hN (v1.2, σ.2) x1 x3 (0 : Int) h K) ⟨.inr rfl, .inr rfl, .inl rfl, .inr rfl, .inr rfl, trivial⟩
set_option maxHeartbeats 4000000 in
set_option maxRecDepth 20000 in
theorem e_L_looks_6 (m n N : Nat) (xs : Nat → Int32) (hmn : m ≤ 10 ∧ n ≤ 4) (hN : (N : Int) ≤ 2147483647) (σ : M2) (x1 x3 : Int)  {q : (Int × M2)} (h : f_L_looks_6 m n N xs σ x1 x3 = some q) : El (xsh m n) (M_L_looks N xs) (false, false) (181, nX m n) (181, nX m n) (some (1, q.1), lm m n q.2) 6 (lm m n σ) [(2, (0 : Int)), (1, x1), (9, 0), (0, x3), (9, 0)] [] := by
  unfold f_L_looks_6 at h
  obtain ⟨e, hl, h⟩ := bind_of h
  refine loop_ev (K := K_L_looks_6 m n N xs  (some (1, q.1), lm m n q.2)) (b_L_looks_6 m n N xs hmn hN ) FU (x1, x3, σ) e hl ?_
  show El (xsh m n) (M_L_looks N xs) (false, false) (181, nX m n) (181, nX m n) _ 97 (lm m n e.2) [(2, (0 : Int)), (1, e.1), (9, 0), (9, 0), (9, 0)] []
  replace h : f_L_looks_97 m n N xs e.2 e.1 = some q := h
  exact el_sub (L2 := [(2, (0 : Int)), (1, e.1), (9, 0), (9, 0), (9, 0)]) (e_L_looks_97 m n N xs hmn hN e.2 e.1 h) ⟨.inr rfl, .inr rfl, .inl rfl, .inl rfl, .inl rfl, trivial⟩
set_option maxHeartbeats 4000000 in
set_option maxRecDepth 20000 in
theorem c_L_looks {m n N : Nat} {xs : Nat → Int32} (hmn : m ≤ 10 ∧ n ≤ 4) (hN : (N : Int) ≤ 2147483647) {σ : M2}  {q : (Int × M2)} (h : f_L_looks m n N xs σ  = some q) : MsL (xsh m n) N xs yL_looks (M_L_looks N xs) false (181, nX m n) [(2, (0 : Int))] (lm m n σ) (some (1, q.1), lm m n q.2) := by
  refine MsL.of 4 (by decide +kernel) rfl rfl rfl rfl rfl ?_
  refine el_loose ?_
  unfold f_L_looks at h
  show El (xsh m n) (M_L_looks N xs) (false, false) (181, nX m n) (181, nX m n) _ 0 (lm m n σ) [(2, (0 : Int)), (9, 0), (9, 0), (9, 0), (9, 0)] []
  refine el_ldc2 (x := (5 : Int)) dL_looks_0 wc_L_48 (by decide) (by decide) ?_
  refine el_lstore_n dL_looks_3 rfl (Nat.le_of_ble_eq_true rfl) ?_
  show El _ _ _ _ _ _ 4 _ [(2, (0 : Int)), (1, (5 : Int)), (9, 0), (9, 0), (9, 0)] _
  refine el_iconst dL_looks_4 (by decide) ?_
  refine el_istore_n dL_looks_5 rfl (Nat.le_of_ble_eq_true rfl) ?_
  show El _ _ _ _ _ _ 6 _ [(2, (0 : Int)), (1, (5 : Int)), (9, 0), (0, (0 : Int)), (9, 0)] _
  exact el_sub (L2 := [(2, (0 : Int)), (1, (5 : Int)), (9, 0), (0, (0 : Int)), (9, 0)]) (e_L_looks_6 m n N xs hmn hN σ (5 : Int) (0 : Int) h) ⟨.inr rfl, .inr rfl, .inl rfl, .inr rfl, .inl rfl, trivial⟩
