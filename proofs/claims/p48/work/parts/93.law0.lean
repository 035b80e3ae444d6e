def K_L_isFifth_5 (m n N : Nat) (xs : Nat → Int32) (σ : M2) (x1 x2 : Int) (r : Option V × LM) : (Int × Int) ⊕ ((Int)) → Prop := Sum.elim (fun a => El (xsh m n) (M_L_isFifth N xs) (false, false) (181, nX m n) (181, nX m n) r 5 (lm m n σ) [(3, (1 : Int)), (3, x1), (0, x2), (0, a.1), (0, a.2)] []) (fun e => El (xsh m n) (M_L_isFifth N xs) (false, false) (181, nX m n) (181, nX m n) r 51 (lm m n σ) [(9, 0), (3, x1), (0, x2), (0, e), (9, 0)] [])
set_option maxHeartbeats 4000000 in
set_option maxRecDepth 20000 in
theorem e_L_isFifth_43 (m n N : Nat) (xs : Nat → Int32) (hmn : m ≤ 10 ∧ n ≤ 4) (hN : (N : Int) ≤ 2147483647) (σ : M2) (x1 x2 x4 s1 s0 : Int) (hx1 : isQ m n x1) {q : ((Int × Int) ⊕ ((Int)))} (h : f_L_isFifth_43 m n N xs σ x1 x2 x4 s1 s0 = some q) {r : Option V × LM} (K : K_L_isFifth_5 m n N xs σ x1 x2 r q) : El (xsh m n) (M_L_isFifth N xs) (false, false) (181, nX m n) (181, nX m n) r 43 (lm m n σ) [(3, (1 : Int)), (3, x1), (0, x2), (9, 0), (0, x4)] [(0, s1), (0, s0)] := by
  unfold f_L_isFifth_43 at h
  refine el_iadd dL_isFifth_43 ?_
  refine el_istore_nG dL_isFifth_44 h rfl (Nat.le_of_ble_eq_true rfl) (fun v3 h => ?_)
  show El _ _ _ _ _ _ 45 _ [(3, (1 : Int)), (3, x1), (0, x2), (0, v3), (0, x4)] _
  refine el_iincG dL_isFifth_45 rfl h rfl (fun v4 h => ?_)
  show El _ _ _ _ _ _ 48 _ [(3, (1 : Int)), (3, x1), (0, x2), (0, v3), (0, v4)] _
  refine el_goto (tgt := 5) dL_isFifth_48 rfl ?_
  obtain rfl := Option.some.inj h
  exact el_sub (L2 := [(3, (1 : Int)), (3, x1), (0, x2), (0, v3), (0, v4)]) K ⟨.inr rfl, .inr rfl, .inr rfl, .inr rfl, .inr rfl, trivial⟩
set_option maxHeartbeats 4000000 in
set_option maxRecDepth 20000 in
theorem e_L_isFifth_42 (m n N : Nat) (xs : Nat → Int32) (hmn : m ≤ 10 ∧ n ≤ 4) (hN : (N : Int) ≤ 2147483647) (σ : M2) (x1 x2 x4 s0 : Int) (hx1 : isQ m n x1) {q : ((Int × Int) ⊕ ((Int)))} (h : f_L_isFifth_42 m n N xs σ x1 x2 x4 s0 = some q) {r : Option V × LM} (K : K_L_isFifth_5 m n N xs σ x1 x2 r q) : El (xsh m n) (M_L_isFifth N xs) (false, false) (181, nX m n) (181, nX m n) r 42 (lm m n σ) [(3, (1 : Int)), (3, x1), (0, x2), (9, 0), (0, x4)] [(0, s0)] := by
  unfold f_L_isFifth_42 at h
  refine el_iconst dL_isFifth_42 (by decide) ?_
  exact el_sub (L2 := [(3, (1 : Int)), (3, x1), (0, x2), (9, 0), (0, x4)]) (e_L_isFifth_43 m n N xs hmn hN σ x1 x2 x4 (0 : Int) s0 hx1 h K) ⟨.inr rfl, .inr rfl, .inr rfl, .inl rfl, .inr rfl, trivial⟩
set_option maxHeartbeats 4000000 in
set_option maxRecDepth 20000 in
theorem e_L_isFifth_51 (m n N : Nat) (xs : Nat → Int32) (hmn : m ≤ 10 ∧ n ≤ 4) (hN : (N : Int) ≤ 2147483647) (σ : M2) (x1 x2 x3 : Int) (hx1 : isQ m n x1) {q : Int} (h : f_L_isFifth_51 m n N xs σ x1 x2 x3 = some q) : El (xsh m n) (M_L_isFifth N xs) (false, false) (181, nX m n) (181, nX m n) (some (0, q), lm m n σ) 51 (lm m n σ) [(9, 0), (3, x1), (0, x2), (0, x3), (9, 0)] [] := by
  unfold f_L_isFifth_51 at h
  refine el_iload_n dL_isFifth_51 rfl ?_
  refine el_iconst dL_isFifth_52 (by decide) ?_
  refine el_icmp_ne (tgt := 70) dL_isFifth_53 rfl h (fun cb h => ?_) (fun cb h => ?_)
  · refine el_iconst dL_isFifth_70 (by decide) ?_
    obtain rfl := Option.some.inj h
    exact el_zret dL_isFifth_71 rfl (fun z => by cases z) ⟨rfl, rfl⟩ (chk_pos (.inl rfl))
  refine el_aloadS dL_isFifth_56 rfl ?_
  refine el_iconst dL_isFifth_57 (by decide) ?_
  refine el_xald dL_isFifth_58 (xs_q hx1) (x0_q hx1) (xn_q hx1) h (fun h => ?_)
  refine el_iconst dL_isFifth_59 (by decide) ?_
  refine el_iload_n dL_isFifth_60 rfl ?_
  refine el_ishl dL_isFifth_61 ?_
  refine el_iand dL_isFifth_62 ?_
  refine el_if_ne (tgt := 70) dL_isFifth_63 rfl h (fun cb h => ?_) (fun cb h => ?_)
  · refine el_iconst dL_isFifth_70 (by decide) ?_
    obtain rfl := Option.some.inj h
    exact el_zret dL_isFifth_71 rfl (fun z => by cases z) ⟨rfl, rfl⟩ (chk_pos (.inl rfl))
  refine el_iconst dL_isFifth_66 (by decide) ?_
  refine el_goto (tgt := 71) dL_isFifth_67 rfl ?_
  obtain rfl := Option.some.inj h
  exact el_zret dL_isFifth_71 rfl (fun z => by cases z) ⟨rfl, rfl⟩ (chk_pos (.inr rfl))
set_option maxHeartbeats 4000000 in
set_option maxRecDepth 20000 in
theorem b_L_isFifth_5 (m n N : Nat) (xs : Nat → Int32) (hmn : m ≤ 10 ∧ n ≤ 4) (hN : (N : Int) ≤ 2147483647) (σ : M2) (x1 x2 : Int) (hx1 : isQ m n x1) {r : Option V × LM} : ∀ a x, f_L_isFifth_5B m n N xs σ x1 x2 a = some x → K_L_isFifth_5 m n N xs σ x1 x2 r x → K_L_isFifth_5 m n N xs σ x1 x2 r (.inl a) := by
  intro a x h K
  obtain ⟨x3, x4⟩ := a
  have h : f_L_isFifth_5C m n N xs σ x1 x2 x3 x4 = some x := h
  unfold f_L_isFifth_5C at h
  show El (xsh m n) (M_L_isFifth N xs) (false, false) (181, nX m n) (181, nX m n) r 5 (lm m n σ) [(3, (1 : Int)), (3, x1), (0, x2), (0, x3), (0, x4)] []
  refine el_iload dL_isFifth_5 rfl ?_
  refine el_aloadS dL_isFifth_7 rfl ?_
  refine el_xlen (N := m) (d := 3) dL_isFifth_8 xs_P (by decide) (by omega) x0_P xn_P ?_
  refine el_icmp_ge (tgt := 51) dL_isFifth_9 rfl h (fun cb h => ?_) (fun cb h => ?_)
  · obtain rfl := Option.some.inj h
    exact el_sub (L2 := [(9, 0), (3, x1), (0, x2), (0, x3), (9, 0)]) K ⟨.inl rfl, .inr rfl, .inr rfl, .inr rfl, .inl rfl, trivial⟩
  refine el_iload_n dL_isFifth_12 rfl ?_
  refine el_aloadS dL_isFifth_13 rfl ?_
  refine el_iconst dL_isFifth_14 (by decide) ?_
  refine el_xald dL_isFifth_15 (xs_q hx1) (x0_q hx1) (xn_q hx1) h (fun h => ?_)
  refine el_iconst dL_isFifth_16 (by decide) ?_
  refine el_iload dL_isFifth_17 rfl ?_
  refine el_ishl dL_isFifth_19 ?_
  refine el_iand dL_isFifth_20 ?_
  refine el_if_eq (tgt := 42) dL_isFifth_21 rfl h (fun cb h => ?_) (fun cb h => ?_)
  · exact el_sub (L2 := [(3, (1 : Int)), (3, x1), (0, x2), (9, 0), (0, x4)]) (e_L_isFifth_42 m n N xs hmn hN σ x1 x2 x4 x3 hx1 h K) ⟨.inr rfl, .inr rfl, .inr rfl, .inl rfl, .inr rfl, trivial⟩
  refine el_aloadS dL_isFifth_24 rfl ?_
  refine el_iload dL_isFifth_25 rfl ?_
  have hw1 := (chk_of h).1
  refine el_xaald (v := (2 + x4)) dL_isFifth_27 xs_P x0_P xn_P h eta_P (fun h => ?_)
  refine el_iconst dL_isFifth_28 (by decide) ?_
  refine el_xald dL_isFifth_29 (xs_p (isPp_at (n := n) hw1)) (x0_p (isPp_at (n := n) hw1)) (xn_p (isPp_at (n := n) hw1)) h (fun h => ?_)
  refine el_aloadS dL_isFifth_30 rfl ?_
  refine el_iload_n dL_isFifth_31 rfl ?_
  have hw2 := (chk_of h).1
  refine el_xaald (v := (2 + x2)) dL_isFifth_32 xs_P x0_P xn_P h eta_P (fun h => ?_)
  refine el_iconst dL_isFifth_33 (by decide) ?_
  refine el_xald dL_isFifth_34 (xs_p (isPp_at (n := n) hw2)) (x0_p (isPp_at (n := n) hw2)) (xn_p (isPp_at (n := n) hw2)) h (fun h => ?_)
  refine el_icmp_ne (tgt := 42) dL_isFifth_35 rfl h (fun cb h => ?_) (fun cb h => ?_)
  · exact el_sub (L2 := [(3, (1 : Int)), (3, x1), (0, x2), (9, 0), (0, x4)]) (e_L_isFifth_42 m n N xs hmn hN σ x1 x2 x4 x3 hx1 h K) ⟨.inr rfl, .inr rfl, .inr rfl, .inl rfl, .inr rfl, trivial⟩
  refine el_iconst dL_isFifth_38 (by decide) ?_
  refine el_goto (tgt := 43) dL_isFifth_39 rfl ?_
  exact el_sub (L2 := [(3, (1 : Int)), (3, x1), (0, x2), (9, 0), (0, x4)]) (e_L_isFifth_43 m n N xs hmn hN σ x1 x2 x4 (1 : Int) x3 hx1 h K) ⟨.inr rfl, .inr rfl, .inr rfl, .inl rfl, .inr rfl, trivial⟩
set_option maxHeartbeats 4000000 in
set_option maxRecDepth 20000 in
theorem e_L_isFifth_5 (m n N : Nat) (xs : Nat → Int32) (hmn : m ≤ 10 ∧ n ≤ 4) (hN : (N : Int) ≤ 2147483647) (σ : M2) (x1 x2 x3 x4 : Int) (hx1 : isQ m n x1) {q : Int} (h : f_L_isFifth_5 m n N xs σ x1 x2 x3 x4 = some q) : El (xsh m n) (M_L_isFifth N xs) (false, false) (181, nX m n) (181, nX m n) (some (0, q), lm m n σ) 5 (lm m n σ) [(3, (1 : Int)), (3, x1), (0, x2), (0, x3), (0, x4)] [] := by
  unfold f_L_isFifth_5 at h
  obtain ⟨e, hl, h⟩ := bind_of h
  refine loop_ev (K := K_L_isFifth_5 m n N xs σ x1 x2 (some (0, q), lm m n σ)) (b_L_isFifth_5 m n N xs hmn hN σ x1 x2 hx1) FU (x3, x4) e hl ?_
  show El (xsh m n) (M_L_isFifth N xs) (false, false) (181, nX m n) (181, nX m n) _ 51 (lm m n σ) [(9, 0), (3, x1), (0, x2), (0, e), (9, 0)] []
  replace h : f_L_isFifth_51 m n N xs σ x1 x2 e = some q := h
  exact el_sub (L2 := [(9, 0), (3, x1), (0, x2), (0, e), (9, 0)]) (e_L_isFifth_51 m n N xs hmn hN σ x1 x2 e hx1 h) ⟨.inl rfl, .inr rfl, .inr rfl, .inr rfl, .inl rfl, trivial⟩
set_option maxHeartbeats 4000000 in
set_option maxRecDepth 20000 in
theorem c_L_isFifth {m n N : Nat} {xs : Nat → Int32} (hmn : m ≤ 10 ∧ n ≤ 4) (hN : (N : Int) ≤ 2147483647) {σ : M2} {x1 x2 : Int} (hx1 : isQ m n x1) {q : Int} (h : f_L_isFifth m n N xs σ x1 x2 = some q) : MsL (xsh m n) N xs yL_isFifth (M_L_isFifth N xs) false (181, nX m n) [(3, (1 : Int)), (3, x1), (0, x2)] (lm m n σ) (some (0, q), lm m n σ) := by
  refine MsL.of 2 (by decide +kernel) rfl rfl rfl rfl rfl ?_
  refine el_loose ?_
  unfold f_L_isFifth at h
  show El (xsh m n) (M_L_isFifth N xs) (false, false) (181, nX m n) (181, nX m n) _ 0 (lm m n σ) [(3, (1 : Int)), (3, x1), (0, x2), (9, 0), (9, 0)] []
  refine el_iconst dL_isFifth_0 (by decide) ?_
  refine el_istore_n dL_isFifth_1 rfl (Nat.le_of_ble_eq_true rfl) ?_
  show El _ _ _ _ _ _ 2 _ [(3, (1 : Int)), (3, x1), (0, x2), (0, (0 : Int)), (9, 0)] _
  refine el_iconst dL_isFifth_2 (by decide) ?_
  refine el_istore dL_isFifth_3 rfl (Nat.le_of_ble_eq_true rfl) ?_
  show El _ _ _ _ _ _ 5 _ [(3, (1 : Int)), (3, x1), (0, x2), (0, (0 : Int)), (0, (0 : Int))] _
  exact el_sub (L2 := [(3, (1 : Int)), (3, x1), (0, x2), (0, (0 : Int)), (0, (0 : Int))]) (e_L_isFifth_5 m n N xs hmn hN σ x1 x2 (0 : Int) (0 : Int) hx1 h) ⟨.inr rfl, .inr rfl, .inr rfl, .inr rfl, .inr rfl, trivial⟩
