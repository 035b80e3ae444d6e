set_option maxHeartbeats 4000000 in
set_option maxRecDepth 20000 in
theorem e_L_cell_15 {S : XS} (N : Nat) (xs : Nat → Int32) (hN : (N : Int) ≤ 2147483647) (μ : LM) (x1 s1 s0 : Int)  {q : Int} (h : f_L_cell_15 N xs x1 s1 s0 = some q) : El S (M_L_cell N xs) (true, true) (μ.1, μ.2.2.2.1) (μ.1, μ.2.2.2.1) (some (0, q), μ) 15 μ [(9, 0), (0, x1), (9, 0)] [(0, s1), (0, s0)] := by
  unfold f_L_cell_15 at h
  refine el_sipush dL_cell_15 (by decide) (by decide) ?_
  refine el_iload_n dL_cell_18 rfl ?_
  refine el_imul dL_cell_19 ?_
  refine el_iadd dL_cell_20 ?_
  refine el_imul dL_cell_21 ?_
  refine el_sipush dL_cell_22 (by decide) (by decide) ?_
  refine el_iadd dL_cell_25 ?_
  refine el_istore_nG dL_cell_26 h rfl (Nat.le_of_ble_eq_true rfl) (fun v1 h => ?_)
  show El _ _ _ _ _ _ 27 _ [(9, 0), (0, x1), (0, v1)] _
  refine el_iload_n dL_cell_27 rfl ?_
  refine el_iload_n dL_cell_28 rfl ?_
  refine el_bipush dL_cell_29 (by decide) (by decide) ?_
  show El _ _ _ _ _ _ 31 _ _ _
  refine el_iushr dL_cell_31 ?_
  refine el_ixor dL_cell_32 ?_
  refine el_ldc (x := (1103515245 : Int)) dL_cell_33 wc_L_8 (by decide) (by decide) ?_
  refine el_imul dL_cell_35 ?_
  refine el_istore_nG dL_cell_36 h rfl (Nat.le_of_ble_eq_true rfl) (fun v2 h => ?_)
  show El _ _ _ _ _ _ 37 _ [(9, 0), (0, x1), (0, v2)] _
  refine el_iload_n dL_cell_37 rfl ?_
  refine el_iload_n dL_cell_38 rfl ?_
  refine el_bipush dL_cell_39 (by decide) (by decide) ?_
  refine el_iushr dL_cell_41 ?_
  refine el_ixor dL_cell_42 ?_
  obtain rfl := Option.some.inj h
  exact el_iret dL_cell_43 rfl (fun z => z) ⟨rfl, rfl⟩ rfl
set_option maxHeartbeats 4000000 in
set_option maxRecDepth 20000 in
theorem c_L_cell {S : XS} {N : Nat} {xs : Nat → Int32} (hN : (N : Int) ≤ 2147483647) {μ : LM} {x1 : Int}  {q : Int} (h : f_L_cell N xs x1 = some q) : MsL S N xs yL_cell (M_L_cell N xs) true (μ.1, μ.2.2.2.1) [(3, (200000 : Int)), (0, x1)] μ (some (0, q), μ) := by
  refine MsL.of 1 (by decide +kernel) rfl rfl rfl rfl rfl ?_
  unfold f_L_cell at h
  show El S (M_L_cell N xs) (true, true) (μ.1, μ.2.2.2.1) (μ.1, μ.2.2.2.1) _ 0 μ [(3, (200000 : Int)), (0, x1), (9, 0)] []
  refine el_ldc (x := (69069 : Int)) dL_cell_0 wc_L_7 (by decide) (by decide) ?_
  refine el_iload_n dL_cell_2 rfl ?_
  refine el_aloadS dL_cell_3 rfl ?_
  refine el_scl dL_cell_4 rfl hN ?_
  refine el_icmp_ge (tgt := 14) dL_cell_5 rfl h (fun cb h => ?_) (fun cb h => ?_)
  · refine el_iconst dL_cell_14 (by decide) ?_
    exact el_sub (L2 := [(9, 0), (0, x1), (9, 0)]) (e_L_cell_15 N xs hN μ x1 (0 : Int) (69069 : Int) h) ⟨.inl rfl, .inr rfl, .inl rfl, trivial⟩
  refine el_aloadS dL_cell_8 rfl ?_
  refine el_iload_n dL_cell_9 rfl ?_
  refine el_scld dL_cell_10 rfl h (fun h => ?_)
  refine el_goto (tgt := 15) dL_cell_11 rfl ?_
  exact el_sub (L2 := [(9, 0), (0, x1), (9, 0)]) (e_L_cell_15 N xs hN μ x1 ((xs (x1).toNat).toInt) (69069 : Int) h) ⟨.inl rfl, .inr rfl, .inl rfl, trivial⟩
set_option maxHeartbeats 4000000 in
set_option maxRecDepth 20000 in
theorem c_L_pick {S : XS} {N : Nat} {xs : Nat → Int32} (hN : (N : Int) ≤ 2147483647) {μ : LM} {x1 x2 : Int}  {q : Int} (h : f_L_pick N xs x1 x2 = some q) : MsL S N xs yL_pick (M_L_pick N xs) true (μ.1, μ.2.2.2.1) [(3, (200000 : Int)), (0, x1), (0, x2)] μ (some (0, q), μ) := by
  refine MsL.of 0 (by decide +kernel) rfl rfl rfl rfl rfl ?_
  unfold f_L_pick at h
  show El S (M_L_pick N xs) (true, true) (μ.1, μ.2.2.2.1) (μ.1, μ.2.2.2.1) _ 0 μ [(3, (200000 : Int)), (0, x1), (0, x2)] []
  refine el_aloadS dL_pick_0 rfl ?_
  refine el_iload_n dL_pick_1 rfl ?_
  obtain ⟨v1, hc2, h⟩ := bind_of h
  refine el_call (av := [(3, (200000 : Int)), (0, x1)]) (st := []) (z2 := (μ.1, μ.2.2.2.1)) (r2 := (some (0, v1), μ)) dL_pick_2 rfl ml_L_9 mt_L_cell rfl ⟨Nat.le_of_ble_eq_true rfl, Nat.le_of_ble_eq_true rfl⟩ (Nat.le_of_ble_eq_true rfl) (c_L_cell hN  hc2) ⟨Nat.le_refl _, Nat.le_refl _, Nat.le_refl _, Nat.le_refl _⟩ ⟨rfl, rfl⟩ (Or.inl rfl) (fun _ => rfl) ?_
  show El _ _ _ _ _ _ 5 (μ) _ ((0, v1) :: [])
  refine el_bipush dL_pick_5 (by decide) (by decide) ?_
  refine el_iushr dL_pick_7 ?_
  refine el_iload_n dL_pick_8 rfl ?_
  refine el_irem dL_pick_9 h (fun h => ?_)
  obtain rfl := Option.some.inj h
  exact el_iret dL_pick_10 rfl (fun z => z) ⟨rfl, rfl⟩ rfl
