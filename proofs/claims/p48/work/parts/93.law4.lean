def K_L_isClash_91 (m n N : Nat) (xs : Nat → Int32) (x3 x4 x5 : Int) (r : Option V × LM) : (Int × Int × M2) ⊕ ((Int × M2)) → Prop := Sum.elim (fun a => El (xsh m n) (M_L_isClash N xs) (false, false) (181, nX m n) (181, nX m n) r 91 (lm m n a.2.2) [(2, (0 : Int)), (3, (1 : Int)), (9, 0), (0, x3), (0, x4), (0, x5), (0, a.1), (0, a.2.1)] []) (fun e => El (xsh m n) (M_L_isClash N xs) (false, false) (181, nX m n) (181, nX m n) r 154 (lm m n e.2) [(2, (0 : Int)), (9, 0), (9, 0), (9, 0), (9, 0), (9, 0), (0, e.1), (9, 0)] [])
def K_L_isClash_17 (m n N : Nat) (xs : Nat → Int32) (x2 x3 x4 x5 : Int) (r : Option V × LM) : (Int × M2) ⊕ ((M2)) → Prop := Sum.elim (fun a => El (xsh m n) (M_L_isClash N xs) (false, false) (181, nX m n) (181, nX m n) r 17 (lm m n a.2) [(2, (0 : Int)), (3, (1 : Int)), (3, x2), (0, x3), (0, x4), (0, x5), (9, 0), (0, a.1)] []) (fun e => El (xsh m n) (M_L_isClash N xs) (false, false) (181, nX m n) (181, nX m n) r 71 (lm m n e) [(2, (0 : Int)), (3, (1 : Int)), (9, 0), (0, x3), (0, x4), (0, x5), (9, 0), (9, 0)] [])
set_option maxHeartbeats 4000000 in
set_option maxRecDepth 20000 in
theorem e_L_isClash_65 (m n N : Nat) (xs : Nat → Int32) (hmn : m ≤ 10 ∧ n ≤ 4) (hN : (N : Int) ≤ 2147483647) (σ : M2) (x2 x3 x4 x5 x7 : Int) (hx2 : isQ m n x2) {q : ((Int × M2) ⊕ ((M2)))} (h : f_L_isClash_65 m n N xs σ x2 x3 x4 x5 x7 = some q) {r : Option V × LM} (K : K_L_isClash_17 m n N xs x2 x3 x4 x5 r q) : El (xsh m n) (M_L_isClash N xs) (false, false) (181, nX m n) (181, nX m n) r 65 (lm m n σ) [(2, (0 : Int)), (3, (1 : Int)), (3, x2), (0, x3), (0, x4), (0, x5), (9, 0), (0, x7)] [] := by
  unfold f_L_isClash_65 at h
  refine el_iincG dL_isClash_65 rfl h rfl (fun v7 h => ?_)
  show El _ _ _ _ _ _ 68 _ [(2, (0 : Int)), (3, (1 : Int)), (3, x2), (0, x3), (0, x4), (0, x5), (9, 0), (0, v7)] _
  refine el_goto (tgt := 17) dL_isClash_68 rfl ?_
  obtain rfl := Option.some.inj h
  exact el_sub (L2 := [(2, (0 : Int)), (3, (1 : Int)), (3, x2), (0, x3), (0, x4), (0, x5), (9, 0), (0, v7)]) K ⟨.inr rfl, .inr rfl, .inr rfl, .inr rfl, .inr rfl, .inr rfl, .inl rfl, .inr rfl, trivial⟩
set_option maxHeartbeats 4000000 in
set_option maxRecDepth 20000 in
theorem e_L_isClash_148 (m n N : Nat) (xs : Nat → Int32) (hmn : m ≤ 10 ∧ n ≤ 4) (hN : (N : Int) ≤ 2147483647) (σ : M2) (x3 x4 x5 x6 x7 : Int)  {q : ((Int × Int × M2) ⊕ ((Int × M2)))} (h : f_L_isClash_148 m n N xs σ x3 x4 x5 x6 x7 = some q) {r : Option V × LM} (K : K_L_isClash_91 m n N xs x3 x4 x5 r q) : El (xsh m n) (M_L_isClash N xs) (false, false) (181, nX m n) (181, nX m n) r 148 (lm m n σ) [(2, (0 : Int)), (3, (1 : Int)), (9, 0), (0, x3), (0, x4), (0, x5), (0, x6), (0, x7)] [] := by
  unfold f_L_isClash_148 at h
  refine el_iincG dL_isClash_148 rfl h rfl (fun v14 h => ?_)
  show El _ _ _ _ _ _ 151 _ [(2, (0 : Int)), (3, (1 : Int)), (9, 0), (0, x3), (0, x4), (0, x5), (0, x6), (0, v14)] _
  refine el_goto (tgt := 91) dL_isClash_151 rfl ?_
  obtain rfl := Option.some.inj h
  exact el_sub (L2 := [(2, (0 : Int)), (3, (1 : Int)), (9, 0), (0, x3), (0, x4), (0, x5), (0, x6), (0, v14)]) K ⟨.inr rfl, .inr rfl, .inl rfl, .inr rfl, .inr rfl, .inr rfl, .inr rfl, .inr rfl, trivial⟩
set_option maxHeartbeats 4000000 in
set_option maxRecDepth 20000 in
theorem e_L_isClash_137 (m n N : Nat) (xs : Nat → Int32) (hmn : m ≤ 10 ∧ n ≤ 4) (hN : (N : Int) ≤ 2147483647) (σ : M2) (x3 x4 x5 x7 s0 : Int)  {q : ((Int × Int × M2) ⊕ ((Int × M2)))} (h : f_L_isClash_137 m n N xs σ x3 x4 x5 x7 s0 = some q) {r : Option V × LM} (K : K_L_isClash_91 m n N xs x3 x4 x5 r q) : El (xsh m n) (M_L_isClash N xs) (false, false) (181, nX m n) (181, nX m n) r 137 (lm m n σ) [(2, (0 : Int)), (3, (1 : Int)), (9, 0), (0, x3), (0, x4), (0, x5), (9, 0), (0, x7)] [(0, s0)] := by
  unfold f_L_isClash_137 at h
  refine el_istore dL_isClash_137 rfl (Nat.le_of_ble_eq_true rfl) ?_
  show El _ _ _ _ _ _ 139 _ [(2, (0 : Int)), (3, (1 : Int)), (9, 0), (0, x3), (0, x4), (0, x5), (0, s0), (0, x7)] _
  refine el_aload_n dL_isClash_139 rfl (by decide) ?_
  refine el_iload_n dL_isClash_140 rfl ?_
  refine el_iload dL_isClash_141 rfl ?_
  refine el_iconst dL_isClash_143 (by decide) ?_
  obtain ⟨v15, hc16, h⟩ := bind_of h
  refine el_invV (k := (0 : Int)) (av := [(0, x3), (0, x7), (0, (1 : Int))]) (st := []) (r2 := (some (0, v15.1), rho, v15.2)) dL_isClash_144 ml_L_45 mv_X10_takes (T := TX10) (ci := 9) rfl sp0 (by decide) (by decide) rfl ⟨Nat.le_of_ble_eq_true rfl, Nat.le_of_ble_eq_true rfl⟩ (Nat.le_of_ble_eq_true rfl) (c_X10_takes hc16) ⟨Nat.le_refl _, Nat.le_refl _⟩ ?_
  show El _ _ _ _ _ _ 147 (lm m n (v15.2, σ.2)) _ ((0, v15.1) :: [])
  refine el_pop dL_isClash_147 (show (0 : Nat) ≠ 1 by decide) ?_
  exact el_sub (L2 := [(2, (0 : Int)), (3, (1 : Int)), (9, 0), (0, x3), (0, x4), (0, x5), (0, s0), (0, x7)]) (e_L_isClash_148 m n N xs hmn hN (v15.2, σ.2) x3 x4 x5 s0 x7 h K) ⟨.inr rfl, .inr rfl, .inl rfl, .inr rfl, .inr rfl, .inr rfl, .inr rfl, .inr rfl, trivial⟩
set_option maxHeartbeats 4000000 in
set_option maxRecDepth 20000 in
theorem e_L_isClash_136 (m n N : Nat) (xs : Nat → Int32) (hmn : m ≤ 10 ∧ n ≤ 4) (hN : (N : Int) ≤ 2147483647) (σ : M2) (x3 x4 x5 x7 : Int)  {q : ((Int × Int × M2) ⊕ ((Int × M2)))} (h : f_L_isClash_136 m n N xs σ x3 x4 x5 x7 = some q) {r : Option V × LM} (K : K_L_isClash_91 m n N xs x3 x4 x5 r q) : El (xsh m n) (M_L_isClash N xs) (false, false) (181, nX m n) (181, nX m n) r 136 (lm m n σ) [(2, (0 : Int)), (3, (1 : Int)), (9, 0), (0, x3), (0, x4), (0, x5), (9, 0), (0, x7)] [] := by
  unfold f_L_isClash_136 at h
  refine el_iconst dL_isClash_136 (by decide) ?_
  exact el_sub (L2 := [(2, (0 : Int)), (3, (1 : Int)), (9, 0), (0, x3), (0, x4), (0, x5), (9, 0), (0, x7)]) (e_L_isClash_137 m n N xs hmn hN σ x3 x4 x5 x7 (0 : Int) h K) ⟨.inr rfl, .inr rfl, .inl rfl, .inr rfl, .inr rfl, .inr rfl, .inl rfl, .inr rfl, trivial⟩
set_option maxHeartbeats 4000000 in
set_option maxRecDepth 20000 in
theorem e_L_isClash_154 (m n N : Nat) (xs : Nat → Int32) (hmn : m ≤ 10 ∧ n ≤ 4) (hN : (N : Int) ≤ 2147483647) (σ : M2) (x6 : Int)  {q : (Int × M2)} (h : f_L_isClash_154 m n N xs σ x6 = some q) : El (xsh m n) (M_L_isClash N xs) (false, false) (181, nX m n) (181, nX m n) (some (0, q.1), lm m n q.2) 154 (lm m n σ) [(2, (0 : Int)), (9, 0), (9, 0), (9, 0), (9, 0), (9, 0), (0, x6), (9, 0)] [] := by
  unfold f_L_isClash_154 at h
  refine el_aload_n dL_isClash_154 rfl (by decide) ?_
  obtain ⟨v17, hc18, h⟩ := bind_of h
  refine el_invV (k := (0 : Int)) (av := []) (st := []) (r2 := (some (0, v17.1), rho, v17.2)) dL_isClash_155 ml_L_83 mv_X10_back (T := TX10) (ci := 9) rfl sp0 (by decide) (by decide) rfl ⟨Nat.le_of_ble_eq_true rfl, Nat.le_of_ble_eq_true rfl⟩ (Nat.le_of_ble_eq_true rfl) (c_X10_back hc18) ⟨Nat.le_refl _, Nat.le_refl _⟩ ?_
  show El _ _ _ _ _ _ 158 (lm m n (v17.2, σ.2)) _ ((0, v17.1) :: [])
  refine el_pop dL_isClash_158 (show (0 : Nat) ≠ 1 by decide) ?_
  refine el_iload dL_isClash_159 rfl ?_
  obtain ⟨hz, h⟩ := chk_of h
  obtain rfl := Option.some.inj h
  exact el_zret dL_isClash_161 rfl (fun z => by cases z) ⟨rfl, rfl⟩ (chk_pos hz)
set_option maxHeartbeats 4000000 in
set_option maxRecDepth 20000 in
theorem b_L_isClash_91 (m n N : Nat) (xs : Nat → Int32) (hmn : m ≤ 10 ∧ n ≤ 4) (hN : (N : Int) ≤ 2147483647) (x3 x4 x5 : Int)  {r : Option V × LM} : ∀ a x, f_L_isClash_91B m n N xs x3 x4 x5 a = some x → K_L_isClash_91 m n N xs x3 x4 x5 r x → K_L_isClash_91 m n N xs x3 x4 x5 r (.inl a) := by
  intro a x h K
  obtain ⟨x6, x7, σ⟩ := a
  have h : f_L_isClash_91C m n N xs x3 x4 x5 x6 x7 σ = some x := h
  unfold f_L_isClash_91C at h
  show El (xsh m n) (M_L_isClash N xs) (false, false) (181, nX m n) (181, nX m n) r 91 (lm m n σ) [(2, (0 : Int)), (3, (1 : Int)), (9, 0), (0, x3), (0, x4), (0, x5), (0, x6), (0, x7)] []
  refine el_iload dL_isClash_91 rfl ?_
  refine el_aloadS dL_isClash_93 rfl ?_
  refine el_xlen (N := m) (d := 3) dL_isClash_94 xs_P (by decide) (by omega) x0_P xn_P ?_
  refine el_icmp_ge (tgt := 154) dL_isClash_95 rfl h (fun cb h => ?_) (fun cb h => ?_)
  · obtain rfl := Option.some.inj h
    exact el_sub (L2 := [(2, (0 : Int)), (9, 0), (9, 0), (9, 0), (9, 0), (9, 0), (0, x6), (9, 0)]) K ⟨.inr rfl, .inl rfl, .inl rfl, .inl rfl, .inl rfl, .inl rfl, .inr rfl, .inl rfl, trivial⟩
  refine el_iload dL_isClash_98 rfl ?_
  refine el_iconst dL_isClash_100 (by decide) ?_
  refine el_iload dL_isClash_101 rfl ?_
  refine el_ishl dL_isClash_103 ?_
  refine el_iand dL_isClash_104 ?_
  refine el_if_eq (tgt := 148) dL_isClash_105 rfl h (fun cb h => ?_) (fun cb h => ?_)
  · exact el_sub (L2 := [(2, (0 : Int)), (3, (1 : Int)), (9, 0), (0, x3), (0, x4), (0, x5), (0, x6), (0, x7)]) (e_L_isClash_148 m n N xs hmn hN σ x3 x4 x5 x6 x7 h K) ⟨.inr rfl, .inr rfl, .inl rfl, .inr rfl, .inr rfl, .inr rfl, .inr rfl, .inr rfl, trivial⟩
  refine el_aload_n dL_isClash_108 rfl (by decide) ?_
  refine el_iload_n dL_isClash_109 rfl ?_
  refine el_iload dL_isClash_110 rfl ?_
  refine el_iconst dL_isClash_112 (by decide) ?_
  obtain ⟨v10, hc11, h⟩ := bind_of h
  refine el_invV (k := (0 : Int)) (av := [(0, x3), (0, x7), (0, (0 : Int))]) (st := []) (r2 := (some (0, v10.1), rho, v10.2)) dL_isClash_113 ml_L_45 mv_X10_takes (T := TX10) (ci := 9) rfl sp0 (by decide) (by decide) rfl ⟨Nat.le_of_ble_eq_true rfl, Nat.le_of_ble_eq_true rfl⟩ (Nat.le_of_ble_eq_true rfl) (c_X10_takes hc11) ⟨Nat.le_refl _, Nat.le_refl _⟩ ?_
  show El _ _ _ _ _ _ 116 (lm m n (v10.2, σ.2)) _ ((0, v10.1) :: [])
  refine el_pop dL_isClash_116 (show (0 : Nat) ≠ 1 by decide) ?_
  refine el_iload dL_isClash_117 rfl ?_
  refine el_if_eq (tgt := 136) dL_isClash_119 rfl h (fun cb h => ?_) (fun cb h => ?_)
  · exact el_sub (L2 := [(2, (0 : Int)), (3, (1 : Int)), (9, 0), (0, x3), (0, x4), (0, x5), (9, 0), (0, x7)]) (e_L_isClash_136 m n N xs hmn hN (v10.2, σ.2) x3 x4 x5 x7 h K) ⟨.inr rfl, .inr rfl, .inl rfl, .inr rfl, .inr rfl, .inr rfl, .inl rfl, .inr rfl, trivial⟩
  refine el_aload_n dL_isClash_122 rfl (by decide) ?_
  refine el_iload_n dL_isClash_123 rfl ?_
  refine el_iload dL_isClash_124 rfl ?_
  obtain ⟨v12, hc13, h⟩ := bind_of h
  refine el_invV (k := (0 : Int)) (av := [(0, x3), (0, x4)]) (st := []) (r2 := (some (0, v12.1), rho, v12.2)) dL_isClash_126 ml_L_74 mv_X10_lawful (T := TX10) (ci := 9) rfl sp0 (by decide) (by decide) rfl ⟨Nat.le_of_ble_eq_true rfl, Nat.le_of_ble_eq_true rfl⟩ (Nat.le_of_ble_eq_true rfl) (c_X10_lawful hc13) ⟨Nat.le_refl _, Nat.le_refl _⟩ ?_
  show El _ _ _ _ _ _ 129 (lm m n (v12.2, (v10.2, σ.2).2)) _ ((0, v12.1) :: [])
  refine el_if_le (tgt := 136) dL_isClash_129 rfl h (fun cb h => ?_) (fun cb h => ?_)
  · exact el_sub (L2 := [(2, (0 : Int)), (3, (1 : Int)), (9, 0), (0, x3), (0, x4), (0, x5), (9, 0), (0, x7)]) (e_L_isClash_136 m n N xs hmn hN (v12.2, (v10.2, σ.2).2) x3 x4 x5 x7 h K) ⟨.inr rfl, .inr rfl, .inl rfl, .inr rfl, .inr rfl, .inr rfl, .inl rfl, .inr rfl, trivial⟩
  refine el_iconst dL_isClash_132 (by decide) ?_
  refine el_goto (tgt := 137) dL_isClash_133 rfl ?_
  exact el_sub (L2 := [(2, (0 : Int)), (3, (1 : Int)), (9, 0), (0, x3), (0, x4), (0, x5), (9, 0), (0, x7)]) (e_L_isClash_137 m n N xs hmn hN (v12.2, (v10.2, σ.2).2) x3 x4 x5 x7 (1 : Int) h K) ⟨.inr rfl, .inr rfl, .inl rfl, .inr rfl, .inr rfl, .inr rfl, .inl rfl, .inr rfl, trivial⟩
set_option maxHeartbeats 4000000 in
set_option maxRecDepth 20000 in
theorem e_L_isClash_91 (m n N : Nat) (xs : Nat → Int32) (hmn : m ≤ 10 ∧ n ≤ 4) (hN : (N : Int) ≤ 2147483647) (σ : M2) (x3 x4 x5 x6 x7 : Int)  {q : (Int × M2)} (h : f_L_isClash_91 m n N xs σ x3 x4 x5 x6 x7 = some q) : El (xsh m n) (M_L_isClash N xs) (false, false) (181, nX m n) (181, nX m n) (some (0, q.1), lm m n q.2) 91 (lm m n σ) [(2, (0 : Int)), (3, (1 : Int)), (9, 0), (0, x3), (0, x4), (0, x5), (0, x6), (0, x7)] [] := by
  unfold f_L_isClash_91 at h
  obtain ⟨e, hl, h⟩ := bind_of h
  refine loop_ev (K := K_L_isClash_91 m n N xs x3 x4 x5 (some (0, q.1), lm m n q.2)) (b_L_isClash_91 m n N xs hmn hN x3 x4 x5) FU (x6, x7, σ) e hl ?_
  show El (xsh m n) (M_L_isClash N xs) (false, false) (181, nX m n) (181, nX m n) _ 154 (lm m n e.2) [(2, (0 : Int)), (9, 0), (9, 0), (9, 0), (9, 0), (9, 0), (0, e.1), (9, 0)] []
  replace h : f_L_isClash_154 m n N xs e.2 e.1 = some q := h
  exact el_sub (L2 := [(2, (0 : Int)), (9, 0), (9, 0), (9, 0), (9, 0), (9, 0), (0, e.1), (9, 0)]) (e_L_isClash_154 m n N xs hmn hN e.2 e.1 h) ⟨.inr rfl, .inl rfl, .inl rfl, .inl rfl, .inl rfl, .inl rfl, .inr rfl, .inl rfl, trivial⟩
set_option maxHeartbeats 4000000 in
set_option maxRecDepth 20000 in
theorem e_L_isClash_86 (m n N : Nat) (xs : Nat → Int32) (hmn : m ≤ 10 ∧ n ≤ 4) (hN : (N : Int) ≤ 2147483647) (σ : M2) (x3 x4 x5 s0 : Int)  {q : (Int × M2)} (h : f_L_isClash_86 m n N xs σ x3 x4 x5 s0 = some q) : El (xsh m n) (M_L_isClash N xs) (false, false) (181, nX m n) (181, nX m n) (some (0, q.1), lm m n q.2) 86 (lm m n σ) [(2, (0 : Int)), (3, (1 : Int)), (9, 0), (0, x3), (0, x4), (0, x5), (9, 0), (9, 0)] [(0, s0)] := by
  unfold f_L_isClash_86 at h
  refine el_istore dL_isClash_86 rfl (Nat.le_of_ble_eq_true rfl) ?_
  show El _ _ _ _ _ _ 88 _ [(2, (0 : Int)), (3, (1 : Int)), (9, 0), (0, x3), (0, x4), (0, x5), (0, s0), (9, 0)] _
  refine el_iconst dL_isClash_88 (by decide) ?_
  refine el_istore dL_isClash_89 rfl (Nat.le_of_ble_eq_true rfl) ?_
  show El _ _ _ _ _ _ 91 _ [(2, (0 : Int)), (3, (1 : Int)), (9, 0), (0, x3), (0, x4), (0, x5), (0, s0), (0, (0 : Int))] _
  exact el_sub (L2 := [(2, (0 : Int)), (3, (1 : Int)), (9, 0), (0, x3), (0, x4), (0, x5), (0, s0), (0, (0 : Int))]) (e_L_isClash_91 m n N xs hmn hN σ x3 x4 x5 s0 (0 : Int) h) ⟨.inr rfl, .inr rfl, .inl rfl, .inr rfl, .inr rfl, .inr rfl, .inr rfl, .inr rfl, trivial⟩
set_option maxHeartbeats 4000000 in
set_option maxRecDepth 20000 in
theorem e_L_isClash_71 (m n N : Nat) (xs : Nat → Int32) (hmn : m ≤ 10 ∧ n ≤ 4) (hN : (N : Int) ≤ 2147483647) (σ : M2) (x3 x4 x5 : Int)  {q : (Int × M2)} (h : f_L_isClash_71 m n N xs σ x3 x4 x5 = some q) : El (xsh m n) (M_L_isClash N xs) (false, false) (181, nX m n) (181, nX m n) (some (0, q.1), lm m n q.2) 71 (lm m n σ) [(2, (0 : Int)), (3, (1 : Int)), (9, 0), (0, x3), (0, x4), (0, x5), (9, 0), (9, 0)] [] := by
  unfold f_L_isClash_71 at h
  refine el_aload_n dL_isClash_71 rfl (by decide) ?_
  refine el_iload_n dL_isClash_72 rfl ?_
  refine el_iload dL_isClash_73 rfl ?_
  obtain ⟨v8, hc9, h⟩ := bind_of h
  refine el_invV (k := (0 : Int)) (av := [(0, x3), (0, x4)]) (st := []) (r2 := (some (0, v8.1), rho, v8.2)) dL_isClash_75 ml_L_74 mv_X10_lawful (T := TX10) (ci := 9) rfl sp0 (by decide) (by decide) rfl ⟨Nat.le_of_ble_eq_true rfl, Nat.le_of_ble_eq_true rfl⟩ (Nat.le_of_ble_eq_true rfl) (c_X10_lawful hc9) ⟨Nat.le_refl _, Nat.le_refl _⟩ ?_
  show El _ _ _ _ _ _ 78 (lm m n (v8.2, σ.2)) _ ((0, v8.1) :: [])
  refine el_if_ne (tgt := 85) dL_isClash_78 rfl h (fun cb h => ?_) (fun cb h => ?_)
  · refine el_iconst dL_isClash_85 (by decide) ?_
    exact el_sub (L2 := [(2, (0 : Int)), (3, (1 : Int)), (9, 0), (0, x3), (0, x4), (0, x5), (9, 0), (9, 0)]) (e_L_isClash_86 m n N xs hmn hN (v8.2, σ.2) x3 x4 x5 (0 : Int) h) ⟨.inr rfl, .inr rfl, .inl rfl, .inr rfl, .inr rfl, .inr rfl, .inl rfl, .inl rfl, trivial⟩
  refine el_iconst dL_isClash_81 (by decide) ?_
  refine el_goto (tgt := 86) dL_isClash_82 rfl ?_
  exact el_sub (L2 := [(2, (0 : Int)), (3, (1 : Int)), (9, 0), (0, x3), (0, x4), (0, x5), (9, 0), (9, 0)]) (e_L_isClash_86 m n N xs hmn hN (v8.2, σ.2) x3 x4 x5 (1 : Int) h) ⟨.inr rfl, .inr rfl, .inl rfl, .inr rfl, .inr rfl, .inr rfl, .inl rfl, .inl rfl, trivial⟩
set_option maxHeartbeats 4000000 in
set_option maxRecDepth 20000 in
theorem b_L_isClash_17 (m n N : Nat) (xs : Nat → Int32) (hmn : m ≤ 10 ∧ n ≤ 4) (hN : (N : Int) ≤ 2147483647) (x2 x3 x4 x5 : Int) (hx2 : isQ m n x2) {r : Option V × LM} : ∀ a x, f_L_isClash_17B m n N xs x2 x3 x4 x5 a = some x → K_L_isClash_17 m n N xs x2 x3 x4 x5 r x → K_L_isClash_17 m n N xs x2 x3 x4 x5 r (.inl a) := by
  intro a x h K
  obtain ⟨x7, σ⟩ := a
  have h : f_L_isClash_17C m n N xs x2 x3 x4 x5 x7 σ = some x := h
  unfold f_L_isClash_17C at h
  show El (xsh m n) (M_L_isClash N xs) (false, false) (181, nX m n) (181, nX m n) r 17 (lm m n σ) [(2, (0 : Int)), (3, (1 : Int)), (3, x2), (0, x3), (0, x4), (0, x5), (9, 0), (0, x7)] []
  refine el_iload dL_isClash_17 rfl ?_
  refine el_aloadS dL_isClash_19 rfl ?_
  refine el_xlen (N := m) (d := 3) dL_isClash_20 xs_P (by decide) (by omega) x0_P xn_P ?_
  refine el_icmp_ge (tgt := 71) dL_isClash_21 rfl h (fun cb h => ?_) (fun cb h => ?_)
  · obtain rfl := Option.some.inj h
    exact el_sub (L2 := [(2, (0 : Int)), (3, (1 : Int)), (9, 0), (0, x3), (0, x4), (0, x5), (9, 0), (9, 0)]) K ⟨.inr rfl, .inr rfl, .inl rfl, .inr rfl, .inr rfl, .inr rfl, .inl rfl, .inl rfl, trivial⟩
  refine el_aloadS dL_isClash_24 rfl ?_
  refine el_iload dL_isClash_25 rfl ?_
  have hw4 := (chk_of h).1
  refine el_xaald (v := (2 + x7)) dL_isClash_27 xs_P x0_P xn_P h eta_P (fun h => ?_)
  refine el_iconst dL_isClash_28 (by decide) ?_
  refine el_xald dL_isClash_29 (xs_p (isPp_at (n := n) hw4)) (x0_p (isPp_at (n := n) hw4)) (xn_p (isPp_at (n := n) hw4)) h (fun h => ?_)
  refine el_iload dL_isClash_30 rfl ?_
  refine el_icmp_ne (tgt := 65) dL_isClash_32 rfl h (fun cb h => ?_) (fun cb h => ?_)
  · exact el_sub (L2 := [(2, (0 : Int)), (3, (1 : Int)), (3, x2), (0, x3), (0, x4), (0, x5), (9, 0), (0, x7)]) (e_L_isClash_65 m n N xs hmn hN σ x2 x3 x4 x5 x7 hx2 h K) ⟨.inr rfl, .inr rfl, .inr rfl, .inr rfl, .inr rfl, .inr rfl, .inl rfl, .inr rfl, trivial⟩
  refine el_aloadS dL_isClash_35 rfl ?_
  refine el_iconst dL_isClash_36 (by decide) ?_
  refine el_xald dL_isClash_37 (xs_q hx2) (x0_q hx2) (xn_q hx2) h (fun h => ?_)
  refine el_iconst dL_isClash_38 (by decide) ?_
  refine el_iload dL_isClash_39 rfl ?_
  refine el_ishl dL_isClash_41 ?_
  refine el_iand dL_isClash_42 ?_
  refine el_if_eq (tgt := 65) dL_isClash_43 rfl h (fun cb h => ?_) (fun cb h => ?_)
  · exact el_sub (L2 := [(2, (0 : Int)), (3, (1 : Int)), (3, x2), (0, x3), (0, x4), (0, x5), (9, 0), (0, x7)]) (e_L_isClash_65 m n N xs hmn hN σ x2 x3 x4 x5 x7 hx2 h K) ⟨.inr rfl, .inr rfl, .inr rfl, .inr rfl, .inr rfl, .inr rfl, .inl rfl, .inr rfl, trivial⟩
  refine el_iload dL_isClash_46 rfl ?_
  refine el_iconst dL_isClash_48 (by decide) ?_
  refine el_iload dL_isClash_49 rfl ?_
  refine el_ishl dL_isClash_51 ?_
  refine el_iand dL_isClash_52 ?_
  refine el_if_ne (tgt := 65) dL_isClash_53 rfl h (fun cb h => ?_) (fun cb h => ?_)
  · exact el_sub (L2 := [(2, (0 : Int)), (3, (1 : Int)), (3, x2), (0, x3), (0, x4), (0, x5), (9, 0), (0, x7)]) (e_L_isClash_65 m n N xs hmn hN σ x2 x3 x4 x5 x7 hx2 h K) ⟨.inr rfl, .inr rfl, .inr rfl, .inr rfl, .inr rfl, .inr rfl, .inl rfl, .inr rfl, trivial⟩
  refine el_aload_n dL_isClash_56 rfl (by decide) ?_
  refine el_iload_n dL_isClash_57 rfl ?_
  refine el_iload dL_isClash_58 rfl ?_
  refine el_iconst dL_isClash_60 (by decide) ?_
  obtain ⟨v5, hc6, h⟩ := bind_of h
  refine el_invV (k := (0 : Int)) (av := [(0, x3), (0, x7), (0, (0 : Int))]) (st := []) (r2 := (some (0, v5.1), rho, v5.2)) dL_isClash_61 ml_L_45 mv_X10_takes (T := TX10) (ci := 9) rfl sp0 (by decide) (by decide) rfl ⟨Nat.le_of_ble_eq_true rfl, Nat.le_of_ble_eq_true rfl⟩ (Nat.le_of_ble_eq_true rfl) (c_X10_takes hc6) ⟨Nat.le_refl _, Nat.le_refl _⟩ ?_
  show El _ _ _ _ _ _ 64 (lm m n (v5.2, σ.2)) _ ((0, v5.1) :: [])
  refine el_pop dL_isClash_64 (show (0 : Nat) ≠ 1 by decide) ?_
  exact el_sub (L2 := [(2, (0 : Int)), (3, (1 : Int)), (3, x2), (0, x3), (0, x4), (0, x5), (9, 0), (0, x7)]) (e_L_isClash_65 m n N xs hmn hN (v5.2, σ.2) x2 x3 x4 x5 x7 hx2 h K) ⟨.inr rfl, .inr rfl, .inr rfl, .inr rfl, .inr rfl, .inr rfl, .inl rfl, .inr rfl, trivial⟩
set_option maxHeartbeats 4000000 in
set_option maxRecDepth 20000 in
theorem e_L_isClash_17 (m n N : Nat) (xs : Nat → Int32) (hmn : m ≤ 10 ∧ n ≤ 4) (hN : (N : Int) ≤ 2147483647) (σ : M2) (x2 x3 x4 x5 x7 : Int) (hx2 : isQ m n x2) {q : (Int × M2)} (h : f_L_isClash_17 m n N xs σ x2 x3 x4 x5 x7 = some q) : El (xsh m n) (M_L_isClash N xs) (false, false) (181, nX m n) (181, nX m n) (some (0, q.1), lm m n q.2) 17 (lm m n σ) [(2, (0 : Int)), (3, (1 : Int)), (3, x2), (0, x3), (0, x4), (0, x5), (9, 0), (0, x7)] [] := by
  unfold f_L_isClash_17 at h
  obtain ⟨e, hl, h⟩ := bind_of h
  refine loop_ev (K := K_L_isClash_17 m n N xs x2 x3 x4 x5 (some (0, q.1), lm m n q.2)) (b_L_isClash_17 m n N xs hmn hN x2 x3 x4 x5 hx2) FU (x7, σ) e hl ?_
  show El (xsh m n) (M_L_isClash N xs) (false, false) (181, nX m n) (181, nX m n) _ 71 (lm m n e) [(2, (0 : Int)), (3, (1 : Int)), (9, 0), (0, x3), (0, x4), (0, x5), (9, 0), (9, 0)] []
  replace h : f_L_isClash_71 m n N xs e x3 x4 x5 = some q := h
  exact el_sub (L2 := [(2, (0 : Int)), (3, (1 : Int)), (9, 0), (0, x3), (0, x4), (0, x5), (9, 0), (9, 0)]) (e_L_isClash_71 m n N xs hmn hN e x3 x4 x5 h) ⟨.inr rfl, .inr rfl, .inl rfl, .inr rfl, .inr rfl, .inr rfl, .inl rfl, .inl rfl, trivial⟩
set_option maxHeartbeats 4000000 in
set_option maxRecDepth 20000 in
theorem c_L_isClash {m n N : Nat} {xs : Nat → Int32} (hmn : m ≤ 10 ∧ n ≤ 4) (hN : (N : Int) ≤ 2147483647) {σ : M2} {x2 x3 x4 : Int} (hx2 : isQ m n x2) {q : (Int × M2)} (h : f_L_isClash m n N xs σ x2 x3 x4 = some q) : MsL (xsh m n) N xs yL_isClash (M_L_isClash N xs) false (181, nX m n) [(2, (0 : Int)), (3, (1 : Int)), (3, x2), (0, x3), (0, x4)] (lm m n σ) (some (0, q.1), lm m n q.2) := by
  refine MsL.of 3 (by decide +kernel) rfl rfl rfl rfl rfl ?_
  refine el_loose ?_
  unfold f_L_isClash at h
  show El (xsh m n) (M_L_isClash N xs) (false, false) (181, nX m n) (181, nX m n) _ 0 (lm m n σ) [(2, (0 : Int)), (3, (1 : Int)), (3, x2), (0, x3), (0, x4), (9, 0), (9, 0), (9, 0)] []
  refine el_aload_n dL_isClash_0 rfl (by decide) ?_
  refine el_iload_n dL_isClash_1 rfl ?_
  refine el_iload dL_isClash_2 rfl ?_
  refine el_bipush dL_isClash_4 (by decide) (by decide) ?_
  obtain ⟨v1, hc2, h⟩ := bind_of h
  refine el_invV (k := (0 : Int)) (av := [(0, x3), (0, x4), (0, (6 : Int))]) (st := []) (r2 := (some (0, v1.1), rho, v1.2)) dL_isClash_6 ml_L_58 mv_X10_plan (T := TX10) (ci := 9) rfl sp0 (by decide) (by decide) rfl ⟨Nat.le_of_ble_eq_true rfl, Nat.le_of_ble_eq_true rfl⟩ (Nat.le_of_ble_eq_true rfl) (c_X10_plan hc2) ⟨Nat.le_refl _, Nat.le_refl _⟩ ?_
  show El _ _ _ _ _ _ 9 (lm m n (v1.2, σ.2)) _ ((0, v1.1) :: [])
  refine el_istoreG dL_isClash_9 h rfl (Nat.le_of_ble_eq_true rfl) (fun v3 h => ?_)
  show El _ _ _ _ _ _ 11 _ [(2, (0 : Int)), (3, (1 : Int)), (3, x2), (0, x3), (0, x4), (0, v3), (9, 0), (9, 0)] _
  refine el_iconst dL_isClash_11 (by decide) ?_
  refine el_istore dL_isClash_12 rfl (Nat.le_of_ble_eq_true rfl) ?_
  show El _ _ _ _ _ _ 14 _ [(2, (0 : Int)), (3, (1 : Int)), (3, x2), (0, x3), (0, x4), (0, v3), (0, (1 : Int)), (9, 0)] _
  refine el_iconst dL_isClash_14 (by decide) ?_
  refine el_istore dL_isClash_15 rfl (Nat.le_of_ble_eq_true rfl) ?_
  show El _ _ _ _ _ _ 17 _ [(2, (0 : Int)), (3, (1 : Int)), (3, x2), (0, x3), (0, x4), (0, v3), (0, (1 : Int)), (0, (0 : Int))] _
  exact el_sub (L2 := [(2, (0 : Int)), (3, (1 : Int)), (3, x2), (0, x3), (0, x4), (0, v3), (9, 0), (0, (0 : Int))]) (e_L_isClash_17 m n N xs hmn hN (v1.2, σ.2) x2 x3 x4 v3 (0 : Int) hx2 h) ⟨.inr rfl, .inr rfl, .inr rfl, .inr rfl, .inr rfl, .inr rfl, .inl rfl, .inr rfl, trivial⟩
