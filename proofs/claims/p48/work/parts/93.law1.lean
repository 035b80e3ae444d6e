def K_L_tell_154 (m n N : Nat) (xs : Nat → Int32) (x2 x7 : Int) (r : Option V × LM) : (Int × Int × M2) ⊕ ((Int × M2)) → Prop := Sum.elim (fun a => El (xsh m n) (M_L_tell N xs) (false, false) (181, nX m n) (181, nX m n) r 154 (lm m n a.2.2) [(2, (0 : Int)), (3, (200000 : Int)), (0, x2), (9, 0), (3, (1 : Int)), (3, (2 + (m : Int))), (0, a.1), (0, x7), (0, a.2.1), (9, 0)] []) (fun e => El (xsh m n) (M_L_tell N xs) (false, false) (181, nX m n) (181, nX m n) r 259 (lm m n e.2) [(2, (0 : Int)), (3, (200000 : Int)), (0, x2), (9, 0), (3, (1 : Int)), (3, (2 + (m : Int))), (0, e.1), (0, x7), (9, 0), (9, 0)] [])
def K_L_tell_92 (m n N : Nat) (xs : Nat → Int32) (x2 : Int) (r : Option V × LM) : (Int × Int × M2) ⊕ ((Int × M2)) → Prop := Sum.elim (fun a => El (xsh m n) (M_L_tell N xs) (false, false) (181, nX m n) (181, nX m n) r 92 (lm m n a.2.2) [(2, (0 : Int)), (3, (200000 : Int)), (0, x2), (9, 0), (3, (1 : Int)), (3, (2 + (m : Int))), (0, a.1), (0, a.2.1), (9, 0), (9, 0)] []) (fun e => El (xsh m n) (M_L_tell N xs) (false, false) (181, nX m n) (181, nX m n) r 265 (lm m n e.2) [(9, 0), (9, 0), (9, 0), (9, 0), (9, 0), (9, 0), (0, e.1), (9, 0), (9, 0), (9, 0)] [])
def K_L_tell_33 (m n N : Nat) (xs : Nat → Int32) (x2 : Int) (r : Option V × LM) : (Int × Int × M2) ⊕ ((Int × M2)) → Prop := Sum.elim (fun a => El (xsh m n) (M_L_tell N xs) (false, false) (181, nX m n) (181, nX m n) r 33 (lm m n a.2.2) [(2, (0 : Int)), (3, (200000 : Int)), (0, x2), (9, 0), (3, (1 : Int)), (3, (2 + (m : Int))), (0, a.1), (0, a.2.1), (9, 0), (9, 0)] []) (fun e => El (xsh m n) (M_L_tell N xs) (false, false) (181, nX m n) (181, nX m n) r 89 (lm m n e.2) [(2, (0 : Int)), (3, (200000 : Int)), (0, x2), (9, 0), (3, (1 : Int)), (3, (2 + (m : Int))), (0, e.1), (9, 0), (9, 0), (9, 0)] [])
set_option maxHeartbeats 4000000 in
set_option maxRecDepth 20000 in
theorem e_L_tell_81 (m n N : Nat) (xs : Nat → Int32) (hmn : m ≤ 10 ∧ n ≤ 4) (hN : (N : Int) ≤ 2147483647) (σ : M2) (x2 x7 s0 : Int)  {q : ((Int × Int × M2) ⊕ ((Int × M2)))} (h : f_L_tell_81 m n N xs σ x2 x7 s0 = some q) {r : Option V × LM} (K : K_L_tell_33 m n N xs x2 r q) : El (xsh m n) (M_L_tell N xs) (false, false) (181, nX m n) (181, nX m n) r 81 (lm m n σ) [(2, (0 : Int)), (3, (200000 : Int)), (0, x2), (9, 0), (3, (1 : Int)), (3, (2 + (m : Int))), (9, 0), (0, x7), (9, 0), (9, 0)] [(0, s0)] := by
  unfold f_L_tell_81 at h
  refine el_istore dL_tell_81 rfl (Nat.le_of_ble_eq_true rfl) ?_
  show El _ _ _ _ _ _ 83 _ [(2, (0 : Int)), (3, (200000 : Int)), (0, x2), (9, 0), (3, (1 : Int)), (3, (2 + (m : Int))), (0, s0), (0, x7), (9, 0), (9, 0)] _
  refine el_iincG dL_tell_83 rfl h rfl (fun v10 h => ?_)
  show El _ _ _ _ _ _ 86 _ [(2, (0 : Int)), (3, (200000 : Int)), (0, x2), (9, 0), (3, (1 : Int)), (3, (2 + (m : Int))), (0, s0), (0, v10), (9, 0), (9, 0)] _
  refine el_goto (tgt := 33) dL_tell_86 rfl ?_
  obtain rfl := Option.some.inj h
  exact el_sub (L2 := [(2, (0 : Int)), (3, (200000 : Int)), (0, x2), (9, 0), (3, (1 : Int)), (3, (2 + (m : Int))), (0, s0), (0, v10), (9, 0), (9, 0)]) K ⟨.inr rfl, .inr rfl, .inr rfl, .inl rfl, .inr rfl, .inr rfl, .inr rfl, .inr rfl, .inl rfl, .inl rfl, trivial⟩
set_option maxHeartbeats 4000000 in
set_option maxRecDepth 20000 in
theorem e_L_tell_80 (m n N : Nat) (xs : Nat → Int32) (hmn : m ≤ 10 ∧ n ≤ 4) (hN : (N : Int) ≤ 2147483647) (σ : M2) (x2 x7 : Int)  {q : ((Int × Int × M2) ⊕ ((Int × M2)))} (h : f_L_tell_80 m n N xs σ x2 x7 = some q) {r : Option V × LM} (K : K_L_tell_33 m n N xs x2 r q) : El (xsh m n) (M_L_tell N xs) (false, false) (181, nX m n) (181, nX m n) r 80 (lm m n σ) [(2, (0 : Int)), (3, (200000 : Int)), (0, x2), (9, 0), (3, (1 : Int)), (3, (2 + (m : Int))), (9, 0), (0, x7), (9, 0), (9, 0)] [] := by
  unfold f_L_tell_80 at h
  refine el_iconst dL_tell_80 (by decide) ?_
  exact el_sub (L2 := [(2, (0 : Int)), (3, (200000 : Int)), (0, x2), (9, 0), (3, (1 : Int)), (3, (2 + (m : Int))), (9, 0), (0, x7), (9, 0), (9, 0)]) (e_L_tell_81 m n N xs hmn hN σ x2 x7 (0 : Int) h K) ⟨.inr rfl, .inr rfl, .inr rfl, .inl rfl, .inr rfl, .inr rfl, .inl rfl, .inr rfl, .inl rfl, .inl rfl, trivial⟩
set_option maxHeartbeats 4000000 in
set_option maxRecDepth 20000 in
theorem e_L_tell_253 (m n N : Nat) (xs : Nat → Int32) (hmn : m ≤ 10 ∧ n ≤ 4) (hN : (N : Int) ≤ 2147483647) (σ : M2) (x2 x6 x7 x8 : Int)  {q : ((Int × Int × M2) ⊕ ((Int × M2)))} (h : f_L_tell_253 m n N xs σ x2 x6 x7 x8 = some q) {r : Option V × LM} (K : K_L_tell_154 m n N xs x2 x7 r q) : El (xsh m n) (M_L_tell N xs) (false, false) (181, nX m n) (181, nX m n) r 253 (lm m n σ) [(2, (0 : Int)), (3, (200000 : Int)), (0, x2), (9, 0), (3, (1 : Int)), (3, (2 + (m : Int))), (0, x6), (0, x7), (0, x8), (9, 0)] [] := by
  unfold f_L_tell_253 at h
  refine el_iincG dL_tell_253 rfl h rfl (fun v24 h => ?_)
  show El _ _ _ _ _ _ 256 _ [(2, (0 : Int)), (3, (200000 : Int)), (0, x2), (9, 0), (3, (1 : Int)), (3, (2 + (m : Int))), (0, x6), (0, x7), (0, v24), (9, 0)] _
  refine el_goto (tgt := 154) dL_tell_256 rfl ?_
  obtain rfl := Option.some.inj h
  exact el_sub (L2 := [(2, (0 : Int)), (3, (200000 : Int)), (0, x2), (9, 0), (3, (1 : Int)), (3, (2 + (m : Int))), (0, x6), (0, x7), (0, v24), (9, 0)]) K ⟨.inr rfl, .inr rfl, .inr rfl, .inl rfl, .inr rfl, .inr rfl, .inr rfl, .inr rfl, .inr rfl, .inl rfl, trivial⟩
set_option maxHeartbeats 4000000 in
set_option maxRecDepth 20000 in
theorem e_L_tell_251 (m n N : Nat) (xs : Nat → Int32) (hmn : m ≤ 10 ∧ n ≤ 4) (hN : (N : Int) ≤ 2147483647) (σ : M2) (x2 x7 x8 s0 : Int)  {q : ((Int × Int × M2) ⊕ ((Int × M2)))} (h : f_L_tell_251 m n N xs σ x2 x7 x8 s0 = some q) {r : Option V × LM} (K : K_L_tell_154 m n N xs x2 x7 r q) : El (xsh m n) (M_L_tell N xs) (false, false) (181, nX m n) (181, nX m n) r 251 (lm m n σ) [(2, (0 : Int)), (3, (200000 : Int)), (0, x2), (9, 0), (3, (1 : Int)), (3, (2 + (m : Int))), (9, 0), (0, x7), (0, x8), (9, 0)] [(0, s0)] := by
  unfold f_L_tell_251 at h
  refine el_istore dL_tell_251 rfl (Nat.le_of_ble_eq_true rfl) ?_
  show El _ _ _ _ _ _ 253 _ [(2, (0 : Int)), (3, (200000 : Int)), (0, x2), (9, 0), (3, (1 : Int)), (3, (2 + (m : Int))), (0, s0), (0, x7), (0, x8), (9, 0)] _
  exact el_sub (L2 := [(2, (0 : Int)), (3, (200000 : Int)), (0, x2), (9, 0), (3, (1 : Int)), (3, (2 + (m : Int))), (0, s0), (0, x7), (0, x8), (9, 0)]) (e_L_tell_253 m n N xs hmn hN σ x2 s0 x7 x8 h K) ⟨.inr rfl, .inr rfl, .inr rfl, .inl rfl, .inr rfl, .inr rfl, .inr rfl, .inr rfl, .inr rfl, .inl rfl, trivial⟩
set_option maxHeartbeats 4000000 in
set_option maxRecDepth 20000 in
theorem e_L_tell_250 (m n N : Nat) (xs : Nat → Int32) (hmn : m ≤ 10 ∧ n ≤ 4) (hN : (N : Int) ≤ 2147483647) (σ : M2) (x2 x7 x8 : Int)  {q : ((Int × Int × M2) ⊕ ((Int × M2)))} (h : f_L_tell_250 m n N xs σ x2 x7 x8 = some q) {r : Option V × LM} (K : K_L_tell_154 m n N xs x2 x7 r q) : El (xsh m n) (M_L_tell N xs) (false, false) (181, nX m n) (181, nX m n) r 250 (lm m n σ) [(2, (0 : Int)), (3, (200000 : Int)), (0, x2), (9, 0), (3, (1 : Int)), (3, (2 + (m : Int))), (9, 0), (0, x7), (0, x8), (9, 0)] [] := by
  unfold f_L_tell_250 at h
  refine el_iconst dL_tell_250 (by decide) ?_
  exact el_sub (L2 := [(2, (0 : Int)), (3, (200000 : Int)), (0, x2), (9, 0), (3, (1 : Int)), (3, (2 + (m : Int))), (9, 0), (0, x7), (0, x8), (9, 0)]) (e_L_tell_251 m n N xs hmn hN σ x2 x7 x8 (0 : Int) h K) ⟨.inr rfl, .inr rfl, .inr rfl, .inl rfl, .inr rfl, .inr rfl, .inl rfl, .inr rfl, .inr rfl, .inl rfl, trivial⟩
set_option maxHeartbeats 4000000 in
set_option maxRecDepth 20000 in
theorem e_L_tell_243 (m n N : Nat) (xs : Nat → Int32) (hmn : m ≤ 10 ∧ n ≤ 4) (hN : (N : Int) ≤ 2147483647) (σ : M2) (x2 x7 x8 s1 s0 : Int)  {q : ((Int × Int × M2) ⊕ ((Int × M2)))} (h : f_L_tell_243 m n N xs σ x2 x7 x8 s1 s0 = some q) {r : Option V × LM} (K : K_L_tell_154 m n N xs x2 x7 r q) : El (xsh m n) (M_L_tell N xs) (false, false) (181, nX m n) (181, nX m n) r 243 (lm m n σ) [(2, (0 : Int)), (3, (200000 : Int)), (0, x2), (9, 0), (3, (1 : Int)), (3, (2 + (m : Int))), (9, 0), (0, x7), (0, x8), (9, 0)] [(0, s1), (0, s0)] := by
  unfold f_L_tell_243 at h
  refine el_icmp_ne (tgt := 250) dL_tell_243 rfl h (fun cb h => ?_) (fun cb h => ?_)
  · exact el_sub (L2 := [(2, (0 : Int)), (3, (200000 : Int)), (0, x2), (9, 0), (3, (1 : Int)), (3, (2 + (m : Int))), (9, 0), (0, x7), (0, x8), (9, 0)]) (e_L_tell_250 m n N xs hmn hN σ x2 x7 x8 h K) ⟨.inr rfl, .inr rfl, .inr rfl, .inl rfl, .inr rfl, .inr rfl, .inl rfl, .inr rfl, .inr rfl, .inl rfl, trivial⟩
  refine el_iconst dL_tell_246 (by decide) ?_
  refine el_goto (tgt := 251) dL_tell_247 rfl ?_
  exact el_sub (L2 := [(2, (0 : Int)), (3, (200000 : Int)), (0, x2), (9, 0), (3, (1 : Int)), (3, (2 + (m : Int))), (9, 0), (0, x7), (0, x8), (9, 0)]) (e_L_tell_251 m n N xs hmn hN σ x2 x7 x8 (1 : Int) h K) ⟨.inr rfl, .inr rfl, .inr rfl, .inl rfl, .inr rfl, .inr rfl, .inl rfl, .inr rfl, .inr rfl, .inl rfl, trivial⟩
set_option maxHeartbeats 4000000 in
set_option maxRecDepth 20000 in
theorem e_L_tell_216 (m n N : Nat) (xs : Nat → Int32) (hmn : m ≤ 10 ∧ n ≤ 4) (hN : (N : Int) ≤ 2147483647) (σ : M2) (x2 x6 x7 x8 x9 s3 s2 s1 s0 : Int) (hs0 : isQ m n s0) {q : ((Int × Int × M2) ⊕ ((Int × M2)))} (h : f_L_tell_216 m n N xs σ x2 x6 x7 x8 x9 s3 s2 s1 s0 = some q) {r : Option V × LM} (K : K_L_tell_154 m n N xs x2 x7 r q) : El (xsh m n) (M_L_tell N xs) (false, false) (181, nX m n) (181, nX m n) r 216 (lm m n σ) [(2, (0 : Int)), (3, (200000 : Int)), (0, x2), (9, 0), (3, (1 : Int)), (3, (2 + (m : Int))), (0, x6), (0, x7), (0, x8), (0, x9)] [(0, s3), (0, s2), (0, s1), (3, s0)] := by
  unfold f_L_tell_216 at h
  refine el_ior dL_tell_216 ?_
  refine el_xastG dL_tell_217 (xs_q hs0) (x0_q hs0) (xn_q hs0) h (fun σ25 h => ?_)
  refine el_iload dL_tell_218 rfl ?_
  refine el_if_eq (tgt := 250) dL_tell_220 rfl h (fun cb h => ?_) (fun cb h => ?_)
  · exact el_sub (L2 := [(2, (0 : Int)), (3, (200000 : Int)), (0, x2), (9, 0), (3, (1 : Int)), (3, (2 + (m : Int))), (9, 0), (0, x7), (0, x8), (9, 0)]) (e_L_tell_250 m n N xs hmn hN σ25 x2 x7 x8 h K) ⟨.inr rfl, .inr rfl, .inr rfl, .inl rfl, .inr rfl, .inr rfl, .inl rfl, .inr rfl, .inr rfl, .inl rfl, trivial⟩
  refine el_aload_n dL_tell_223 rfl (by decide) ?_
  refine el_iload dL_tell_224 rfl ?_
  refine el_iload dL_tell_226 rfl ?_
  refine el_iconst dL_tell_228 (by decide) ?_
  obtain ⟨v26, hc27, h⟩ := bind_of h
  refine el_invV (k := (0 : Int)) (av := [(0, x7), (0, x8), (0, (1 : Int))]) (st := []) (r2 := (some (0, v26.1), rho, v26.2)) dL_tell_229 ml_L_45 mv_X10_takes (T := TX10) (ci := 9) rfl sp0 (by decide) (by decide) rfl ⟨Nat.le_of_ble_eq_true rfl, Nat.le_of_ble_eq_true rfl⟩ (Nat.le_of_ble_eq_true rfl) (c_X10_takes hc27) ⟨Nat.le_refl _, Nat.le_refl _⟩ ?_
  show El _ _ _ _ _ _ 232 (lm m n (v26.2, σ25.2)) _ ((0, v26.1) :: [])
  refine el_iload dL_tell_232 rfl ?_
  refine el_if_eq (tgt := 242) dL_tell_234 rfl h (fun cb h => ?_) (fun cb h => ?_)
  · refine el_iconst dL_tell_242 (by decide) ?_
    exact el_sub (L2 := [(2, (0 : Int)), (3, (200000 : Int)), (0, x2), (9, 0), (3, (1 : Int)), (3, (2 + (m : Int))), (9, 0), (0, x7), (0, x8), (9, 0)]) (e_L_tell_243 m n N xs hmn hN (v26.2, σ25.2) x2 x7 x8 (0 : Int) v26.1 h K) ⟨.inr rfl, .inr rfl, .inr rfl, .inl rfl, .inr rfl, .inr rfl, .inl rfl, .inr rfl, .inr rfl, .inl rfl, trivial⟩
  refine el_bipush dL_tell_237 (by decide) (by decide) ?_
  refine el_goto (tgt := 243) dL_tell_239 rfl ?_
  exact el_sub (L2 := [(2, (0 : Int)), (3, (200000 : Int)), (0, x2), (9, 0), (3, (1 : Int)), (3, (2 + (m : Int))), (9, 0), (0, x7), (0, x8), (9, 0)]) (e_L_tell_243 m n N xs hmn hN (v26.2, σ25.2) x2 x7 x8 (-55 : Int) v26.1 h K) ⟨.inr rfl, .inr rfl, .inr rfl, .inl rfl, .inr rfl, .inr rfl, .inl rfl, .inr rfl, .inr rfl, .inl rfl, trivial⟩
set_option maxHeartbeats 4000000 in
set_option maxRecDepth 20000 in
theorem e_L_tell_259 (m n N : Nat) (xs : Nat → Int32) (hmn : m ≤ 10 ∧ n ≤ 4) (hN : (N : Int) ≤ 2147483647) (σ : M2) (x2 x6 x7 : Int)  {q : ((Int × Int × M2) ⊕ ((Int × M2)))} (h : f_L_tell_259 m n N xs σ x2 x6 x7 = some q) {r : Option V × LM} (K : K_L_tell_92 m n N xs x2 r q) : El (xsh m n) (M_L_tell N xs) (false, false) (181, nX m n) (181, nX m n) r 259 (lm m n σ) [(2, (0 : Int)), (3, (200000 : Int)), (0, x2), (9, 0), (3, (1 : Int)), (3, (2 + (m : Int))), (0, x6), (0, x7), (9, 0), (9, 0)] [] := by
  unfold f_L_tell_259 at h
  refine el_iincG dL_tell_259 rfl h rfl (fun v28 h => ?_)
  show El _ _ _ _ _ _ 262 _ [(2, (0 : Int)), (3, (200000 : Int)), (0, x2), (9, 0), (3, (1 : Int)), (3, (2 + (m : Int))), (0, x6), (0, v28), (9, 0), (9, 0)] _
  refine el_goto (tgt := 92) dL_tell_262 rfl ?_
  obtain rfl := Option.some.inj h
  exact el_sub (L2 := [(2, (0 : Int)), (3, (200000 : Int)), (0, x2), (9, 0), (3, (1 : Int)), (3, (2 + (m : Int))), (0, x6), (0, v28), (9, 0), (9, 0)]) K ⟨.inr rfl, .inr rfl, .inr rfl, .inl rfl, .inr rfl, .inr rfl, .inr rfl, .inr rfl, .inl rfl, .inl rfl, trivial⟩
set_option maxHeartbeats 4000000 in
set_option maxRecDepth 20000 in
theorem b_L_tell_154 (m n N : Nat) (xs : Nat → Int32) (hmn : m ≤ 10 ∧ n ≤ 4) (hN : (N : Int) ≤ 2147483647) (x2 x7 : Int)  {r : Option V × LM} : ∀ a x, f_L_tell_154B m n N xs x2 x7 a = some x → K_L_tell_154 m n N xs x2 x7 r x → K_L_tell_154 m n N xs x2 x7 r (.inl a) := by
  intro a x h K
  obtain ⟨x6, x8, σ⟩ := a
  have h : f_L_tell_154C m n N xs x2 x7 x6 x8 σ = some x := h
  unfold f_L_tell_154C at h
  show El (xsh m n) (M_L_tell N xs) (false, false) (181, nX m n) (181, nX m n) r 154 (lm m n σ) [(2, (0 : Int)), (3, (200000 : Int)), (0, x2), (9, 0), (3, (1 : Int)), (3, (2 + (m : Int))), (0, x6), (0, x7), (0, x8), (9, 0)] []
  refine el_iload dL_tell_154 rfl ?_
  refine el_aloadS2 dL_tell_156 rfl ?_
  refine el_xlen (N := m) (d := 3) dL_tell_158 xs_P (by decide) (by omega) x0_P xn_P ?_
  refine el_icmp_ge (tgt := 259) dL_tell_159 rfl h (fun cb h => ?_) (fun cb h => ?_)
  · obtain rfl := Option.some.inj h
    exact el_sub (L2 := [(2, (0 : Int)), (3, (200000 : Int)), (0, x2), (9, 0), (3, (1 : Int)), (3, (2 + (m : Int))), (0, x6), (0, x7), (9, 0), (9, 0)]) K ⟨.inr rfl, .inr rfl, .inr rfl, .inl rfl, .inr rfl, .inr rfl, .inr rfl, .inr rfl, .inl rfl, .inl rfl, trivial⟩
  refine el_aloadS dL_tell_162 rfl ?_
  refine el_iload_n dL_tell_163 rfl ?_
  refine el_bipush dL_tell_164 (by decide) (by decide) ?_
  refine el_iload dL_tell_166 rfl ?_
  refine el_imul dL_tell_168 ?_
  refine el_iadd dL_tell_169 ?_
  refine el_iload dL_tell_170 rfl ?_
  refine el_iadd dL_tell_172 ?_
  refine el_iconst dL_tell_173 (by decide) ?_
  obtain ⟨v18, hc19, h⟩ := bind_of h
  refine el_call (av := [(3, (200000 : Int)), (0, (jadd (jadd x2 (jmul (12 : Int) x7)) x8)), (0, (5 : Int))]) (st := []) (z2 := (181, nX m n)) (r2 := (some (0, v18), lm m n σ)) dL_tell_174 rfl ml_L_17 mt_L_pick rfl ⟨Nat.le_of_ble_eq_true rfl, Nat.le_of_ble_eq_true rfl⟩ (Nat.le_of_ble_eq_true rfl) (c_L_pick hN  hc19) ⟨Nat.le_refl _, Nat.le_refl _, Nat.le_refl _, Nat.le_refl _⟩ ⟨rfl, rfl⟩ (Or.inl rfl) (fun z => by cases z) ?_
  show El _ _ _ _ _ _ 177 (lm m n σ) _ ((0, v18) :: [])
  refine el_iconst dL_tell_177 (by decide) ?_
  show El _ _ _ _ _ _ 178 _ _ _
  refine el_icmp_ge (tgt := 253) dL_tell_178 rfl h (fun cb h => ?_) (fun cb h => ?_)
  · exact el_sub (L2 := [(2, (0 : Int)), (3, (200000 : Int)), (0, x2), (9, 0), (3, (1 : Int)), (3, (2 + (m : Int))), (0, x6), (0, x7), (0, x8), (9, 0)]) (e_L_tell_253 m n N xs hmn hN σ x2 x6 x7 x8 h K) ⟨.inr rfl, .inr rfl, .inr rfl, .inl rfl, .inr rfl, .inr rfl, .inr rfl, .inr rfl, .inr rfl, .inl rfl, trivial⟩
  refine el_aloadS2 dL_tell_181 rfl ?_
  refine el_aloadS2 dL_tell_183 rfl ?_
  refine el_iload dL_tell_185 rfl ?_
  have hw20 := (chk_of h).1
  refine el_xaald (v := (3 + (m : Int) + x7)) dL_tell_187 xs_Q x0_Q xn_Q h eta_Q (fun h => ?_)
  refine el_iload dL_tell_188 rfl ?_
  obtain ⟨v21, hc22, h⟩ := bind_of h
  refine el_call (av := [(3, (1 : Int)), (3, (3 + (m : Int) + x7)), (0, x8)]) (st := []) (z2 := (181, nX m n)) (r2 := (some (0, v21), lm m n σ)) dL_tell_190 rfl ml_L_41 mt_L_isFifth rfl ⟨Nat.le_of_ble_eq_true rfl, Nat.le_of_ble_eq_true rfl⟩ (Nat.le_of_ble_eq_true rfl) (c_L_isFifth hmn hN (isQ_at hw20) hc22) ⟨Nat.le_refl _, Nat.le_refl _, Nat.le_refl _, Nat.le_refl _⟩ ⟨rfl, rfl⟩ (Or.inl rfl) (fun z => by cases z) ?_
  show El _ _ _ _ _ _ 193 (lm m n σ) _ ((0, v21) :: [])
  refine el_istore dL_tell_193 rfl (Nat.le_of_ble_eq_true rfl) ?_
  show El _ _ _ _ _ _ 195 _ [(2, (0 : Int)), (3, (200000 : Int)), (0, x2), (9, 0), (3, (1 : Int)), (3, (2 + (m : Int))), (0, x6), (0, x7), (0, x8), (0, v21)] _
  refine el_aloadS2 dL_tell_195 rfl ?_
  refine el_iload dL_tell_197 rfl ?_
  have hw23 := (chk_of h).1
  refine el_xaald (v := (3 + (m : Int) + x7)) dL_tell_199 xs_Q x0_Q xn_Q h eta_Q (fun h => ?_)
  refine el_iconst dL_tell_200 (by decide) ?_
  show El _ _ _ _ _ _ 201 _ _ _
  refine el_dup2 dL_tell_201 (show (0 : Nat) ≠ 1 by decide) (show (3 : Nat) ≠ 1 by decide) ?_
  refine el_xald dL_tell_202 (xs_q (isQ_at hw23)) (x0_q (isQ_at hw23)) (xn_q (isQ_at hw23)) h (fun h => ?_)
  refine el_iload dL_tell_203 rfl ?_
  refine el_if_eq (tgt := 212) dL_tell_205 rfl h (fun cb h => ?_) (fun cb h => ?_)
  · refine el_iconst dL_tell_212 (by decide) ?_
    refine el_iload dL_tell_213 rfl ?_
    refine el_ishl dL_tell_215 ?_
    exact el_sub (L2 := [(2, (0 : Int)), (3, (200000 : Int)), (0, x2), (9, 0), (3, (1 : Int)), (3, (2 + (m : Int))), (0, x6), (0, x7), (0, x8), (0, v21)]) (e_L_tell_216 m n N xs hmn hN σ x2 x6 x7 x8 v21 (jshl (1 : Int) x8) (σ.2 (3 + (m : Int) + x7) (3 : Int)) (3 : Int) (3 + (m : Int) + x7) (isQ_at hw23) h K) ⟨.inr rfl, .inr rfl, .inr rfl, .inl rfl, .inr rfl, .inr rfl, .inr rfl, .inr rfl, .inr rfl, .inr rfl, trivial⟩
  refine el_iconst dL_tell_208 (by decide) ?_
  refine el_goto (tgt := 216) dL_tell_209 rfl ?_
  exact el_sub (L2 := [(2, (0 : Int)), (3, (200000 : Int)), (0, x2), (9, 0), (3, (1 : Int)), (3, (2 + (m : Int))), (0, x6), (0, x7), (0, x8), (0, v21)]) (e_L_tell_216 m n N xs hmn hN σ x2 x6 x7 x8 v21 (0 : Int) (σ.2 (3 + (m : Int) + x7) (3 : Int)) (3 : Int) (3 + (m : Int) + x7) (isQ_at hw23) h K) ⟨.inr rfl, .inr rfl, .inr rfl, .inl rfl, .inr rfl, .inr rfl, .inr rfl, .inr rfl, .inr rfl, .inr rfl, trivial⟩
set_option maxHeartbeats 4000000 in
set_option maxRecDepth 20000 in
theorem e_L_tell_154 (m n N : Nat) (xs : Nat → Int32) (hmn : m ≤ 10 ∧ n ≤ 4) (hN : (N : Int) ≤ 2147483647) (σ : M2) (x2 x6 x7 x8 : Int)  {q : ((Int × Int × M2) ⊕ ((Int × M2)))} (h : f_L_tell_154 m n N xs σ x2 x6 x7 x8 = some q) {r : Option V × LM} (K : K_L_tell_92 m n N xs x2 r q) : El (xsh m n) (M_L_tell N xs) (false, false) (181, nX m n) (181, nX m n) r 154 (lm m n σ) [(2, (0 : Int)), (3, (200000 : Int)), (0, x2), (9, 0), (3, (1 : Int)), (3, (2 + (m : Int))), (0, x6), (0, x7), (0, x8), (9, 0)] [] := by
  unfold f_L_tell_154 at h
  obtain ⟨e, hl, h⟩ := bind_of h
  refine loop_ev (K := K_L_tell_154 m n N xs x2 x7 r) (b_L_tell_154 m n N xs hmn hN x2 x7) FU (x6, x8, σ) e hl ?_
  show El (xsh m n) (M_L_tell N xs) (false, false) (181, nX m n) (181, nX m n) r 259 (lm m n e.2) [(2, (0 : Int)), (3, (200000 : Int)), (0, x2), (9, 0), (3, (1 : Int)), (3, (2 + (m : Int))), (0, e.1), (0, x7), (9, 0), (9, 0)] []
  replace h : f_L_tell_259 m n N xs e.2 x2 e.1 x7 = some q := h
  exact el_sub (L2 := [(2, (0 : Int)), (3, (200000 : Int)), (0, x2), (9, 0), (3, (1 : Int)), (3, (2 + (m : Int))), (0, e.1), (0, x7), (9, 0), (9, 0)]) (e_L_tell_259 m n N xs hmn hN e.2 x2 e.1 x7 h K) ⟨.inr rfl, .inr rfl, .inr rfl, .inl rfl, .inr rfl, .inr rfl, .inr rfl, .inr rfl, .inl rfl, .inl rfl, trivial⟩
set_option maxHeartbeats 4000000 in
set_option maxRecDepth 20000 in
theorem e_L_tell_149 (m n N : Nat) (xs : Nat → Int32) (hmn : m ≤ 10 ∧ n ≤ 4) (hN : (N : Int) ≤ 2147483647) (σ : M2) (x2 x7 s0 : Int)  {q : ((Int × Int × M2) ⊕ ((Int × M2)))} (h : f_L_tell_149 m n N xs σ x2 x7 s0 = some q) {r : Option V × LM} (K : K_L_tell_92 m n N xs x2 r q) : El (xsh m n) (M_L_tell N xs) (false, false) (181, nX m n) (181, nX m n) r 149 (lm m n σ) [(2, (0 : Int)), (3, (200000 : Int)), (0, x2), (9, 0), (3, (1 : Int)), (3, (2 + (m : Int))), (9, 0), (0, x7), (9, 0), (9, 0)] [(0, s0)] := by
  unfold f_L_tell_149 at h
  refine el_istore dL_tell_149 rfl (Nat.le_of_ble_eq_true rfl) ?_
  show El _ _ _ _ _ _ 151 _ [(2, (0 : Int)), (3, (200000 : Int)), (0, x2), (9, 0), (3, (1 : Int)), (3, (2 + (m : Int))), (0, s0), (0, x7), (9, 0), (9, 0)] _
  refine el_iconst dL_tell_151 (by decide) ?_
  refine el_istore dL_tell_152 rfl (Nat.le_of_ble_eq_true rfl) ?_
  show El _ _ _ _ _ _ 154 _ [(2, (0 : Int)), (3, (200000 : Int)), (0, x2), (9, 0), (3, (1 : Int)), (3, (2 + (m : Int))), (0, s0), (0, x7), (0, (0 : Int)), (9, 0)] _
  exact el_sub (L2 := [(2, (0 : Int)), (3, (200000 : Int)), (0, x2), (9, 0), (3, (1 : Int)), (3, (2 + (m : Int))), (0, s0), (0, x7), (0, (0 : Int)), (9, 0)]) (e_L_tell_154 m n N xs hmn hN σ x2 s0 x7 (0 : Int) h K) ⟨.inr rfl, .inr rfl, .inr rfl, .inl rfl, .inr rfl, .inr rfl, .inr rfl, .inr rfl, .inr rfl, .inl rfl, trivial⟩
set_option maxHeartbeats 4000000 in
set_option maxRecDepth 20000 in
theorem e_L_tell_148 (m n N : Nat) (xs : Nat → Int32) (hmn : m ≤ 10 ∧ n ≤ 4) (hN : (N : Int) ≤ 2147483647) (σ : M2) (x2 x7 : Int)  {q : ((Int × Int × M2) ⊕ ((Int × M2)))} (h : f_L_tell_148 m n N xs σ x2 x7 = some q) {r : Option V × LM} (K : K_L_tell_92 m n N xs x2 r q) : El (xsh m n) (M_L_tell N xs) (false, false) (181, nX m n) (181, nX m n) r 148 (lm m n σ) [(2, (0 : Int)), (3, (200000 : Int)), (0, x2), (9, 0), (3, (1 : Int)), (3, (2 + (m : Int))), (9, 0), (0, x7), (9, 0), (9, 0)] [] := by
  unfold f_L_tell_148 at h
  refine el_iconst dL_tell_148 (by decide) ?_
  exact el_sub (L2 := [(2, (0 : Int)), (3, (200000 : Int)), (0, x2), (9, 0), (3, (1 : Int)), (3, (2 + (m : Int))), (9, 0), (0, x7), (9, 0), (9, 0)]) (e_L_tell_149 m n N xs hmn hN σ x2 x7 (0 : Int) h K) ⟨.inr rfl, .inr rfl, .inr rfl, .inl rfl, .inr rfl, .inr rfl, .inl rfl, .inr rfl, .inl rfl, .inl rfl, trivial⟩
set_option maxHeartbeats 4000000 in
set_option maxRecDepth 20000 in
theorem b_L_tell_92 (m n N : Nat) (xs : Nat → Int32) (hmn : m ≤ 10 ∧ n ≤ 4) (hN : (N : Int) ≤ 2147483647) (x2 : Int)  {r : Option V × LM} : ∀ a x, f_L_tell_92B m n N xs x2 a = some x → K_L_tell_92 m n N xs x2 r x → K_L_tell_92 m n N xs x2 r (.inl a) := by
  intro a x h K
  obtain ⟨x6, x7, σ⟩ := a
  have h : f_L_tell_92C m n N xs x2 x6 x7 σ = some x := h
  unfold f_L_tell_92C at h
  show El (xsh m n) (M_L_tell N xs) (false, false) (181, nX m n) (181, nX m n) r 92 (lm m n σ) [(2, (0 : Int)), (3, (200000 : Int)), (0, x2), (9, 0), (3, (1 : Int)), (3, (2 + (m : Int))), (0, x6), (0, x7), (9, 0), (9, 0)] []
  refine el_iload dL_tell_92 rfl ?_
  refine el_aloadS2 dL_tell_94 rfl ?_
  refine el_xlen (N := n) (d := 3) dL_tell_96 xs_Q (by decide) (by omega) x0_Q xn_Q ?_
  refine el_icmp_ge (tgt := 265) dL_tell_97 rfl h (fun cb h => ?_) (fun cb h => ?_)
  · obtain rfl := Option.some.inj h
    exact el_sub (L2 := [(9, 0), (9, 0), (9, 0), (9, 0), (9, 0), (9, 0), (0, x6), (9, 0), (9, 0), (9, 0)]) K ⟨.inl rfl, .inl rfl, .inl rfl, .inl rfl, .inl rfl, .inl rfl, .inr rfl, .inl rfl, .inl rfl, .inl rfl, trivial⟩
  refine el_iload dL_tell_100 rfl ?_
  refine el_if_eq (tgt := 148) dL_tell_102 rfl h (fun cb h => ?_) (fun cb h => ?_)
  · exact el_sub (L2 := [(2, (0 : Int)), (3, (200000 : Int)), (0, x2), (9, 0), (3, (1 : Int)), (3, (2 + (m : Int))), (9, 0), (0, x7), (9, 0), (9, 0)]) (e_L_tell_148 m n N xs hmn hN σ x2 x7 h K) ⟨.inr rfl, .inr rfl, .inr rfl, .inl rfl, .inr rfl, .inr rfl, .inl rfl, .inr rfl, .inl rfl, .inl rfl, trivial⟩
  refine el_aload_n dL_tell_105 rfl (by decide) ?_
  refine el_aloadS2 dL_tell_106 rfl ?_
  refine el_iload dL_tell_108 rfl ?_
  have hw11 := (chk_of h).1
  refine el_xaald (v := (3 + (m : Int) + x7)) dL_tell_110 xs_Q x0_Q xn_Q h eta_Q (fun h => ?_)
  refine el_iconst dL_tell_111 (by decide) ?_
  refine el_xald dL_tell_112 (xs_q (isQ_at hw11)) (x0_q (isQ_at hw11)) (xn_q (isQ_at hw11)) h (fun h => ?_)
  refine el_aloadS2 dL_tell_113 rfl ?_
  refine el_iload dL_tell_115 rfl ?_
  have hw12 := (chk_of h).1
  refine el_xaald (v := (3 + (m : Int) + x7)) dL_tell_117 xs_Q x0_Q xn_Q h eta_Q (fun h => ?_)
  refine el_iconst dL_tell_118 (by decide) ?_
  refine el_xald dL_tell_119 (xs_q (isQ_at hw12)) (x0_q (isQ_at hw12)) (xn_q (isQ_at hw12)) h (fun h => ?_)
  show El _ _ _ _ _ _ 120 _ _ _
  obtain ⟨v13, hc14, h⟩ := bind_of h
  refine el_invV (k := (0 : Int)) (av := [(0, (σ.2 (3 + (m : Int) + x7) (0 : Int))), (0, (σ.2 (3 + (m : Int) + x7) (1 : Int)))]) (st := []) (r2 := (some (0, v13.1), rho, v13.2)) dL_tell_120 ml_L_34 mv_X10_cand (T := TX10) (ci := 9) rfl sp0 (by decide) (by decide) rfl ⟨Nat.le_of_ble_eq_true rfl, Nat.le_of_ble_eq_true rfl⟩ (Nat.le_of_ble_eq_true rfl) (c_X10_cand hc14) ⟨Nat.le_refl _, Nat.le_refl _⟩ ?_
  show El _ _ _ _ _ _ 123 (lm m n (v13.2, σ.2)) _ ((0, v13.1) :: [])
  refine el_iload dL_tell_123 rfl ?_
  refine el_icmp_ne (tgt := 148) dL_tell_125 rfl h (fun cb h => ?_) (fun cb h => ?_)
  · exact el_sub (L2 := [(2, (0 : Int)), (3, (200000 : Int)), (0, x2), (9, 0), (3, (1 : Int)), (3, (2 + (m : Int))), (9, 0), (0, x7), (9, 0), (9, 0)]) (e_L_tell_148 m n N xs hmn hN (v13.2, σ.2) x2 x7 h K) ⟨.inr rfl, .inr rfl, .inr rfl, .inl rfl, .inr rfl, .inr rfl, .inl rfl, .inr rfl, .inl rfl, .inl rfl, trivial⟩
  refine el_aload_n dL_tell_128 rfl (by decide) ?_
  refine el_iload dL_tell_129 rfl ?_
  refine el_aloadS2 dL_tell_131 rfl ?_
  refine el_iload dL_tell_133 rfl ?_
  have hw15 := (chk_of h).1
  refine el_xaald (v := (3 + (m : Int) + x7)) dL_tell_135 xs_Q x0_Q xn_Q h eta_Q (fun h => ?_)
  refine el_iconst dL_tell_136 (by decide) ?_
  refine el_xald dL_tell_137 (xs_q (isQ_at hw15)) (x0_q (isQ_at hw15)) (xn_q (isQ_at hw15)) h (fun h => ?_)
  obtain ⟨v16, hc17, h⟩ := bind_of h
  refine el_invV (k := (0 : Int)) (av := [(0, x7), (0, ((v13.2, σ.2).2 (3 + (m : Int) + x7) (2 : Int)))]) (st := []) (r2 := (some (0, v16.1), rho, v16.2)) dL_tell_138 ml_L_38 mv_X10_night (T := TX10) (ci := 9) rfl sp0 (by decide) (by decide) rfl ⟨Nat.le_of_ble_eq_true rfl, Nat.le_of_ble_eq_true rfl⟩ (Nat.le_of_ble_eq_true rfl) (c_X10_night hc17) ⟨Nat.le_refl _, Nat.le_refl _⟩ ?_
  show El _ _ _ _ _ _ 141 (lm m n (v16.2, (v13.2, σ.2).2)) _ ((0, v16.1) :: [])
  refine el_if_ne (tgt := 148) dL_tell_141 rfl h (fun cb h => ?_) (fun cb h => ?_)
  · exact el_sub (L2 := [(2, (0 : Int)), (3, (200000 : Int)), (0, x2), (9, 0), (3, (1 : Int)), (3, (2 + (m : Int))), (9, 0), (0, x7), (9, 0), (9, 0)]) (e_L_tell_148 m n N xs hmn hN (v16.2, (v13.2, σ.2).2) x2 x7 h K) ⟨.inr rfl, .inr rfl, .inr rfl, .inl rfl, .inr rfl, .inr rfl, .inl rfl, .inr rfl, .inl rfl, .inl rfl, trivial⟩
  refine el_iconst dL_tell_144 (by decide) ?_
  refine el_goto (tgt := 149) dL_tell_145 rfl ?_
  exact el_sub (L2 := [(2, (0 : Int)), (3, (200000 : Int)), (0, x2), (9, 0), (3, (1 : Int)), (3, (2 + (m : Int))), (9, 0), (0, x7), (9, 0), (9, 0)]) (e_L_tell_149 m n N xs hmn hN (v16.2, (v13.2, σ.2).2) x2 x7 (1 : Int) h K) ⟨.inr rfl, .inr rfl, .inr rfl, .inl rfl, .inr rfl, .inr rfl, .inl rfl, .inr rfl, .inl rfl, .inl rfl, trivial⟩
set_option maxHeartbeats 4000000 in
set_option maxRecDepth 20000 in
theorem e_L_tell_92 (m n N : Nat) (xs : Nat → Int32) (hmn : m ≤ 10 ∧ n ≤ 4) (hN : (N : Int) ≤ 2147483647) (σ : M2) (x2 x6 x7 : Int)  {q : (Int × M2)} (h : f_L_tell_92 m n N xs σ x2 x6 x7 = some q) : El (xsh m n) (M_L_tell N xs) (false, false) (181, nX m n) (181, nX m n) (some (0, q.1), lm m n q.2) 92 (lm m n σ) [(2, (0 : Int)), (3, (200000 : Int)), (0, x2), (9, 0), (3, (1 : Int)), (3, (2 + (m : Int))), (0, x6), (0, x7), (9, 0), (9, 0)] [] := by
  unfold f_L_tell_92 at h
  obtain ⟨e, hl, h⟩ := bind_of h
  refine loop_ev (K := K_L_tell_92 m n N xs x2 (some (0, q.1), lm m n q.2)) (b_L_tell_92 m n N xs hmn hN x2) FU (x6, x7, σ) e hl ?_
  show El (xsh m n) (M_L_tell N xs) (false, false) (181, nX m n) (181, nX m n) _ 265 (lm m n e.2) [(9, 0), (9, 0), (9, 0), (9, 0), (9, 0), (9, 0), (0, e.1), (9, 0), (9, 0), (9, 0)] []
  replace h : chk (e.1 = 0 ∨ e.1 = 1) (some (e.1, e.2)) = some q := h
  refine el_iload dL_tell_265 rfl ?_
  obtain ⟨hz, h⟩ := chk_of h
  obtain rfl := Option.some.inj h
  exact el_zret dL_tell_267 rfl (fun z => by cases z) ⟨rfl, rfl⟩ (chk_pos hz)
set_option maxHeartbeats 4000000 in
set_option maxRecDepth 20000 in
theorem e_L_tell_89 (m n N : Nat) (xs : Nat → Int32) (hmn : m ≤ 10 ∧ n ≤ 4) (hN : (N : Int) ≤ 2147483647) (σ : M2) (x2 x6 : Int)  {q : (Int × M2)} (h : f_L_tell_89 m n N xs σ x2 x6 = some q) : El (xsh m n) (M_L_tell N xs) (false, false) (181, nX m n) (181, nX m n) (some (0, q.1), lm m n q.2) 89 (lm m n σ) [(2, (0 : Int)), (3, (200000 : Int)), (0, x2), (9, 0), (3, (1 : Int)), (3, (2 + (m : Int))), (0, x6), (9, 0), (9, 0), (9, 0)] [] := by
  unfold f_L_tell_89 at h
  refine el_iconst dL_tell_89 (by decide) ?_
  refine el_istore dL_tell_90 rfl (Nat.le_of_ble_eq_true rfl) ?_
  show El _ _ _ _ _ _ 92 _ [(2, (0 : Int)), (3, (200000 : Int)), (0, x2), (9, 0), (3, (1 : Int)), (3, (2 + (m : Int))), (0, x6), (0, (0 : Int)), (9, 0), (9, 0)] _
  exact el_sub (L2 := [(2, (0 : Int)), (3, (200000 : Int)), (0, x2), (9, 0), (3, (1 : Int)), (3, (2 + (m : Int))), (0, x6), (0, (0 : Int)), (9, 0), (9, 0)]) (e_L_tell_92 m n N xs hmn hN σ x2 x6 (0 : Int) h) ⟨.inr rfl, .inr rfl, .inr rfl, .inl rfl, .inr rfl, .inr rfl, .inr rfl, .inr rfl, .inl rfl, .inl rfl, trivial⟩
set_option maxHeartbeats 4000000 in
set_option maxRecDepth 20000 in
theorem b_L_tell_33 (m n N : Nat) (xs : Nat → Int32) (hmn : m ≤ 10 ∧ n ≤ 4) (hN : (N : Int) ≤ 2147483647) (x2 : Int)  {r : Option V × LM} : ∀ a x, f_L_tell_33B m n N xs x2 a = some x → K_L_tell_33 m n N xs x2 r x → K_L_tell_33 m n N xs x2 r (.inl a) := by
  intro a x h K
  obtain ⟨x6, x7, σ⟩ := a
  have h : f_L_tell_33C m n N xs x2 x6 x7 σ = some x := h
  unfold f_L_tell_33C at h
  show El (xsh m n) (M_L_tell N xs) (false, false) (181, nX m n) (181, nX m n) r 33 (lm m n σ) [(2, (0 : Int)), (3, (200000 : Int)), (0, x2), (9, 0), (3, (1 : Int)), (3, (2 + (m : Int))), (0, x6), (0, x7), (9, 0), (9, 0)] []
  refine el_iload dL_tell_33 rfl ?_
  refine el_aloadS2 dL_tell_35 rfl ?_
  refine el_xlen (N := m) (d := 3) dL_tell_37 xs_P (by decide) (by omega) x0_P xn_P ?_
  refine el_icmp_ge (tgt := 89) dL_tell_38 rfl h (fun cb h => ?_) (fun cb h => ?_)
  · obtain rfl := Option.some.inj h
    exact el_sub (L2 := [(2, (0 : Int)), (3, (200000 : Int)), (0, x2), (9, 0), (3, (1 : Int)), (3, (2 + (m : Int))), (0, x6), (9, 0), (9, 0), (9, 0)]) K ⟨.inr rfl, .inr rfl, .inr rfl, .inl rfl, .inr rfl, .inr rfl, .inr rfl, .inl rfl, .inl rfl, .inl rfl, trivial⟩
  refine el_iload dL_tell_41 rfl ?_
  refine el_if_eq (tgt := 80) dL_tell_43 rfl h (fun cb h => ?_) (fun cb h => ?_)
  · exact el_sub (L2 := [(2, (0 : Int)), (3, (200000 : Int)), (0, x2), (9, 0), (3, (1 : Int)), (3, (2 + (m : Int))), (9, 0), (0, x7), (9, 0), (9, 0)]) (e_L_tell_80 m n N xs hmn hN σ x2 x7 h K) ⟨.inr rfl, .inr rfl, .inr rfl, .inl rfl, .inr rfl, .inr rfl, .inl rfl, .inr rfl, .inl rfl, .inl rfl, trivial⟩
  refine el_aload_n dL_tell_46 rfl (by decide) ?_
  refine el_aloadS2 dL_tell_47 rfl ?_
  refine el_iload dL_tell_49 rfl ?_
  have hw5 := (chk_of h).1
  refine el_xaald (v := (2 + x7)) dL_tell_51 xs_P x0_P xn_P h eta_P (fun h => ?_)
  refine el_iconst dL_tell_52 (by decide) ?_
  refine el_xald dL_tell_53 (xs_p (isPp_at (n := n) hw5)) (x0_p (isPp_at (n := n) hw5)) (xn_p (isPp_at (n := n) hw5)) h (fun h => ?_)
  refine el_aloadS2 dL_tell_54 rfl ?_
  refine el_iload dL_tell_56 rfl ?_
  have hw6 := (chk_of h).1
  refine el_xaald (v := (2 + x7)) dL_tell_58 xs_P x0_P xn_P h eta_P (fun h => ?_)
  refine el_iconst dL_tell_59 (by decide) ?_
  refine el_xald dL_tell_60 (xs_p (isPp_at (n := n) hw6)) (x0_p (isPp_at (n := n) hw6)) (xn_p (isPp_at (n := n) hw6)) h (fun h => ?_)
  show El _ _ _ _ _ _ 61 _ _ _
  refine el_aloadS2 dL_tell_61 rfl ?_
  refine el_iload dL_tell_63 rfl ?_
  have hw7 := (chk_of h).1
  refine el_xaald (v := (2 + x7)) dL_tell_65 xs_P x0_P xn_P h eta_P (fun h => ?_)
  refine el_iconst dL_tell_66 (by decide) ?_
  refine el_xald dL_tell_67 (xs_p (isPp_at (n := n) hw7)) (x0_p (isPp_at (n := n) hw7)) (xn_p (isPp_at (n := n) hw7)) h (fun h => ?_)
  obtain ⟨v8, hc9, h⟩ := bind_of h
  refine el_invV (k := (0 : Int)) (av := [(0, (σ.2 (2 + x7) (0 : Int))), (0, (σ.2 (2 + x7) (1 : Int))), (0, (σ.2 (2 + x7) (2 : Int)))]) (st := []) (r2 := (some (0, v8.1), rho, v8.2)) dL_tell_68 ml_L_30 mv_X10_paper (T := TX10) (ci := 9) rfl sp0 (by decide) (by decide) rfl ⟨Nat.le_of_ble_eq_true rfl, Nat.le_of_ble_eq_true rfl⟩ (Nat.le_of_ble_eq_true rfl) (c_X10_paper hc9) ⟨Nat.le_refl _, Nat.le_refl _⟩ ?_
  show El _ _ _ _ _ _ 71 (lm m n (v8.2, σ.2)) _ ((0, v8.1) :: [])
  refine el_iload dL_tell_71 rfl ?_
  refine el_icmp_ne (tgt := 80) dL_tell_73 rfl h (fun cb h => ?_) (fun cb h => ?_)
  · exact el_sub (L2 := [(2, (0 : Int)), (3, (200000 : Int)), (0, x2), (9, 0), (3, (1 : Int)), (3, (2 + (m : Int))), (9, 0), (0, x7), (9, 0), (9, 0)]) (e_L_tell_80 m n N xs hmn hN (v8.2, σ.2) x2 x7 h K) ⟨.inr rfl, .inr rfl, .inr rfl, .inl rfl, .inr rfl, .inr rfl, .inl rfl, .inr rfl, .inl rfl, .inl rfl, trivial⟩
  refine el_iconst dL_tell_76 (by decide) ?_
  refine el_goto (tgt := 81) dL_tell_77 rfl ?_
  exact el_sub (L2 := [(2, (0 : Int)), (3, (200000 : Int)), (0, x2), (9, 0), (3, (1 : Int)), (3, (2 + (m : Int))), (9, 0), (0, x7), (9, 0), (9, 0)]) (e_L_tell_81 m n N xs hmn hN (v8.2, σ.2) x2 x7 (1 : Int) h K) ⟨.inr rfl, .inr rfl, .inr rfl, .inl rfl, .inr rfl, .inr rfl, .inl rfl, .inr rfl, .inl rfl, .inl rfl, trivial⟩
set_option maxHeartbeats 4000000 in
set_option maxRecDepth 20000 in
theorem e_L_tell_33 (m n N : Nat) (xs : Nat → Int32) (hmn : m ≤ 10 ∧ n ≤ 4) (hN : (N : Int) ≤ 2147483647) (σ : M2) (x2 x6 x7 : Int)  {q : (Int × M2)} (h : f_L_tell_33 m n N xs σ x2 x6 x7 = some q) : El (xsh m n) (M_L_tell N xs) (false, false) (181, nX m n) (181, nX m n) (some (0, q.1), lm m n q.2) 33 (lm m n σ) [(2, (0 : Int)), (3, (200000 : Int)), (0, x2), (9, 0), (3, (1 : Int)), (3, (2 + (m : Int))), (0, x6), (0, x7), (9, 0), (9, 0)] [] := by
  unfold f_L_tell_33 at h
  obtain ⟨e, hl, h⟩ := bind_of h
  refine loop_ev (K := K_L_tell_33 m n N xs x2 (some (0, q.1), lm m n q.2)) (b_L_tell_33 m n N xs hmn hN x2) FU (x6, x7, σ) e hl ?_
  show El (xsh m n) (M_L_tell N xs) (false, false) (181, nX m n) (181, nX m n) _ 89 (lm m n e.2) [(2, (0 : Int)), (3, (200000 : Int)), (0, x2), (9, 0), (3, (1 : Int)), (3, (2 + (m : Int))), (0, e.1), (9, 0), (9, 0), (9, 0)] []
  replace h : f_L_tell_89 m n N xs e.2 x2 e.1 = some q := h
  exact el_sub (L2 := [(2, (0 : Int)), (3, (200000 : Int)), (0, x2), (9, 0), (3, (1 : Int)), (3, (2 + (m : Int))), (0, e.1), (9, 0), (9, 0), (9, 0)]) (e_L_tell_89 m n N xs hmn hN e.2 x2 e.1 h) ⟨.inr rfl, .inr rfl, .inr rfl, .inl rfl, .inr rfl, .inr rfl, .inr rfl, .inl rfl, .inl rfl, .inl rfl, trivial⟩
set_option maxHeartbeats 4000000 in
set_option maxRecDepth 20000 in
theorem e_L_tell_28 (m n N : Nat) (xs : Nat → Int32) (hmn : m ≤ 10 ∧ n ≤ 4) (hN : (N : Int) ≤ 2147483647) (σ : M2) (x2 s0 : Int)  {q : (Int × M2)} (h : f_L_tell_28 m n N xs σ x2 s0 = some q) : El (xsh m n) (M_L_tell N xs) (false, false) (181, nX m n) (181, nX m n) (some (0, q.1), lm m n q.2) 28 (lm m n σ) [(2, (0 : Int)), (3, (200000 : Int)), (0, x2), (9, 0), (3, (1 : Int)), (3, (2 + (m : Int))), (9, 0), (9, 0), (9, 0), (9, 0)] [(0, s0)] := by
  unfold f_L_tell_28 at h
  refine el_istore dL_tell_28 rfl (Nat.le_of_ble_eq_true rfl) ?_
  show El _ _ _ _ _ _ 30 _ [(2, (0 : Int)), (3, (200000 : Int)), (0, x2), (9, 0), (3, (1 : Int)), (3, (2 + (m : Int))), (0, s0), (9, 0), (9, 0), (9, 0)] _
  refine el_iconst dL_tell_30 (by decide) ?_
  refine el_istore dL_tell_31 rfl (Nat.le_of_ble_eq_true rfl) ?_
  show El _ _ _ _ _ _ 33 _ [(2, (0 : Int)), (3, (200000 : Int)), (0, x2), (9, 0), (3, (1 : Int)), (3, (2 + (m : Int))), (0, s0), (0, (0 : Int)), (9, 0), (9, 0)] _
  exact el_sub (L2 := [(2, (0 : Int)), (3, (200000 : Int)), (0, x2), (9, 0), (3, (1 : Int)), (3, (2 + (m : Int))), (0, s0), (0, (0 : Int)), (9, 0), (9, 0)]) (e_L_tell_33 m n N xs hmn hN σ x2 s0 (0 : Int) h) ⟨.inr rfl, .inr rfl, .inr rfl, .inl rfl, .inr rfl, .inr rfl, .inr rfl, .inr rfl, .inl rfl, .inl rfl, trivial⟩
set_option maxHeartbeats 4000000 in
set_option maxRecDepth 20000 in
theorem e_L_tell_27 (m n N : Nat) (xs : Nat → Int32) (hmn : m ≤ 10 ∧ n ≤ 4) (hN : (N : Int) ≤ 2147483647) (σ : M2) (x2 : Int)  {q : (Int × M2)} (h : f_L_tell_27 m n N xs σ x2 = some q) : El (xsh m n) (M_L_tell N xs) (false, false) (181, nX m n) (181, nX m n) (some (0, q.1), lm m n q.2) 27 (lm m n σ) [(2, (0 : Int)), (3, (200000 : Int)), (0, x2), (9, 0), (3, (1 : Int)), (3, (2 + (m : Int))), (9, 0), (9, 0), (9, 0), (9, 0)] [] := by
  unfold f_L_tell_27 at h
  refine el_iconst dL_tell_27 (by decide) ?_
  exact el_sub (L2 := [(2, (0 : Int)), (3, (200000 : Int)), (0, x2), (9, 0), (3, (1 : Int)), (3, (2 + (m : Int))), (9, 0), (9, 0), (9, 0), (9, 0)]) (e_L_tell_28 m n N xs hmn hN σ x2 (0 : Int) h) ⟨.inr rfl, .inr rfl, .inr rfl, .inl rfl, .inr rfl, .inr rfl, .inl rfl, .inl rfl, .inl rfl, .inl rfl, trivial⟩
set_option maxHeartbeats 4000000 in
set_option maxRecDepth 20000 in
theorem c_L_tell {m n N : Nat} {xs : Nat → Int32} (hmn : m ≤ 10 ∧ n ≤ 4) (hN : (N : Int) ≤ 2147483647) {σ : M2} {x2 : Int}  {q : (Int × M2)} (h : f_L_tell m n N xs σ x2 = some q) : MsL (xsh m n) N xs yL_tell (M_L_tell N xs) false (181, nX m n) [(2, (0 : Int)), (3, (200000 : Int)), (0, x2), (3, (0 : Int)), (3, (1 : Int)), (3, (2 + (m : Int)))] (lm m n σ) (some (0, q.1), lm m n q.2) := by
  refine MsL.of 4 (by decide +kernel) rfl rfl rfl rfl rfl ?_
  refine el_loose ?_
  unfold f_L_tell at h
  show El (xsh m n) (M_L_tell N xs) (false, false) (181, nX m n) (181, nX m n) _ 0 (lm m n σ) [(2, (0 : Int)), (3, (200000 : Int)), (0, x2), (3, (0 : Int)), (3, (1 : Int)), (3, (2 + (m : Int))), (9, 0), (9, 0), (9, 0), (9, 0)] []
  refine el_aload_n dL_tell_0 rfl (by decide) ?_
  refine el_aloadS dL_tell_1 rfl ?_
  refine el_iconst dL_tell_2 (by decide) ?_
  refine el_xald dL_tell_3 xs_g x0_g xn_g h (fun h => ?_)
  obtain ⟨v1, hc2, h⟩ := bind_of h
  refine el_invV (k := (0 : Int)) (av := [(0, (σ.2 (0 : Int) (0 : Int)))]) (st := []) (r2 := (some (0, v1.1), rho, v1.2)) dL_tell_4 ml_L_21 mv_X10_hours (T := TX10) (ci := 9) rfl sp0 (by decide) (by decide) rfl ⟨Nat.le_of_ble_eq_true rfl, Nat.le_of_ble_eq_true rfl⟩ (Nat.le_of_ble_eq_true rfl) (c_X10_hours hc2) ⟨Nat.le_refl _, Nat.le_refl _⟩ ?_
  show El _ _ _ _ _ _ 7 (lm m n (v1.2, σ.2)) _ ((0, v1.1) :: [])
  refine el_bipush dL_tell_7 (by decide) (by decide) ?_
  refine el_icmp_ne (tgt := 27) dL_tell_9 rfl h (fun cb h => ?_) (fun cb h => ?_)
  · exact el_sub (L2 := [(2, (0 : Int)), (3, (200000 : Int)), (0, x2), (9, 0), (3, (1 : Int)), (3, (2 + (m : Int))), (9, 0), (9, 0), (9, 0), (9, 0)]) (e_L_tell_27 m n N xs hmn hN (v1.2, σ.2) x2 h) ⟨.inr rfl, .inr rfl, .inr rfl, .inl rfl, .inr rfl, .inr rfl, .inl rfl, .inl rfl, .inl rfl, .inl rfl, trivial⟩
  refine el_aload_n dL_tell_12 rfl (by decide) ?_
  refine el_aloadS dL_tell_13 rfl ?_
  refine el_iconst dL_tell_14 (by decide) ?_
  refine el_xald dL_tell_15 xs_g x0_g xn_g h (fun h => ?_)
  obtain ⟨v3, hc4, h⟩ := bind_of h
  refine el_invV (k := (0 : Int)) (av := [(0, ((v1.2, σ.2).2 (0 : Int) (1 : Int)))]) (st := []) (r2 := (some (0, v3.1), rho, v3.2)) dL_tell_16 ml_L_27 mv_X10_turn (T := TX10) (ci := 9) rfl sp0 (by decide) (by decide) rfl ⟨Nat.le_of_ble_eq_true rfl, Nat.le_of_ble_eq_true rfl⟩ (Nat.le_of_ble_eq_true rfl) (c_X10_turn hc4) ⟨Nat.le_refl _, Nat.le_refl _⟩ ?_
  show El _ _ _ _ _ _ 19 (lm m n (v3.2, (v1.2, σ.2).2)) _ ((0, v3.1) :: [])
  refine el_iconst dL_tell_19 (by decide) ?_
  refine el_icmp_ne (tgt := 27) dL_tell_20 rfl h (fun cb h => ?_) (fun cb h => ?_)
  · exact el_sub (L2 := [(2, (0 : Int)), (3, (200000 : Int)), (0, x2), (9, 0), (3, (1 : Int)), (3, (2 + (m : Int))), (9, 0), (9, 0), (9, 0), (9, 0)]) (e_L_tell_27 m n N xs hmn hN (v3.2, (v1.2, σ.2).2) x2 h) ⟨.inr rfl, .inr rfl, .inr rfl, .inl rfl, .inr rfl, .inr rfl, .inl rfl, .inl rfl, .inl rfl, .inl rfl, trivial⟩
  refine el_iconst dL_tell_23 (by decide) ?_
  refine el_goto (tgt := 28) dL_tell_24 rfl ?_
  exact el_sub (L2 := [(2, (0 : Int)), (3, (200000 : Int)), (0, x2), (9, 0), (3, (1 : Int)), (3, (2 + (m : Int))), (9, 0), (9, 0), (9, 0), (9, 0)]) (e_L_tell_28 m n N xs hmn hN (v3.2, (v1.2, σ.2).2) x2 (1 : Int) h) ⟨.inr rfl, .inr rfl, .inr rfl, .inl rfl, .inr rfl, .inr rfl, .inl rfl, .inl rfl, .inl rfl, .inl rfl, trivial⟩
