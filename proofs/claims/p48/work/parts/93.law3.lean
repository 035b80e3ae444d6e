def K_L_isPlanned_481 (m n N : Nat) (xs : Nat → Int32) (x3 x4 x5 x6 x8 x9 x10 x14 x15 x16 x17 : Int) (r : Option V × LM) : (Int × Int × Int × M2) ⊕ ((Int × Int × M2)) → Prop := Sum.elim (fun a => El (xsh m n) (M_L_isPlanned N xs) (false, false) (181, nX m n) (181, nX m n) r 481 (lm m n a.2.2.2) [(2, (0 : Int)), (3, (1 : Int)), (9, 0), (0, x3), (0, x4), (0, x5), (0, x6), (9, 0), (0, x8), (0, x9), (0, x10), (9, 0), (9, 0), (9, 0), (0, x14), (0, x15), (0, x16), (0, x17), (0, a.1), (0, a.2.1), (0, a.2.2.1), (9, 0)] []) (fun e => El (xsh m n) (M_L_isPlanned N xs) (false, false) (181, nX m n) (181, nX m n) r 583 (lm m n e.2.2) [(2, (0 : Int)), (3, (1 : Int)), (9, 0), (0, x3), (0, x4), (0, x5), (0, x6), (9, 0), (0, x8), (0, x9), (0, x10), (9, 0), (9, 0), (9, 0), (0, x14), (0, x15), (0, x16), (0, x17), (0, e.1), (0, e.2.1), (9, 0), (9, 0)] [])
def K_L_isPlanned_405 (m n N : Nat) (xs : Nat → Int32) (x3 x4 x5 x6 x8 x9 x14 : Int) (r : Option V × LM) : (Int × Int × Int × M2) ⊕ ((Int × Int × M2)) → Prop := Sum.elim (fun a => El (xsh m n) (M_L_isPlanned N xs) (false, false) (181, nX m n) (181, nX m n) r 405 (lm m n a.2.2.2) [(2, (0 : Int)), (3, (1 : Int)), (9, 0), (0, x3), (0, x4), (0, x5), (0, x6), (9, 0), (0, x8), (0, x9), (0, a.1), (9, 0), (9, 0), (9, 0), (0, x14), (0, a.2.1), (0, a.2.2.1), (9, 0), (9, 0), (9, 0), (9, 0), (9, 0)] []) (fun e => El (xsh m n) (M_L_isPlanned N xs) (false, false) (181, nX m n) (181, nX m n) r 627 (lm m n e.2.2) [(2, (0 : Int)), (9, 0), (9, 0), (0, x3), (0, x4), (9, 0), (9, 0), (9, 0), (0, x8), (0, x9), (0, e.1), (9, 0), (9, 0), (9, 0), (0, x14), (0, e.2.1), (9, 0), (9, 0), (9, 0), (9, 0), (9, 0), (9, 0)] [])
def K_L_isPlanned_186 (m n N : Nat) (xs : Nat → Int32) (x3 x4 x5 x6 x7 x8 x9 x14 : Int) (r : Option V × LM) : (Int × Int × Int × Int × Int × M2) ⊕ ((Int × Int × Int × M2)) → Prop := Sum.elim (fun a => El (xsh m n) (M_L_isPlanned N xs) (false, false) (181, nX m n) (181, nX m n) r 186 (lm m n a.2.2.2.2.2) [(2, (0 : Int)), (3, (1 : Int)), (9, 0), (0, x3), (0, x4), (0, x5), (0, x6), (0, x7), (0, x8), (0, x9), (0, a.1), (0, a.2.1), (0, a.2.2.1), (0, a.2.2.2.1), (0, x14), (0, a.2.2.2.2.1), (9, 0), (9, 0), (9, 0), (9, 0), (9, 0), (9, 0)] []) (fun e => El (xsh m n) (M_L_isPlanned N xs) (false, false) (181, nX m n) (181, nX m n) r 334 (lm m n e.2.2.2) [(2, (0 : Int)), (3, (1 : Int)), (9, 0), (0, x3), (0, x4), (0, x5), (0, x6), (9, 0), (0, x8), (0, x9), (0, e.1), (9, 0), (0, e.2.1), (0, e.2.2.1), (0, x14), (9, 0), (9, 0), (9, 0), (9, 0), (9, 0), (9, 0), (9, 0)] [])
def K_L_isPlanned_138 (m n N : Nat) (xs : Nat → Int32) (σ : M2) (x2 x3 x4 x5 x6 x7 x8 x9 x10 x11 x12 : Int) (r : Option V × LM) : (Int × Int) ⊕ ((Int)) → Prop := Sum.elim (fun a => El (xsh m n) (M_L_isPlanned N xs) (false, false) (181, nX m n) (181, nX m n) r 138 (lm m n σ) [(2, (0 : Int)), (3, (1 : Int)), (3, x2), (0, x3), (0, x4), (0, x5), (0, x6), (0, x7), (0, x8), (0, x9), (0, x10), (0, x11), (0, x12), (0, a.1), (0, a.2), (9, 0), (9, 0), (9, 0), (9, 0), (9, 0), (9, 0), (9, 0)] []) (fun e => El (xsh m n) (M_L_isPlanned N xs) (false, false) (181, nX m n) (181, nX m n) r 179 (lm m n σ) [(2, (0 : Int)), (3, (1 : Int)), (9, 0), (0, x3), (0, x4), (0, x5), (0, x6), (0, x7), (0, x8), (0, x9), (0, x10), (0, x11), (0, x12), (0, e), (9, 0), (9, 0), (9, 0), (9, 0), (9, 0), (9, 0), (9, 0), (9, 0)] [])
set_option maxHeartbeats 4000000 in
set_option maxRecDepth 20000 in
theorem e_L_isPlanned_170 (m n N : Nat) (xs : Nat → Int32) (hmn : m ≤ 10 ∧ n ≤ 4) (hN : (N : Int) ≤ 2147483647) (σ : M2) (x2 x3 x4 x5 x6 x7 x8 x9 x10 x11 x12 x14 s1 s0 : Int) (hx2 : isQ m n x2) {q : ((Int × Int) ⊕ ((Int)))} (h : f_L_isPlanned_170 m n N xs σ x2 x3 x4 x5 x6 x7 x8 x9 x10 x11 x12 x14 s1 s0 = some q) {r : Option V × LM} (K : K_L_isPlanned_138 m n N xs σ x2 x3 x4 x5 x6 x7 x8 x9 x10 x11 x12 r q) : El (xsh m n) (M_L_isPlanned N xs) (false, false) (181, nX m n) (181, nX m n) r 170 (lm m n σ) [(2, (0 : Int)), (3, (1 : Int)), (3, x2), (0, x3), (0, x4), (0, x5), (0, x6), (0, x7), (0, x8), (0, x9), (0, x10), (0, x11), (0, x12), (9, 0), (0, x14), (9, 0), (9, 0), (9, 0), (9, 0), (9, 0), (9, 0), (9, 0)] [(0, s1), (0, s0)] := by
  unfold f_L_isPlanned_170 at h
  refine el_ior dL_isPlanned_170 ?_
  refine el_istoreG dL_isPlanned_171 h rfl (Nat.le_of_ble_eq_true rfl) (fun v19 h => ?_)
  show El _ _ _ _ _ _ 173 _ [(2, (0 : Int)), (3, (1 : Int)), (3, x2), (0, x3), (0, x4), (0, x5), (0, x6), (0, x7), (0, x8), (0, x9), (0, x10), (0, x11), (0, x12), (0, v19), (0, x14), (9, 0), (9, 0), (9, 0), (9, 0), (9, 0), (9, 0), (9, 0)] _
  refine el_iincG dL_isPlanned_173 rfl h rfl (fun v20 h => ?_)
  show El _ _ _ _ _ _ 176 _ [(2, (0 : Int)), (3, (1 : Int)), (3, x2), (0, x3), (0, x4), (0, x5), (0, x6), (0, x7), (0, x8), (0, x9), (0, x10), (0, x11), (0, x12), (0, v19), (0, v20), (9, 0), (9, 0), (9, 0), (9, 0), (9, 0), (9, 0), (9, 0)] _
  refine el_goto (tgt := 138) dL_isPlanned_176 rfl ?_
  obtain rfl := Option.some.inj h
  exact el_sub (L2 := [(2, (0 : Int)), (3, (1 : Int)), (3, x2), (0, x3), (0, x4), (0, x5), (0, x6), (0, x7), (0, x8), (0, x9), (0, x10), (0, x11), (0, x12), (0, v19), (0, v20), (9, 0), (9, 0), (9, 0), (9, 0), (9, 0), (9, 0), (9, 0)]) K ⟨.inr rfl, .inr rfl, .inr rfl, .inr rfl, .inr rfl, .inr rfl, .inr rfl, .inr rfl, .inr rfl, .inr rfl, .inr rfl, .inr rfl, .inr rfl, .inr rfl, .inr rfl, .inl rfl, .inl rfl, .inl rfl, .inl rfl, .inl rfl, .inl rfl, .inl rfl, trivial⟩
set_option maxHeartbeats 4000000 in
set_option maxRecDepth 20000 in
theorem e_L_isPlanned_298 (m n N : Nat) (xs : Nat → Int32) (hmn : m ≤ 10 ∧ n ≤ 4) (hN : (N : Int) ≤ 2147483647) (σ : M2) (x3 x4 x5 x6 x7 x8 x9 x12 x13 x14 x15 x16 x17 x18 s0 : Int)  {q : ((Int × Int × Int × Int × Int × M2) ⊕ ((Int × Int × Int × M2)))} (h : f_L_isPlanned_298 m n N xs σ x3 x4 x5 x6 x7 x8 x9 x12 x13 x14 x15 x16 x17 x18 s0 = some q) {r : Option V × LM} (K : K_L_isPlanned_186 m n N xs x3 x4 x5 x6 x7 x8 x9 x14 r q) : El (xsh m n) (M_L_isPlanned N xs) (false, false) (181, nX m n) (181, nX m n) r 298 (lm m n σ) [(2, (0 : Int)), (3, (1 : Int)), (9, 0), (0, x3), (0, x4), (0, x5), (0, x6), (0, x7), (0, x8), (0, x9), (9, 0), (9, 0), (0, x12), (0, x13), (0, x14), (0, x15), (0, x16), (0, x17), (0, x18), (9, 0), (9, 0), (9, 0)] [(0, s0)] := by
  unfold f_L_isPlanned_298 at h
  refine el_istore dL_isPlanned_298 rfl (Nat.le_of_ble_eq_true rfl) ?_
  show El _ _ _ _ _ _ 300 _ [(2, (0 : Int)), (3, (1 : Int)), (9, 0), (0, x3), (0, x4), (0, x5), (0, x6), (0, x7), (0, x8), (0, x9), (0, s0), (9, 0), (0, x12), (0, x13), (0, x14), (0, x15), (0, x16), (0, x17), (0, x18), (9, 0), (9, 0), (9, 0)] _
  refine el_iload dL_isPlanned_300 rfl ?_
  refine el_iconst dL_isPlanned_302 (by decide) ?_
  refine el_iload dL_isPlanned_303 rfl ?_
  refine el_ishl dL_isPlanned_305 ?_
  refine el_iconst dL_isPlanned_306 (by decide) ?_
  refine el_ixor dL_isPlanned_307 ?_
  refine el_iand dL_isPlanned_308 ?_
  refine el_istoreG dL_isPlanned_309 h rfl (Nat.le_of_ble_eq_true rfl) (fun v34 h => ?_)
  show El _ _ _ _ _ _ 311 _ [(2, (0 : Int)), (3, (1 : Int)), (9, 0), (0, x3), (0, x4), (0, x5), (0, x6), (0, x7), (0, x8), (0, x9), (0, s0), (9, 0), (0, x12), (0, v34), (0, x14), (0, x15), (0, x16), (0, x17), (0, x18), (9, 0), (9, 0), (9, 0)] _
  refine el_iload dL_isPlanned_311 rfl ?_
  refine el_iload dL_isPlanned_313 rfl ?_
  show El _ _ _ _ _ _ 315 _ _ _
  refine el_iadd dL_isPlanned_315 ?_
  refine el_istoreG dL_isPlanned_316 h rfl (Nat.le_of_ble_eq_true rfl) (fun v35 h => ?_)
  show El _ _ _ _ _ _ 318 _ [(2, (0 : Int)), (3, (1 : Int)), (9, 0), (0, x3), (0, x4), (0, x5), (0, x6), (0, x7), (0, x8), (0, x9), (0, s0), (0, v35), (0, x12), (0, v34), (0, x14), (0, x15), (0, x16), (0, x17), (0, x18), (9, 0), (9, 0), (9, 0)] _
  refine el_iload dL_isPlanned_318 rfl ?_
  refine el_iload dL_isPlanned_320 rfl ?_
  refine el_iload dL_isPlanned_322 rfl ?_
  refine el_isub dL_isPlanned_324 ?_
  refine el_iadd dL_isPlanned_325 ?_
  refine el_istoreG dL_isPlanned_326 h rfl (Nat.le_of_ble_eq_true rfl) (fun v36 h => ?_)
  show El _ _ _ _ _ _ 328 _ [(2, (0 : Int)), (3, (1 : Int)), (9, 0), (0, x3), (0, x4), (0, x5), (0, x6), (0, x7), (0, x8), (0, x9), (0, s0), (0, v35), (0, v36), (0, v34), (0, x14), (0, x15), (0, x16), (0, x17), (0, x18), (9, 0), (9, 0), (9, 0)] _
  refine el_iincG dL_isPlanned_328 rfl h rfl (fun v37 h => ?_)
  show El _ _ _ _ _ _ 331 _ [(2, (0 : Int)), (3, (1 : Int)), (9, 0), (0, x3), (0, x4), (0, x5), (0, x6), (0, x7), (0, x8), (0, x9), (0, s0), (0, v35), (0, v36), (0, v34), (0, x14), (0, v37), (0, x16), (0, x17), (0, x18), (9, 0), (9, 0), (9, 0)] _
  refine el_goto (tgt := 186) dL_isPlanned_331 rfl ?_
  obtain rfl := Option.some.inj h
  exact el_sub (L2 := [(2, (0 : Int)), (3, (1 : Int)), (9, 0), (0, x3), (0, x4), (0, x5), (0, x6), (0, x7), (0, x8), (0, x9), (0, s0), (0, v35), (0, v36), (0, v34), (0, x14), (0, v37), (9, 0), (9, 0), (9, 0), (9, 0), (9, 0), (9, 0)]) K ⟨.inr rfl, .inr rfl, .inl rfl, .inr rfl, .inr rfl, .inr rfl, .inr rfl, .inr rfl, .inr rfl, .inr rfl, .inr rfl, .inr rfl, .inr rfl, .inr rfl, .inr rfl, .inr rfl, .inl rfl, .inl rfl, .inl rfl, .inl rfl, .inl rfl, .inl rfl, trivial⟩
set_option maxHeartbeats 4000000 in
set_option maxRecDepth 20000 in
theorem e_L_isPlanned_297 (m n N : Nat) (xs : Nat → Int32) (hmn : m ≤ 10 ∧ n ≤ 4) (hN : (N : Int) ≤ 2147483647) (σ : M2) (x3 x4 x5 x6 x7 x8 x9 x12 x13 x14 x15 x16 x17 x18 : Int)  {q : ((Int × Int × Int × Int × Int × M2) ⊕ ((Int × Int × Int × M2)))} (h : f_L_isPlanned_297 m n N xs σ x3 x4 x5 x6 x7 x8 x9 x12 x13 x14 x15 x16 x17 x18 = some q) {r : Option V × LM} (K : K_L_isPlanned_186 m n N xs x3 x4 x5 x6 x7 x8 x9 x14 r q) : El (xsh m n) (M_L_isPlanned N xs) (false, false) (181, nX m n) (181, nX m n) r 297 (lm m n σ) [(2, (0 : Int)), (3, (1 : Int)), (9, 0), (0, x3), (0, x4), (0, x5), (0, x6), (0, x7), (0, x8), (0, x9), (9, 0), (9, 0), (0, x12), (0, x13), (0, x14), (0, x15), (0, x16), (0, x17), (0, x18), (9, 0), (9, 0), (9, 0)] [] := by
  unfold f_L_isPlanned_297 at h
  refine el_iconst dL_isPlanned_297 (by decide) ?_
  exact el_sub (L2 := [(2, (0 : Int)), (3, (1 : Int)), (9, 0), (0, x3), (0, x4), (0, x5), (0, x6), (0, x7), (0, x8), (0, x9), (9, 0), (9, 0), (0, x12), (0, x13), (0, x14), (0, x15), (0, x16), (0, x17), (0, x18), (9, 0), (9, 0), (9, 0)]) (e_L_isPlanned_298 m n N xs hmn hN σ x3 x4 x5 x6 x7 x8 x9 x12 x13 x14 x15 x16 x17 x18 (0 : Int) h K) ⟨.inr rfl, .inr rfl, .inl rfl, .inr rfl, .inr rfl, .inr rfl, .inr rfl, .inr rfl, .inr rfl, .inr rfl, .inl rfl, .inl rfl, .inr rfl, .inr rfl, .inr rfl, .inr rfl, .inr rfl, .inr rfl, .inr rfl, .inl rfl, .inl rfl, .inl rfl, trivial⟩
set_option maxHeartbeats 4000000 in
set_option maxRecDepth 20000 in
theorem e_L_isPlanned_268 (m n N : Nat) (xs : Nat → Int32) (hmn : m ≤ 10 ∧ n ≤ 4) (hN : (N : Int) ≤ 2147483647) (σ : M2) (x3 x4 x5 x6 x7 x8 x9 x12 x13 x14 x15 x16 x17 x18 s1 s0 : Int)  {q : ((Int × Int × Int × Int × Int × M2) ⊕ ((Int × Int × Int × M2)))} (h : f_L_isPlanned_268 m n N xs σ x3 x4 x5 x6 x7 x8 x9 x12 x13 x14 x15 x16 x17 x18 s1 s0 = some q) {r : Option V × LM} (K : K_L_isPlanned_186 m n N xs x3 x4 x5 x6 x7 x8 x9 x14 r q) : El (xsh m n) (M_L_isPlanned N xs) (false, false) (181, nX m n) (181, nX m n) r 268 (lm m n σ) [(2, (0 : Int)), (3, (1 : Int)), (9, 0), (0, x3), (0, x4), (0, x5), (0, x6), (0, x7), (0, x8), (0, x9), (9, 0), (9, 0), (0, x12), (0, x13), (0, x14), (0, x15), (0, x16), (0, x17), (0, x18), (9, 0), (9, 0), (9, 0)] [(0, s1), (0, s0)] := by
  unfold f_L_isPlanned_268 at h
  refine el_icmp_ne (tgt := 297) dL_isPlanned_268 rfl h (fun cb h => ?_) (fun cb h => ?_)
  · exact el_sub (L2 := [(2, (0 : Int)), (3, (1 : Int)), (9, 0), (0, x3), (0, x4), (0, x5), (0, x6), (0, x7), (0, x8), (0, x9), (9, 0), (9, 0), (0, x12), (0, x13), (0, x14), (0, x15), (0, x16), (0, x17), (0, x18), (9, 0), (9, 0), (9, 0)]) (e_L_isPlanned_297 m n N xs hmn hN σ x3 x4 x5 x6 x7 x8 x9 x12 x13 x14 x15 x16 x17 x18 h K) ⟨.inr rfl, .inr rfl, .inl rfl, .inr rfl, .inr rfl, .inr rfl, .inr rfl, .inr rfl, .inr rfl, .inr rfl, .inl rfl, .inl rfl, .inr rfl, .inr rfl, .inr rfl, .inr rfl, .inr rfl, .inr rfl, .inr rfl, .inl rfl, .inl rfl, .inl rfl, trivial⟩
  refine el_iload dL_isPlanned_271 rfl ?_
  refine el_iload dL_isPlanned_273 rfl ?_
  refine el_aload_n dL_isPlanned_275 rfl (by decide) ?_
  refine el_iload_n dL_isPlanned_276 rfl ?_
  refine el_iload dL_isPlanned_277 rfl ?_
  obtain ⟨v32, hc33, h⟩ := bind_of h
  refine el_invV (k := (0 : Int)) (av := [(0, x3), (0, x16)]) (st := [(0, x17), (0, x18)]) (r2 := (some (0, v32.1), rho, v32.2)) dL_isPlanned_279 ml_L_64 mv_X10_time (T := TX10) (ci := 9) rfl sp0 (by decide) (by decide) rfl ⟨Nat.le_of_ble_eq_true rfl, Nat.le_of_ble_eq_true rfl⟩ (Nat.le_of_ble_eq_true rfl) (c_X10_time hc33) ⟨Nat.le_refl _, Nat.le_refl _⟩ ?_
  show El _ _ _ _ _ _ 282 (lm m n (v32.2, σ.2)) _ ((0, v32.1) :: [(0, x17), (0, x18)])
  refine el_iadd dL_isPlanned_282 ?_
  refine el_icmp_ne (tgt := 297) dL_isPlanned_283 rfl h (fun cb h => ?_) (fun cb h => ?_)
  · exact el_sub (L2 := [(2, (0 : Int)), (3, (1 : Int)), (9, 0), (0, x3), (0, x4), (0, x5), (0, x6), (0, x7), (0, x8), (0, x9), (9, 0), (9, 0), (0, x12), (0, x13), (0, x14), (0, x15), (0, x16), (0, x17), (0, x18), (9, 0), (9, 0), (9, 0)]) (e_L_isPlanned_297 m n N xs hmn hN (v32.2, σ.2) x3 x4 x5 x6 x7 x8 x9 x12 x13 x14 x15 x16 x17 x18 h K) ⟨.inr rfl, .inr rfl, .inl rfl, .inr rfl, .inr rfl, .inr rfl, .inr rfl, .inr rfl, .inr rfl, .inr rfl, .inl rfl, .inl rfl, .inr rfl, .inr rfl, .inr rfl, .inr rfl, .inr rfl, .inr rfl, .inr rfl, .inl rfl, .inl rfl, .inl rfl, trivial⟩
  refine el_iload dL_isPlanned_286 rfl ?_
  refine el_bipush dL_isPlanned_288 (by decide) (by decide) ?_
  refine el_icmp_gt (tgt := 297) dL_isPlanned_290 rfl h (fun cb h => ?_) (fun cb h => ?_)
  · exact el_sub (L2 := [(2, (0 : Int)), (3, (1 : Int)), (9, 0), (0, x3), (0, x4), (0, x5), (0, x6), (0, x7), (0, x8), (0, x9), (9, 0), (9, 0), (0, x12), (0, x13), (0, x14), (0, x15), (0, x16), (0, x17), (0, x18), (9, 0), (9, 0), (9, 0)]) (e_L_isPlanned_297 m n N xs hmn hN (v32.2, σ.2) x3 x4 x5 x6 x7 x8 x9 x12 x13 x14 x15 x16 x17 x18 h K) ⟨.inr rfl, .inr rfl, .inl rfl, .inr rfl, .inr rfl, .inr rfl, .inr rfl, .inr rfl, .inr rfl, .inr rfl, .inl rfl, .inl rfl, .inr rfl, .inr rfl, .inr rfl, .inr rfl, .inr rfl, .inr rfl, .inr rfl, .inl rfl, .inl rfl, .inl rfl, trivial⟩
  refine el_iconst dL_isPlanned_293 (by decide) ?_
  refine el_goto (tgt := 298) dL_isPlanned_294 rfl ?_
  exact el_sub (L2 := [(2, (0 : Int)), (3, (1 : Int)), (9, 0), (0, x3), (0, x4), (0, x5), (0, x6), (0, x7), (0, x8), (0, x9), (9, 0), (9, 0), (0, x12), (0, x13), (0, x14), (0, x15), (0, x16), (0, x17), (0, x18), (9, 0), (9, 0), (9, 0)]) (e_L_isPlanned_298 m n N xs hmn hN (v32.2, σ.2) x3 x4 x5 x6 x7 x8 x9 x12 x13 x14 x15 x16 x17 x18 (1 : Int) h K) ⟨.inr rfl, .inr rfl, .inl rfl, .inr rfl, .inr rfl, .inr rfl, .inr rfl, .inr rfl, .inr rfl, .inr rfl, .inl rfl, .inl rfl, .inr rfl, .inr rfl, .inr rfl, .inr rfl, .inr rfl, .inr rfl, .inr rfl, .inl rfl, .inl rfl, .inl rfl, trivial⟩
set_option maxHeartbeats 4000000 in
set_option maxRecDepth 20000 in
theorem e_L_isPlanned_575 (m n N : Nat) (xs : Nat → Int32) (hmn : m ≤ 10 ∧ n ≤ 4) (hN : (N : Int) ≤ 2147483647) (σ : M2) (x3 x4 x5 x6 x8 x9 x10 x14 x15 x16 x17 x18 x20 s0 : Int)  {q : ((Int × Int × Int × M2) ⊕ ((Int × Int × M2)))} (h : f_L_isPlanned_575 m n N xs σ x3 x4 x5 x6 x8 x9 x10 x14 x15 x16 x17 x18 x20 s0 = some q) {r : Option V × LM} (K : K_L_isPlanned_481 m n N xs x3 x4 x5 x6 x8 x9 x10 x14 x15 x16 x17 r q) : El (xsh m n) (M_L_isPlanned N xs) (false, false) (181, nX m n) (181, nX m n) r 575 (lm m n σ) [(2, (0 : Int)), (3, (1 : Int)), (9, 0), (0, x3), (0, x4), (0, x5), (0, x6), (9, 0), (0, x8), (0, x9), (0, x10), (9, 0), (9, 0), (9, 0), (0, x14), (0, x15), (0, x16), (0, x17), (0, x18), (9, 0), (0, x20), (9, 0)] [(0, s0)] := by
  unfold f_L_isPlanned_575 at h
  refine el_istore dL_isPlanned_575 rfl (Nat.le_of_ble_eq_true rfl) ?_
  show El _ _ _ _ _ _ 577 _ [(2, (0 : Int)), (3, (1 : Int)), (9, 0), (0, x3), (0, x4), (0, x5), (0, x6), (9, 0), (0, x8), (0, x9), (0, x10), (9, 0), (9, 0), (9, 0), (0, x14), (0, x15), (0, x16), (0, x17), (0, x18), (0, s0), (0, x20), (9, 0)] _
  refine el_iincG dL_isPlanned_577 rfl h rfl (fun v57 h => ?_)
  show El _ _ _ _ _ _ 580 _ [(2, (0 : Int)), (3, (1 : Int)), (9, 0), (0, x3), (0, x4), (0, x5), (0, x6), (9, 0), (0, x8), (0, x9), (0, x10), (9, 0), (9, 0), (9, 0), (0, x14), (0, x15), (0, x16), (0, x17), (0, x18), (0, s0), (0, v57), (9, 0)] _
  refine el_goto (tgt := 481) dL_isPlanned_580 rfl ?_
  obtain rfl := Option.some.inj h
  exact el_sub (L2 := [(2, (0 : Int)), (3, (1 : Int)), (9, 0), (0, x3), (0, x4), (0, x5), (0, x6), (9, 0), (0, x8), (0, x9), (0, x10), (9, 0), (9, 0), (9, 0), (0, x14), (0, x15), (0, x16), (0, x17), (0, x18), (0, s0), (0, v57), (9, 0)]) K ⟨.inr rfl, .inr rfl, .inl rfl, .inr rfl, .inr rfl, .inr rfl, .inr rfl, .inl rfl, .inr rfl, .inr rfl, .inr rfl, .inl rfl, .inl rfl, .inl rfl, .inr rfl, .inr rfl, .inr rfl, .inr rfl, .inr rfl, .inr rfl, .inr rfl, .inl rfl, trivial⟩
set_option maxHeartbeats 4000000 in
set_option maxRecDepth 20000 in
theorem e_L_isPlanned_573 (m n N : Nat) (xs : Nat → Int32) (hmn : m ≤ 10 ∧ n ≤ 4) (hN : (N : Int) ≤ 2147483647) (σ : M2) (x3 x4 x5 x6 x8 x9 x10 x14 x15 x16 x17 x18 x19 x20 : Int)  {q : ((Int × Int × Int × M2) ⊕ ((Int × Int × M2)))} (h : f_L_isPlanned_573 m n N xs σ x3 x4 x5 x6 x8 x9 x10 x14 x15 x16 x17 x18 x19 x20 = some q) {r : Option V × LM} (K : K_L_isPlanned_481 m n N xs x3 x4 x5 x6 x8 x9 x10 x14 x15 x16 x17 r q) : El (xsh m n) (M_L_isPlanned N xs) (false, false) (181, nX m n) (181, nX m n) r 573 (lm m n σ) [(2, (0 : Int)), (3, (1 : Int)), (9, 0), (0, x3), (0, x4), (0, x5), (0, x6), (9, 0), (0, x8), (0, x9), (0, x10), (9, 0), (9, 0), (9, 0), (0, x14), (0, x15), (0, x16), (0, x17), (0, x18), (0, x19), (0, x20), (9, 0)] [] := by
  unfold f_L_isPlanned_573 at h
  refine el_iload dL_isPlanned_573 rfl ?_
  exact el_sub (L2 := [(2, (0 : Int)), (3, (1 : Int)), (9, 0), (0, x3), (0, x4), (0, x5), (0, x6), (9, 0), (0, x8), (0, x9), (0, x10), (9, 0), (9, 0), (9, 0), (0, x14), (0, x15), (0, x16), (0, x17), (0, x18), (9, 0), (0, x20), (9, 0)]) (e_L_isPlanned_575 m n N xs hmn hN σ x3 x4 x5 x6 x8 x9 x10 x14 x15 x16 x17 x18 x20 x19 h K) ⟨.inr rfl, .inr rfl, .inl rfl, .inr rfl, .inr rfl, .inr rfl, .inr rfl, .inl rfl, .inr rfl, .inr rfl, .inr rfl, .inl rfl, .inl rfl, .inl rfl, .inr rfl, .inr rfl, .inr rfl, .inr rfl, .inr rfl, .inl rfl, .inr rfl, .inl rfl, trivial⟩
set_option maxHeartbeats 4000000 in
set_option maxRecDepth 20000 in
theorem e_L_isPlanned_536 (m n N : Nat) (xs : Nat → Int32) (hmn : m ≤ 10 ∧ n ≤ 4) (hN : (N : Int) ≤ 2147483647) (σ : M2) (x3 x4 x5 x6 x8 x9 x10 x14 x15 x16 x17 x19 x20 x21 s0 : Int)  {q : ((Int × Int × Int × M2) ⊕ ((Int × Int × M2)))} (h : f_L_isPlanned_536 m n N xs σ x3 x4 x5 x6 x8 x9 x10 x14 x15 x16 x17 x19 x20 x21 s0 = some q) {r : Option V × LM} (K : K_L_isPlanned_481 m n N xs x3 x4 x5 x6 x8 x9 x10 x14 x15 x16 x17 r q) : El (xsh m n) (M_L_isPlanned N xs) (false, false) (181, nX m n) (181, nX m n) r 536 (lm m n σ) [(2, (0 : Int)), (3, (1 : Int)), (9, 0), (0, x3), (0, x4), (0, x5), (0, x6), (9, 0), (0, x8), (0, x9), (0, x10), (9, 0), (9, 0), (9, 0), (0, x14), (0, x15), (0, x16), (0, x17), (9, 0), (0, x19), (0, x20), (0, x21)] [(0, s0)] := by
  unfold f_L_isPlanned_536 at h
  refine el_istore dL_isPlanned_536 rfl (Nat.le_of_ble_eq_true rfl) ?_
  show El _ _ _ _ _ _ 538 _ [(2, (0 : Int)), (3, (1 : Int)), (9, 0), (0, x3), (0, x4), (0, x5), (0, x6), (9, 0), (0, x8), (0, x9), (0, x10), (9, 0), (9, 0), (9, 0), (0, x14), (0, x15), (0, x16), (0, x17), (0, s0), (0, x19), (0, x20), (0, x21)] _
  refine el_iload dL_isPlanned_538 rfl ?_
  refine el_aload_n dL_isPlanned_540 rfl (by decide) ?_
  refine el_iload_n dL_isPlanned_541 rfl ?_
  refine el_iload dL_isPlanned_542 rfl ?_
  refine el_iload dL_isPlanned_544 rfl ?_
  refine el_iconst dL_isPlanned_546 (by decide) ?_
  obtain ⟨v53, hc54, h⟩ := bind_of h
  refine el_invV (k := (0 : Int)) (av := [(0, x3), (0, x4), (0, x20), (0, (1 : Int))]) (st := [(0, x16)]) (r2 := (some (0, v53.1), rho, v53.2)) dL_isPlanned_547 ml_L_67 mv_X10_sits (T := TX10) (ci := 9) rfl sp0 (by decide) (by decide) rfl ⟨Nat.le_of_ble_eq_true rfl, Nat.le_of_ble_eq_true rfl⟩ (Nat.le_of_ble_eq_true rfl) (c_X10_sits hc54) ⟨Nat.le_refl _, Nat.le_refl _⟩ ?_
  show El _ _ _ _ _ _ 550 (lm m n (v53.2, σ.2)) _ ((0, v53.1) :: [(0, x16)])
  refine el_icmp_lt (tgt := 573) dL_isPlanned_550 rfl h (fun cb h => ?_) (fun cb h => ?_)
  · exact el_sub (L2 := [(2, (0 : Int)), (3, (1 : Int)), (9, 0), (0, x3), (0, x4), (0, x5), (0, x6), (9, 0), (0, x8), (0, x9), (0, x10), (9, 0), (9, 0), (9, 0), (0, x14), (0, x15), (0, x16), (0, x17), (0, s0), (0, x19), (0, x20), (9, 0)]) (e_L_isPlanned_573 m n N xs hmn hN (v53.2, σ.2) x3 x4 x5 x6 x8 x9 x10 x14 x15 x16 x17 s0 x19 x20 h K) ⟨.inr rfl, .inr rfl, .inl rfl, .inr rfl, .inr rfl, .inr rfl, .inr rfl, .inl rfl, .inr rfl, .inr rfl, .inr rfl, .inl rfl, .inl rfl, .inl rfl, .inr rfl, .inr rfl, .inr rfl, .inr rfl, .inr rfl, .inr rfl, .inr rfl, .inl rfl, trivial⟩
  refine el_iload dL_isPlanned_553 rfl ?_
  refine el_aload_n dL_isPlanned_555 rfl (by decide) ?_
  refine el_iload_n dL_isPlanned_556 rfl ?_
  refine el_iload dL_isPlanned_557 rfl ?_
  refine el_iload dL_isPlanned_559 rfl ?_
  refine el_iconst dL_isPlanned_561 (by decide) ?_
  obtain ⟨v55, hc56, h⟩ := bind_of h
  refine el_invV (k := (0 : Int)) (av := [(0, x3), (0, x4), (0, x20), (0, (2 : Int))]) (st := [(0, x16)]) (r2 := (some (0, v55.1), rho, v55.2)) dL_isPlanned_562 ml_L_67 mv_X10_sits (T := TX10) (ci := 9) rfl sp0 (by decide) (by decide) rfl ⟨Nat.le_of_ble_eq_true rfl, Nat.le_of_ble_eq_true rfl⟩ (Nat.le_of_ble_eq_true rfl) (c_X10_sits hc56) ⟨Nat.le_refl _, Nat.le_refl _⟩ ?_
  show El _ _ _ _ _ _ 565 (lm m n (v55.2, (v53.2, σ.2).2)) _ ((0, v55.1) :: [(0, x16)])
  refine el_icmp_ge (tgt := 573) dL_isPlanned_565 rfl h (fun cb h => ?_) (fun cb h => ?_)
  · exact el_sub (L2 := [(2, (0 : Int)), (3, (1 : Int)), (9, 0), (0, x3), (0, x4), (0, x5), (0, x6), (9, 0), (0, x8), (0, x9), (0, x10), (9, 0), (9, 0), (9, 0), (0, x14), (0, x15), (0, x16), (0, x17), (0, s0), (0, x19), (0, x20), (9, 0)]) (e_L_isPlanned_573 m n N xs hmn hN (v55.2, (v53.2, σ.2).2) x3 x4 x5 x6 x8 x9 x10 x14 x15 x16 x17 s0 x19 x20 h K) ⟨.inr rfl, .inr rfl, .inl rfl, .inr rfl, .inr rfl, .inr rfl, .inr rfl, .inl rfl, .inr rfl, .inr rfl, .inr rfl, .inl rfl, .inl rfl, .inl rfl, .inr rfl, .inr rfl, .inr rfl, .inr rfl, .inr rfl, .inr rfl, .inr rfl, .inl rfl, trivial⟩
  refine el_iload dL_isPlanned_568 rfl ?_
  refine el_goto (tgt := 575) dL_isPlanned_570 rfl ?_
  exact el_sub (L2 := [(2, (0 : Int)), (3, (1 : Int)), (9, 0), (0, x3), (0, x4), (0, x5), (0, x6), (9, 0), (0, x8), (0, x9), (0, x10), (9, 0), (9, 0), (9, 0), (0, x14), (0, x15), (0, x16), (0, x17), (0, s0), (9, 0), (0, x20), (9, 0)]) (e_L_isPlanned_575 m n N xs hmn hN (v55.2, (v53.2, σ.2).2) x3 x4 x5 x6 x8 x9 x10 x14 x15 x16 x17 s0 x20 x21 h K) ⟨.inr rfl, .inr rfl, .inl rfl, .inr rfl, .inr rfl, .inr rfl, .inr rfl, .inl rfl, .inr rfl, .inr rfl, .inr rfl, .inl rfl, .inl rfl, .inl rfl, .inr rfl, .inr rfl, .inr rfl, .inr rfl, .inr rfl, .inl rfl, .inr rfl, .inl rfl, trivial⟩
set_option maxHeartbeats 4000000 in
set_option maxRecDepth 20000 in
theorem e_L_isPlanned_531 (m n N : Nat) (xs : Nat → Int32) (hmn : m ≤ 10 ∧ n ≤ 4) (hN : (N : Int) ≤ 2147483647) (σ : M2) (x3 x4 x5 x6 x8 x9 x10 x14 x15 x16 x17 x19 x20 x21 : Int)  {q : ((Int × Int × Int × M2) ⊕ ((Int × Int × M2)))} (h : f_L_isPlanned_531 m n N xs σ x3 x4 x5 x6 x8 x9 x10 x14 x15 x16 x17 x19 x20 x21 = some q) {r : Option V × LM} (K : K_L_isPlanned_481 m n N xs x3 x4 x5 x6 x8 x9 x10 x14 x15 x16 x17 r q) : El (xsh m n) (M_L_isPlanned N xs) (false, false) (181, nX m n) (181, nX m n) r 531 (lm m n σ) [(2, (0 : Int)), (3, (1 : Int)), (9, 0), (0, x3), (0, x4), (0, x5), (0, x6), (9, 0), (0, x8), (0, x9), (0, x10), (9, 0), (9, 0), (9, 0), (0, x14), (0, x15), (0, x16), (0, x17), (9, 0), (0, x19), (0, x20), (0, x21)] [] := by
  unfold f_L_isPlanned_531 at h
  refine el_iconst dL_isPlanned_531 (by decide) ?_
  refine el_goto (tgt := 536) dL_isPlanned_532 rfl ?_
  exact el_sub (L2 := [(2, (0 : Int)), (3, (1 : Int)), (9, 0), (0, x3), (0, x4), (0, x5), (0, x6), (9, 0), (0, x8), (0, x9), (0, x10), (9, 0), (9, 0), (9, 0), (0, x14), (0, x15), (0, x16), (0, x17), (9, 0), (0, x19), (0, x20), (0, x21)]) (e_L_isPlanned_536 m n N xs hmn hN σ x3 x4 x5 x6 x8 x9 x10 x14 x15 x16 x17 x19 x20 x21 (1 : Int) h K) ⟨.inr rfl, .inr rfl, .inl rfl, .inr rfl, .inr rfl, .inr rfl, .inr rfl, .inl rfl, .inr rfl, .inr rfl, .inr rfl, .inl rfl, .inl rfl, .inl rfl, .inr rfl, .inr rfl, .inr rfl, .inr rfl, .inl rfl, .inr rfl, .inr rfl, .inr rfl, trivial⟩
set_option maxHeartbeats 4000000 in
set_option maxRecDepth 20000 in
theorem e_L_isPlanned_535 (m n N : Nat) (xs : Nat → Int32) (hmn : m ≤ 10 ∧ n ≤ 4) (hN : (N : Int) ≤ 2147483647) (σ : M2) (x3 x4 x5 x6 x8 x9 x10 x14 x15 x16 x17 x19 x20 x21 : Int)  {q : ((Int × Int × Int × M2) ⊕ ((Int × Int × M2)))} (h : f_L_isPlanned_535 m n N xs σ x3 x4 x5 x6 x8 x9 x10 x14 x15 x16 x17 x19 x20 x21 = some q) {r : Option V × LM} (K : K_L_isPlanned_481 m n N xs x3 x4 x5 x6 x8 x9 x10 x14 x15 x16 x17 r q) : El (xsh m n) (M_L_isPlanned N xs) (false, false) (181, nX m n) (181, nX m n) r 535 (lm m n σ) [(2, (0 : Int)), (3, (1 : Int)), (9, 0), (0, x3), (0, x4), (0, x5), (0, x6), (9, 0), (0, x8), (0, x9), (0, x10), (9, 0), (9, 0), (9, 0), (0, x14), (0, x15), (0, x16), (0, x17), (9, 0), (0, x19), (0, x20), (0, x21)] [] := by
  unfold f_L_isPlanned_535 at h
  refine el_iconst dL_isPlanned_535 (by decide) ?_
  exact el_sub (L2 := [(2, (0 : Int)), (3, (1 : Int)), (9, 0), (0, x3), (0, x4), (0, x5), (0, x6), (9, 0), (0, x8), (0, x9), (0, x10), (9, 0), (9, 0), (9, 0), (0, x14), (0, x15), (0, x16), (0, x17), (9, 0), (0, x19), (0, x20), (0, x21)]) (e_L_isPlanned_536 m n N xs hmn hN σ x3 x4 x5 x6 x8 x9 x10 x14 x15 x16 x17 x19 x20 x21 (0 : Int) h K) ⟨.inr rfl, .inr rfl, .inl rfl, .inr rfl, .inr rfl, .inr rfl, .inr rfl, .inl rfl, .inr rfl, .inr rfl, .inr rfl, .inl rfl, .inl rfl, .inl rfl, .inr rfl, .inr rfl, .inr rfl, .inr rfl, .inl rfl, .inr rfl, .inr rfl, .inr rfl, trivial⟩
set_option maxHeartbeats 4000000 in
set_option maxRecDepth 20000 in
theorem e_L_isPlanned_619 (m n N : Nat) (xs : Nat → Int32) (hmn : m ≤ 10 ∧ n ≤ 4) (hN : (N : Int) ≤ 2147483647) (σ : M2) (x3 x4 x5 x6 x8 x9 x14 x15 x16 s0 : Int)  {q : ((Int × Int × Int × M2) ⊕ ((Int × Int × M2)))} (h : f_L_isPlanned_619 m n N xs σ x3 x4 x5 x6 x8 x9 x14 x15 x16 s0 = some q) {r : Option V × LM} (K : K_L_isPlanned_405 m n N xs x3 x4 x5 x6 x8 x9 x14 r q) : El (xsh m n) (M_L_isPlanned N xs) (false, false) (181, nX m n) (181, nX m n) r 619 (lm m n σ) [(2, (0 : Int)), (3, (1 : Int)), (9, 0), (0, x3), (0, x4), (0, x5), (0, x6), (9, 0), (0, x8), (0, x9), (9, 0), (9, 0), (9, 0), (9, 0), (0, x14), (0, x15), (0, x16), (9, 0), (9, 0), (9, 0), (9, 0), (9, 0)] [(0, s0)] := by
  unfold f_L_isPlanned_619 at h
  refine el_istore dL_isPlanned_619 rfl (Nat.le_of_ble_eq_true rfl) ?_
  show El _ _ _ _ _ _ 621 _ [(2, (0 : Int)), (3, (1 : Int)), (9, 0), (0, x3), (0, x4), (0, x5), (0, x6), (9, 0), (0, x8), (0, x9), (0, s0), (9, 0), (9, 0), (9, 0), (0, x14), (0, x15), (0, x16), (9, 0), (9, 0), (9, 0), (9, 0), (9, 0)] _
  refine el_iincG dL_isPlanned_621 rfl h rfl (fun v58 h => ?_)
  show El _ _ _ _ _ _ 624 _ [(2, (0 : Int)), (3, (1 : Int)), (9, 0), (0, x3), (0, x4), (0, x5), (0, x6), (9, 0), (0, x8), (0, x9), (0, s0), (9, 0), (9, 0), (9, 0), (0, x14), (0, x15), (0, v58), (9, 0), (9, 0), (9, 0), (9, 0), (9, 0)] _
  refine el_goto (tgt := 405) dL_isPlanned_624 rfl ?_
  obtain rfl := Option.some.inj h
  exact el_sub (L2 := [(2, (0 : Int)), (3, (1 : Int)), (9, 0), (0, x3), (0, x4), (0, x5), (0, x6), (9, 0), (0, x8), (0, x9), (0, s0), (9, 0), (9, 0), (9, 0), (0, x14), (0, x15), (0, v58), (9, 0), (9, 0), (9, 0), (9, 0), (9, 0)]) K ⟨.inr rfl, .inr rfl, .inl rfl, .inr rfl, .inr rfl, .inr rfl, .inr rfl, .inl rfl, .inr rfl, .inr rfl, .inr rfl, .inl rfl, .inl rfl, .inl rfl, .inr rfl, .inr rfl, .inr rfl, .inl rfl, .inl rfl, .inl rfl, .inl rfl, .inl rfl, trivial⟩
set_option maxHeartbeats 4000000 in
set_option maxRecDepth 20000 in
theorem e_L_isPlanned_618 (m n N : Nat) (xs : Nat → Int32) (hmn : m ≤ 10 ∧ n ≤ 4) (hN : (N : Int) ≤ 2147483647) (σ : M2) (x3 x4 x5 x6 x8 x9 x14 x15 x16 : Int)  {q : ((Int × Int × Int × M2) ⊕ ((Int × Int × M2)))} (h : f_L_isPlanned_618 m n N xs σ x3 x4 x5 x6 x8 x9 x14 x15 x16 = some q) {r : Option V × LM} (K : K_L_isPlanned_405 m n N xs x3 x4 x5 x6 x8 x9 x14 r q) : El (xsh m n) (M_L_isPlanned N xs) (false, false) (181, nX m n) (181, nX m n) r 618 (lm m n σ) [(2, (0 : Int)), (3, (1 : Int)), (9, 0), (0, x3), (0, x4), (0, x5), (0, x6), (9, 0), (0, x8), (0, x9), (9, 0), (9, 0), (9, 0), (9, 0), (0, x14), (0, x15), (0, x16), (9, 0), (9, 0), (9, 0), (9, 0), (9, 0)] [] := by
  unfold f_L_isPlanned_618 at h
  refine el_iconst dL_isPlanned_618 (by decide) ?_
  exact el_sub (L2 := [(2, (0 : Int)), (3, (1 : Int)), (9, 0), (0, x3), (0, x4), (0, x5), (0, x6), (9, 0), (0, x8), (0, x9), (9, 0), (9, 0), (9, 0), (9, 0), (0, x14), (0, x15), (0, x16), (9, 0), (9, 0), (9, 0), (9, 0), (9, 0)]) (e_L_isPlanned_619 m n N xs hmn hN σ x3 x4 x5 x6 x8 x9 x14 x15 x16 (0 : Int) h K) ⟨.inr rfl, .inr rfl, .inl rfl, .inr rfl, .inr rfl, .inr rfl, .inr rfl, .inl rfl, .inr rfl, .inr rfl, .inl rfl, .inl rfl, .inl rfl, .inl rfl, .inr rfl, .inr rfl, .inr rfl, .inl rfl, .inl rfl, .inl rfl, .inl rfl, .inl rfl, trivial⟩
set_option maxHeartbeats 4000000 in
set_option maxRecDepth 20000 in
theorem e_L_isPlanned_611 (m n N : Nat) (xs : Nat → Int32) (hmn : m ≤ 10 ∧ n ≤ 4) (hN : (N : Int) ≤ 2147483647) (σ : M2) (x3 x4 x5 x6 x8 x9 x14 x15 x16 s1 s0 : Int)  {q : ((Int × Int × Int × M2) ⊕ ((Int × Int × M2)))} (h : f_L_isPlanned_611 m n N xs σ x3 x4 x5 x6 x8 x9 x14 x15 x16 s1 s0 = some q) {r : Option V × LM} (K : K_L_isPlanned_405 m n N xs x3 x4 x5 x6 x8 x9 x14 r q) : El (xsh m n) (M_L_isPlanned N xs) (false, false) (181, nX m n) (181, nX m n) r 611 (lm m n σ) [(2, (0 : Int)), (3, (1 : Int)), (9, 0), (0, x3), (0, x4), (0, x5), (0, x6), (9, 0), (0, x8), (0, x9), (9, 0), (9, 0), (9, 0), (9, 0), (0, x14), (0, x15), (0, x16), (9, 0), (9, 0), (9, 0), (9, 0), (9, 0)] [(0, s1), (0, s0)] := by
  unfold f_L_isPlanned_611 at h
  refine el_icmp_ne (tgt := 618) dL_isPlanned_611 rfl h (fun cb h => ?_) (fun cb h => ?_)
  · exact el_sub (L2 := [(2, (0 : Int)), (3, (1 : Int)), (9, 0), (0, x3), (0, x4), (0, x5), (0, x6), (9, 0), (0, x8), (0, x9), (9, 0), (9, 0), (9, 0), (9, 0), (0, x14), (0, x15), (0, x16), (9, 0), (9, 0), (9, 0), (9, 0), (9, 0)]) (e_L_isPlanned_618 m n N xs hmn hN σ x3 x4 x5 x6 x8 x9 x14 x15 x16 h K) ⟨.inr rfl, .inr rfl, .inl rfl, .inr rfl, .inr rfl, .inr rfl, .inr rfl, .inl rfl, .inr rfl, .inr rfl, .inl rfl, .inl rfl, .inl rfl, .inl rfl, .inr rfl, .inr rfl, .inr rfl, .inl rfl, .inl rfl, .inl rfl, .inl rfl, .inl rfl, trivial⟩
  refine el_iconst dL_isPlanned_614 (by decide) ?_
  refine el_goto (tgt := 619) dL_isPlanned_615 rfl ?_
  exact el_sub (L2 := [(2, (0 : Int)), (3, (1 : Int)), (9, 0), (0, x3), (0, x4), (0, x5), (0, x6), (9, 0), (0, x8), (0, x9), (9, 0), (9, 0), (9, 0), (9, 0), (0, x14), (0, x15), (0, x16), (9, 0), (9, 0), (9, 0), (9, 0), (9, 0)]) (e_L_isPlanned_619 m n N xs hmn hN σ x3 x4 x5 x6 x8 x9 x14 x15 x16 (1 : Int) h K) ⟨.inr rfl, .inr rfl, .inl rfl, .inr rfl, .inr rfl, .inr rfl, .inr rfl, .inl rfl, .inr rfl, .inr rfl, .inl rfl, .inl rfl, .inl rfl, .inl rfl, .inr rfl, .inr rfl, .inr rfl, .inl rfl, .inl rfl, .inl rfl, .inl rfl, .inl rfl, trivial⟩
set_option maxHeartbeats 4000000 in
set_option maxRecDepth 20000 in
theorem e_L_isPlanned_583 (m n N : Nat) (xs : Nat → Int32) (hmn : m ≤ 10 ∧ n ≤ 4) (hN : (N : Int) ≤ 2147483647) (σ : M2) (x3 x4 x5 x6 x8 x9 x10 x14 x15 x16 x17 x18 x19 : Int)  {q : ((Int × Int × Int × M2) ⊕ ((Int × Int × M2)))} (h : f_L_isPlanned_583 m n N xs σ x3 x4 x5 x6 x8 x9 x10 x14 x15 x16 x17 x18 x19 = some q) {r : Option V × LM} (K : K_L_isPlanned_405 m n N xs x3 x4 x5 x6 x8 x9 x14 r q) : El (xsh m n) (M_L_isPlanned N xs) (false, false) (181, nX m n) (181, nX m n) r 583 (lm m n σ) [(2, (0 : Int)), (3, (1 : Int)), (9, 0), (0, x3), (0, x4), (0, x5), (0, x6), (9, 0), (0, x8), (0, x9), (0, x10), (9, 0), (9, 0), (9, 0), (0, x14), (0, x15), (0, x16), (0, x17), (0, x18), (0, x19), (9, 0), (9, 0)] [] := by
  unfold f_L_isPlanned_583 at h
  refine el_iload dL_isPlanned_583 rfl ?_
  refine el_if_eq (tgt := 618) dL_isPlanned_585 rfl h (fun cb h => ?_) (fun cb h => ?_)
  · exact el_sub (L2 := [(2, (0 : Int)), (3, (1 : Int)), (9, 0), (0, x3), (0, x4), (0, x5), (0, x6), (9, 0), (0, x8), (0, x9), (9, 0), (9, 0), (9, 0), (9, 0), (0, x14), (0, x15), (0, x16), (9, 0), (9, 0), (9, 0), (9, 0), (9, 0)]) (e_L_isPlanned_618 m n N xs hmn hN σ x3 x4 x5 x6 x8 x9 x14 x15 x16 h K) ⟨.inr rfl, .inr rfl, .inl rfl, .inr rfl, .inr rfl, .inr rfl, .inr rfl, .inl rfl, .inr rfl, .inr rfl, .inl rfl, .inl rfl, .inl rfl, .inl rfl, .inr rfl, .inr rfl, .inr rfl, .inl rfl, .inl rfl, .inl rfl, .inl rfl, .inl rfl, trivial⟩
  refine el_iload dL_isPlanned_588 rfl ?_
  refine el_iload dL_isPlanned_590 rfl ?_
  refine el_if_lt (tgt := 600) dL_isPlanned_592 rfl h (fun cb h => ?_) (fun cb h => ?_)
  · refine el_iload dL_isPlanned_600 rfl ?_
    refine el_if_eq (tgt := 610) dL_isPlanned_602 rfl h (fun cb h => ?_) (fun cb h => ?_)
    · refine el_iconst dL_isPlanned_610 (by decide) ?_
      exact el_sub (L2 := [(2, (0 : Int)), (3, (1 : Int)), (9, 0), (0, x3), (0, x4), (0, x5), (0, x6), (9, 0), (0, x8), (0, x9), (9, 0), (9, 0), (9, 0), (9, 0), (0, x14), (0, x15), (0, x16), (9, 0), (9, 0), (9, 0), (9, 0), (9, 0)]) (e_L_isPlanned_611 m n N xs hmn hN σ x3 x4 x5 x6 x8 x9 x14 x15 x16 (-1 : Int) x17 h K) ⟨.inr rfl, .inr rfl, .inl rfl, .inr rfl, .inr rfl, .inr rfl, .inr rfl, .inl rfl, .inr rfl, .inr rfl, .inl rfl, .inl rfl, .inl rfl, .inl rfl, .inr rfl, .inr rfl, .inr rfl, .inl rfl, .inl rfl, .inl rfl, .inl rfl, .inl rfl, trivial⟩
    refine el_bipush dL_isPlanned_605 (by decide) (by decide) ?_
    refine el_goto (tgt := 611) dL_isPlanned_607 rfl ?_
    exact el_sub (L2 := [(2, (0 : Int)), (3, (1 : Int)), (9, 0), (0, x3), (0, x4), (0, x5), (0, x6), (9, 0), (0, x8), (0, x9), (9, 0), (9, 0), (9, 0), (9, 0), (0, x14), (0, x15), (0, x16), (9, 0), (9, 0), (9, 0), (9, 0), (9, 0)]) (e_L_isPlanned_611 m n N xs hmn hN σ x3 x4 x5 x6 x8 x9 x14 x15 x16 (20 : Int) x17 h K) ⟨.inr rfl, .inr rfl, .inl rfl, .inr rfl, .inr rfl, .inr rfl, .inr rfl, .inl rfl, .inr rfl, .inr rfl, .inl rfl, .inl rfl, .inl rfl, .inl rfl, .inr rfl, .inr rfl, .inr rfl, .inl rfl, .inl rfl, .inl rfl, .inl rfl, .inl rfl, trivial⟩
  refine el_iload dL_isPlanned_595 rfl ?_
  refine el_goto (tgt := 611) dL_isPlanned_597 rfl ?_
  exact el_sub (L2 := [(2, (0 : Int)), (3, (1 : Int)), (9, 0), (0, x3), (0, x4), (0, x5), (0, x6), (9, 0), (0, x8), (0, x9), (9, 0), (9, 0), (9, 0), (9, 0), (0, x14), (0, x15), (0, x16), (9, 0), (9, 0), (9, 0), (9, 0), (9, 0)]) (e_L_isPlanned_611 m n N xs hmn hN σ x3 x4 x5 x6 x8 x9 x14 x15 x16 x19 x17 h K) ⟨.inr rfl, .inr rfl, .inl rfl, .inr rfl, .inr rfl, .inr rfl, .inr rfl, .inl rfl, .inr rfl, .inr rfl, .inl rfl, .inl rfl, .inl rfl, .inl rfl, .inr rfl, .inr rfl, .inr rfl, .inl rfl, .inl rfl, .inl rfl, .inl rfl, .inl rfl, trivial⟩
set_option maxHeartbeats 4000000 in
set_option maxRecDepth 20000 in
theorem b_L_isPlanned_481 (m n N : Nat) (xs : Nat → Int32) (hmn : m ≤ 10 ∧ n ≤ 4) (hN : (N : Int) ≤ 2147483647) (x3 x4 x5 x6 x8 x9 x10 x14 x15 x16 x17 : Int)  {r : Option V × LM} : ∀ a x, f_L_isPlanned_481B m n N xs x3 x4 x5 x6 x8 x9 x10 x14 x15 x16 x17 a = some x → K_L_isPlanned_481 m n N xs x3 x4 x5 x6 x8 x9 x10 x14 x15 x16 x17 r x → K_L_isPlanned_481 m n N xs x3 x4 x5 x6 x8 x9 x10 x14 x15 x16 x17 r (.inl a) := by
  intro a x h K
  obtain ⟨x18, x19, x20, σ⟩ := a
  have h : f_L_isPlanned_481C m n N xs x3 x4 x5 x6 x8 x9 x10 x14 x15 x16 x17 x18 x19 x20 σ = some x := h
  unfold f_L_isPlanned_481C at h
  show El (xsh m n) (M_L_isPlanned N xs) (false, false) (181, nX m n) (181, nX m n) r 481 (lm m n σ) [(2, (0 : Int)), (3, (1 : Int)), (9, 0), (0, x3), (0, x4), (0, x5), (0, x6), (9, 0), (0, x8), (0, x9), (0, x10), (9, 0), (9, 0), (9, 0), (0, x14), (0, x15), (0, x16), (0, x17), (0, x18), (0, x19), (0, x20), (9, 0)] []
  refine el_iload dL_isPlanned_481 rfl ?_
  refine el_iload dL_isPlanned_483 rfl ?_
  refine el_icmp_ge (tgt := 583) dL_isPlanned_485 rfl h (fun cb h => ?_) (fun cb h => ?_)
  · obtain rfl := Option.some.inj h
    exact el_sub (L2 := [(2, (0 : Int)), (3, (1 : Int)), (9, 0), (0, x3), (0, x4), (0, x5), (0, x6), (9, 0), (0, x8), (0, x9), (0, x10), (9, 0), (9, 0), (9, 0), (0, x14), (0, x15), (0, x16), (0, x17), (0, x18), (0, x19), (9, 0), (9, 0)]) K ⟨.inr rfl, .inr rfl, .inl rfl, .inr rfl, .inr rfl, .inr rfl, .inr rfl, .inl rfl, .inr rfl, .inr rfl, .inr rfl, .inl rfl, .inl rfl, .inl rfl, .inr rfl, .inr rfl, .inr rfl, .inr rfl, .inr rfl, .inr rfl, .inl rfl, .inl rfl, trivial⟩
  refine el_aload_n dL_isPlanned_488 rfl (by decide) ?_
  refine el_iload_n dL_isPlanned_489 rfl ?_
  refine el_iload dL_isPlanned_490 rfl ?_
  refine el_iload dL_isPlanned_492 rfl ?_
  refine el_iconst dL_isPlanned_494 (by decide) ?_
  obtain ⟨v47, hc48, h⟩ := bind_of h
  refine el_invV (k := (0 : Int)) (av := [(0, x3), (0, x4), (0, x20), (0, (0 : Int))]) (st := []) (r2 := (some (0, v47.1), rho, v47.2)) dL_isPlanned_495 ml_L_67 mv_X10_sits (T := TX10) (ci := 9) rfl sp0 (by decide) (by decide) rfl ⟨Nat.le_of_ble_eq_true rfl, Nat.le_of_ble_eq_true rfl⟩ (Nat.le_of_ble_eq_true rfl) (c_X10_sits hc48) ⟨Nat.le_refl _, Nat.le_refl _⟩ ?_
  show El _ _ _ _ _ _ 498 (lm m n (v47.2, σ.2)) _ ((0, v47.1) :: [])
  refine el_istoreG dL_isPlanned_498 h rfl (Nat.le_of_ble_eq_true rfl) (fun v49 h => ?_)
  show El _ _ _ _ _ _ 500 _ [(2, (0 : Int)), (3, (1 : Int)), (9, 0), (0, x3), (0, x4), (0, x5), (0, x6), (9, 0), (0, x8), (0, x9), (0, x10), (9, 0), (9, 0), (9, 0), (0, x14), (0, x15), (0, x16), (0, x17), (0, x18), (0, x19), (0, x20), (0, v49)] _
  refine el_iload dL_isPlanned_500 rfl ?_
  refine el_if_ne (tgt := 531) dL_isPlanned_502 rfl h (fun cb h => ?_) (fun cb h => ?_)
  · exact el_sub (L2 := [(2, (0 : Int)), (3, (1 : Int)), (9, 0), (0, x3), (0, x4), (0, x5), (0, x6), (9, 0), (0, x8), (0, x9), (0, x10), (9, 0), (9, 0), (9, 0), (0, x14), (0, x15), (0, x16), (0, x17), (9, 0), (0, x19), (0, x20), (0, v49)]) (e_L_isPlanned_531 m n N xs hmn hN (v47.2, σ.2) x3 x4 x5 x6 x8 x9 x10 x14 x15 x16 x17 x19 x20 v49 h K) ⟨.inr rfl, .inr rfl, .inl rfl, .inr rfl, .inr rfl, .inr rfl, .inr rfl, .inl rfl, .inr rfl, .inr rfl, .inr rfl, .inl rfl, .inl rfl, .inl rfl, .inr rfl, .inr rfl, .inr rfl, .inr rfl, .inl rfl, .inr rfl, .inr rfl, .inr rfl, trivial⟩
  refine el_iload dL_isPlanned_505 rfl ?_
  refine el_aloadS dL_isPlanned_507 rfl ?_
  refine el_iload dL_isPlanned_508 rfl ?_
  have hw50 := (chk_of h).1
  refine el_xaald (v := (2 + v49)) dL_isPlanned_510 xs_P x0_P xn_P h eta_P (fun h => ?_)
  refine el_iconst dL_isPlanned_511 (by decide) ?_
  refine el_xald dL_isPlanned_512 (xs_p (isPp_at (n := n) hw50)) (x0_p (isPp_at (n := n) hw50)) (xn_p (isPp_at (n := n) hw50)) h (fun h => ?_)
  refine el_icmp_lt (tgt := 535) dL_isPlanned_513 rfl h (fun cb h => ?_) (fun cb h => ?_)
  · exact el_sub (L2 := [(2, (0 : Int)), (3, (1 : Int)), (9, 0), (0, x3), (0, x4), (0, x5), (0, x6), (9, 0), (0, x8), (0, x9), (0, x10), (9, 0), (9, 0), (9, 0), (0, x14), (0, x15), (0, x16), (0, x17), (9, 0), (0, x19), (0, x20), (0, v49)]) (e_L_isPlanned_535 m n N xs hmn hN (v47.2, σ.2) x3 x4 x5 x6 x8 x9 x10 x14 x15 x16 x17 x19 x20 v49 h K) ⟨.inr rfl, .inr rfl, .inl rfl, .inr rfl, .inr rfl, .inr rfl, .inr rfl, .inl rfl, .inr rfl, .inr rfl, .inr rfl, .inl rfl, .inl rfl, .inl rfl, .inr rfl, .inr rfl, .inr rfl, .inr rfl, .inl rfl, .inr rfl, .inr rfl, .inr rfl, trivial⟩
  refine el_iload dL_isPlanned_516 rfl ?_
  refine el_aload_n dL_isPlanned_518 rfl (by decide) ?_
  refine el_iload_n dL_isPlanned_519 rfl ?_
  refine el_iload dL_isPlanned_520 rfl ?_
  refine el_iload dL_isPlanned_522 rfl ?_
  refine el_iconst dL_isPlanned_524 (by decide) ?_
  obtain ⟨v51, hc52, h⟩ := bind_of h
  refine el_invV (k := (0 : Int)) (av := [(0, x3), (0, x4), (0, x20), (0, (1 : Int))]) (st := [(0, x16)]) (r2 := (some (0, v51.1), rho, v51.2)) dL_isPlanned_525 ml_L_67 mv_X10_sits (T := TX10) (ci := 9) rfl sp0 (by decide) (by decide) rfl ⟨Nat.le_of_ble_eq_true rfl, Nat.le_of_ble_eq_true rfl⟩ (Nat.le_of_ble_eq_true rfl) (c_X10_sits hc52) ⟨Nat.le_refl _, Nat.le_refl _⟩ ?_
  show El _ _ _ _ _ _ 528 (lm m n (v51.2, (v47.2, σ.2).2)) _ ((0, v51.1) :: [(0, x16)])
  refine el_icmp_ge (tgt := 535) dL_isPlanned_528 rfl h (fun cb h => ?_) (fun cb h => ?_)
  · exact el_sub (L2 := [(2, (0 : Int)), (3, (1 : Int)), (9, 0), (0, x3), (0, x4), (0, x5), (0, x6), (9, 0), (0, x8), (0, x9), (0, x10), (9, 0), (9, 0), (9, 0), (0, x14), (0, x15), (0, x16), (0, x17), (9, 0), (0, x19), (0, x20), (0, v49)]) (e_L_isPlanned_535 m n N xs hmn hN (v51.2, (v47.2, σ.2).2) x3 x4 x5 x6 x8 x9 x10 x14 x15 x16 x17 x19 x20 v49 h K) ⟨.inr rfl, .inr rfl, .inl rfl, .inr rfl, .inr rfl, .inr rfl, .inr rfl, .inl rfl, .inr rfl, .inr rfl, .inr rfl, .inl rfl, .inl rfl, .inl rfl, .inr rfl, .inr rfl, .inr rfl, .inr rfl, .inl rfl, .inr rfl, .inr rfl, .inr rfl, trivial⟩
  exact el_sub (L2 := [(2, (0 : Int)), (3, (1 : Int)), (9, 0), (0, x3), (0, x4), (0, x5), (0, x6), (9, 0), (0, x8), (0, x9), (0, x10), (9, 0), (9, 0), (9, 0), (0, x14), (0, x15), (0, x16), (0, x17), (9, 0), (0, x19), (0, x20), (0, v49)]) (e_L_isPlanned_531 m n N xs hmn hN (v51.2, (v47.2, σ.2).2) x3 x4 x5 x6 x8 x9 x10 x14 x15 x16 x17 x19 x20 v49 h K) ⟨.inr rfl, .inr rfl, .inl rfl, .inr rfl, .inr rfl, .inr rfl, .inr rfl, .inl rfl, .inr rfl, .inr rfl, .inr rfl, .inl rfl, .inl rfl, .inl rfl, .inr rfl, .inr rfl, .inr rfl, .inr rfl, .inl rfl, .inr rfl, .inr rfl, .inr rfl, trivial⟩
set_option maxHeartbeats 4000000 in
set_option maxRecDepth 20000 in
theorem e_L_isPlanned_481 (m n N : Nat) (xs : Nat → Int32) (hmn : m ≤ 10 ∧ n ≤ 4) (hN : (N : Int) ≤ 2147483647) (σ : M2) (x3 x4 x5 x6 x8 x9 x10 x14 x15 x16 x17 x18 x19 x20 : Int)  {q : ((Int × Int × Int × M2) ⊕ ((Int × Int × M2)))} (h : f_L_isPlanned_481 m n N xs σ x3 x4 x5 x6 x8 x9 x10 x14 x15 x16 x17 x18 x19 x20 = some q) {r : Option V × LM} (K : K_L_isPlanned_405 m n N xs x3 x4 x5 x6 x8 x9 x14 r q) : El (xsh m n) (M_L_isPlanned N xs) (false, false) (181, nX m n) (181, nX m n) r 481 (lm m n σ) [(2, (0 : Int)), (3, (1 : Int)), (9, 0), (0, x3), (0, x4), (0, x5), (0, x6), (9, 0), (0, x8), (0, x9), (0, x10), (9, 0), (9, 0), (9, 0), (0, x14), (0, x15), (0, x16), (0, x17), (0, x18), (0, x19), (0, x20), (9, 0)] [] := by
  unfold f_L_isPlanned_481 at h
  obtain ⟨e, hl, h⟩ := bind_of h
  refine loop_ev (K := K_L_isPlanned_481 m n N xs x3 x4 x5 x6 x8 x9 x10 x14 x15 x16 x17 r) (b_L_isPlanned_481 m n N xs hmn hN x3 x4 x5 x6 x8 x9 x10 x14 x15 x16 x17) FU (x18, x19, x20, σ) e hl ?_
  show El (xsh m n) (M_L_isPlanned N xs) (false, false) (181, nX m n) (181, nX m n) r 583 (lm m n e.2.2) [(2, (0 : Int)), (3, (1 : Int)), (9, 0), (0, x3), (0, x4), (0, x5), (0, x6), (9, 0), (0, x8), (0, x9), (0, x10), (9, 0), (9, 0), (9, 0), (0, x14), (0, x15), (0, x16), (0, x17), (0, e.1), (0, e.2.1), (9, 0), (9, 0)] []
  replace h : f_L_isPlanned_583 m n N xs e.2.2 x3 x4 x5 x6 x8 x9 x10 x14 x15 x16 x17 e.1 e.2.1 = some q := h
  exact el_sub (L2 := [(2, (0 : Int)), (3, (1 : Int)), (9, 0), (0, x3), (0, x4), (0, x5), (0, x6), (9, 0), (0, x8), (0, x9), (0, x10), (9, 0), (9, 0), (9, 0), (0, x14), (0, x15), (0, x16), (0, x17), (0, e.1), (0, e.2.1), (9, 0), (9, 0)]) (e_L_isPlanned_583 m n N xs hmn hN e.2.2 x3 x4 x5 x6 x8 x9 x10 x14 x15 x16 x17 e.1 e.2.1 h K) ⟨.inr rfl, .inr rfl, .inl rfl, .inr rfl, .inr rfl, .inr rfl, .inr rfl, .inl rfl, .inr rfl, .inr rfl, .inr rfl, .inl rfl, .inl rfl, .inl rfl, .inr rfl, .inr rfl, .inr rfl, .inr rfl, .inr rfl, .inr rfl, .inl rfl, .inl rfl, trivial⟩
set_option maxHeartbeats 4000000 in
set_option maxRecDepth 20000 in
theorem e_L_isPlanned_476 (m n N : Nat) (xs : Nat → Int32) (hmn : m ≤ 10 ∧ n ≤ 4) (hN : (N : Int) ≤ 2147483647) (σ : M2) (x3 x4 x5 x6 x8 x9 x10 x14 x15 x16 x17 x18 s0 : Int)  {q : ((Int × Int × Int × M2) ⊕ ((Int × Int × M2)))} (h : f_L_isPlanned_476 m n N xs σ x3 x4 x5 x6 x8 x9 x10 x14 x15 x16 x17 x18 s0 = some q) {r : Option V × LM} (K : K_L_isPlanned_405 m n N xs x3 x4 x5 x6 x8 x9 x14 r q) : El (xsh m n) (M_L_isPlanned N xs) (false, false) (181, nX m n) (181, nX m n) r 476 (lm m n σ) [(2, (0 : Int)), (3, (1 : Int)), (9, 0), (0, x3), (0, x4), (0, x5), (0, x6), (9, 0), (0, x8), (0, x9), (0, x10), (9, 0), (9, 0), (9, 0), (0, x14), (0, x15), (0, x16), (0, x17), (0, x18), (9, 0), (9, 0), (9, 0)] [(0, s0)] := by
  unfold f_L_isPlanned_476 at h
  refine el_istore dL_isPlanned_476 rfl (Nat.le_of_ble_eq_true rfl) ?_
  show El _ _ _ _ _ _ 478 _ [(2, (0 : Int)), (3, (1 : Int)), (9, 0), (0, x3), (0, x4), (0, x5), (0, x6), (9, 0), (0, x8), (0, x9), (0, x10), (9, 0), (9, 0), (9, 0), (0, x14), (0, x15), (0, x16), (0, x17), (0, x18), (0, s0), (9, 0), (9, 0)] _
  refine el_iconst dL_isPlanned_478 (by decide) ?_
  refine el_istore dL_isPlanned_479 rfl (Nat.le_of_ble_eq_true rfl) ?_
  show El _ _ _ _ _ _ 481 _ [(2, (0 : Int)), (3, (1 : Int)), (9, 0), (0, x3), (0, x4), (0, x5), (0, x6), (9, 0), (0, x8), (0, x9), (0, x10), (9, 0), (9, 0), (9, 0), (0, x14), (0, x15), (0, x16), (0, x17), (0, x18), (0, s0), (0, (0 : Int)), (9, 0)] _
  exact el_sub (L2 := [(2, (0 : Int)), (3, (1 : Int)), (9, 0), (0, x3), (0, x4), (0, x5), (0, x6), (9, 0), (0, x8), (0, x9), (0, x10), (9, 0), (9, 0), (9, 0), (0, x14), (0, x15), (0, x16), (0, x17), (0, x18), (0, s0), (0, (0 : Int)), (9, 0)]) (e_L_isPlanned_481 m n N xs hmn hN σ x3 x4 x5 x6 x8 x9 x10 x14 x15 x16 x17 x18 s0 (0 : Int) h K) ⟨.inr rfl, .inr rfl, .inl rfl, .inr rfl, .inr rfl, .inr rfl, .inr rfl, .inl rfl, .inr rfl, .inr rfl, .inr rfl, .inl rfl, .inl rfl, .inl rfl, .inr rfl, .inr rfl, .inr rfl, .inr rfl, .inr rfl, .inr rfl, .inr rfl, .inl rfl, trivial⟩
set_option maxHeartbeats 4000000 in
set_option maxRecDepth 20000 in
theorem e_L_isPlanned_461 (m n N : Nat) (xs : Nat → Int32) (hmn : m ≤ 10 ∧ n ≤ 4) (hN : (N : Int) ≤ 2147483647) (σ : M2) (x3 x4 x5 x6 x8 x9 x10 x14 x15 x16 x17 s0 : Int)  {q : ((Int × Int × Int × M2) ⊕ ((Int × Int × M2)))} (h : f_L_isPlanned_461 m n N xs σ x3 x4 x5 x6 x8 x9 x10 x14 x15 x16 x17 s0 = some q) {r : Option V × LM} (K : K_L_isPlanned_405 m n N xs x3 x4 x5 x6 x8 x9 x14 r q) : El (xsh m n) (M_L_isPlanned N xs) (false, false) (181, nX m n) (181, nX m n) r 461 (lm m n σ) [(2, (0 : Int)), (3, (1 : Int)), (9, 0), (0, x3), (0, x4), (0, x5), (0, x6), (9, 0), (0, x8), (0, x9), (0, x10), (9, 0), (9, 0), (9, 0), (0, x14), (0, x15), (0, x16), (0, x17), (9, 0), (9, 0), (9, 0), (9, 0)] [(0, s0)] := by
  unfold f_L_isPlanned_461 at h
  refine el_istore dL_isPlanned_461 rfl (Nat.le_of_ble_eq_true rfl) ?_
  show El _ _ _ _ _ _ 463 _ [(2, (0 : Int)), (3, (1 : Int)), (9, 0), (0, x3), (0, x4), (0, x5), (0, x6), (9, 0), (0, x8), (0, x9), (0, x10), (9, 0), (9, 0), (9, 0), (0, x14), (0, x15), (0, x16), (0, x17), (0, s0), (9, 0), (9, 0), (9, 0)] _
  refine el_iload dL_isPlanned_463 rfl ?_
  refine el_iload dL_isPlanned_465 rfl ?_
  refine el_icmp_ge (tgt := 475) dL_isPlanned_467 rfl h (fun cb h => ?_) (fun cb h => ?_)
  · refine el_iconst dL_isPlanned_475 (by decide) ?_
    exact el_sub (L2 := [(2, (0 : Int)), (3, (1 : Int)), (9, 0), (0, x3), (0, x4), (0, x5), (0, x6), (9, 0), (0, x8), (0, x9), (0, x10), (9, 0), (9, 0), (9, 0), (0, x14), (0, x15), (0, x16), (0, x17), (0, s0), (9, 0), (9, 0), (9, 0)]) (e_L_isPlanned_476 m n N xs hmn hN σ x3 x4 x5 x6 x8 x9 x10 x14 x15 x16 x17 s0 (-1 : Int) h K) ⟨.inr rfl, .inr rfl, .inl rfl, .inr rfl, .inr rfl, .inr rfl, .inr rfl, .inl rfl, .inr rfl, .inr rfl, .inr rfl, .inl rfl, .inl rfl, .inl rfl, .inr rfl, .inr rfl, .inr rfl, .inr rfl, .inr rfl, .inl rfl, .inl rfl, .inl rfl, trivial⟩
  refine el_iload dL_isPlanned_470 rfl ?_
  refine el_goto (tgt := 476) dL_isPlanned_472 rfl ?_
  exact el_sub (L2 := [(2, (0 : Int)), (3, (1 : Int)), (9, 0), (0, x3), (0, x4), (0, x5), (0, x6), (9, 0), (0, x8), (0, x9), (0, x10), (9, 0), (9, 0), (9, 0), (0, x14), (0, x15), (0, x16), (0, x17), (0, s0), (9, 0), (9, 0), (9, 0)]) (e_L_isPlanned_476 m n N xs hmn hN σ x3 x4 x5 x6 x8 x9 x10 x14 x15 x16 x17 s0 x5 h K) ⟨.inr rfl, .inr rfl, .inl rfl, .inr rfl, .inr rfl, .inr rfl, .inr rfl, .inl rfl, .inr rfl, .inr rfl, .inr rfl, .inl rfl, .inl rfl, .inl rfl, .inr rfl, .inr rfl, .inr rfl, .inr rfl, .inr rfl, .inl rfl, .inl rfl, .inl rfl, trivial⟩
set_option maxHeartbeats 4000000 in
set_option maxRecDepth 20000 in
theorem e_L_isPlanned_460 (m n N : Nat) (xs : Nat → Int32) (hmn : m ≤ 10 ∧ n ≤ 4) (hN : (N : Int) ≤ 2147483647) (σ : M2) (x3 x4 x5 x6 x8 x9 x10 x14 x15 x16 x17 : Int)  {q : ((Int × Int × Int × M2) ⊕ ((Int × Int × M2)))} (h : f_L_isPlanned_460 m n N xs σ x3 x4 x5 x6 x8 x9 x10 x14 x15 x16 x17 = some q) {r : Option V × LM} (K : K_L_isPlanned_405 m n N xs x3 x4 x5 x6 x8 x9 x14 r q) : El (xsh m n) (M_L_isPlanned N xs) (false, false) (181, nX m n) (181, nX m n) r 460 (lm m n σ) [(2, (0 : Int)), (3, (1 : Int)), (9, 0), (0, x3), (0, x4), (0, x5), (0, x6), (9, 0), (0, x8), (0, x9), (0, x10), (9, 0), (9, 0), (9, 0), (0, x14), (0, x15), (0, x16), (0, x17), (9, 0), (9, 0), (9, 0), (9, 0)] [] := by
  unfold f_L_isPlanned_460 at h
  refine el_iconst dL_isPlanned_460 (by decide) ?_
  exact el_sub (L2 := [(2, (0 : Int)), (3, (1 : Int)), (9, 0), (0, x3), (0, x4), (0, x5), (0, x6), (9, 0), (0, x8), (0, x9), (0, x10), (9, 0), (9, 0), (9, 0), (0, x14), (0, x15), (0, x16), (0, x17), (9, 0), (9, 0), (9, 0), (9, 0)]) (e_L_isPlanned_461 m n N xs hmn hN σ x3 x4 x5 x6 x8 x9 x10 x14 x15 x16 x17 (0 : Int) h K) ⟨.inr rfl, .inr rfl, .inl rfl, .inr rfl, .inr rfl, .inr rfl, .inr rfl, .inl rfl, .inr rfl, .inr rfl, .inr rfl, .inl rfl, .inl rfl, .inl rfl, .inr rfl, .inr rfl, .inr rfl, .inr rfl, .inl rfl, .inl rfl, .inl rfl, .inl rfl, trivial⟩
set_option maxHeartbeats 4000000 in
set_option maxRecDepth 20000 in
theorem e_L_isPlanned_437 (m n N : Nat) (xs : Nat → Int32) (hmn : m ≤ 10 ∧ n ≤ 4) (hN : (N : Int) ≤ 2147483647) (σ : M2) (x3 x4 x5 x6 x8 x9 x10 x14 x16 x17 s1 s0 : Int)  {q : ((Int × Int × Int × M2) ⊕ ((Int × Int × M2)))} (h : f_L_isPlanned_437 m n N xs σ x3 x4 x5 x6 x8 x9 x10 x14 x16 x17 s1 s0 = some q) {r : Option V × LM} (K : K_L_isPlanned_405 m n N xs x3 x4 x5 x6 x8 x9 x14 r q) : El (xsh m n) (M_L_isPlanned N xs) (false, false) (181, nX m n) (181, nX m n) r 437 (lm m n σ) [(2, (0 : Int)), (3, (1 : Int)), (9, 0), (0, x3), (0, x4), (0, x5), (0, x6), (9, 0), (0, x8), (0, x9), (0, x10), (9, 0), (9, 0), (9, 0), (0, x14), (9, 0), (0, x16), (0, x17), (9, 0), (9, 0), (9, 0), (9, 0)] [(0, s1), (0, s0)] := by
  unfold f_L_isPlanned_437 at h
  refine el_iadd dL_isPlanned_437 ?_
  refine el_istoreG dL_isPlanned_438 h rfl (Nat.le_of_ble_eq_true rfl) (fun v45 h => ?_)
  show El _ _ _ _ _ _ 440 _ [(2, (0 : Int)), (3, (1 : Int)), (9, 0), (0, x3), (0, x4), (0, x5), (0, x6), (9, 0), (0, x8), (0, x9), (0, x10), (9, 0), (9, 0), (9, 0), (0, x14), (0, v45), (0, x16), (0, x17), (9, 0), (9, 0), (9, 0), (9, 0)] _
  refine el_iload dL_isPlanned_440 rfl ?_
  refine el_if_lt (tgt := 460) dL_isPlanned_442 rfl h (fun cb h => ?_) (fun cb h => ?_)
  · exact el_sub (L2 := [(2, (0 : Int)), (3, (1 : Int)), (9, 0), (0, x3), (0, x4), (0, x5), (0, x6), (9, 0), (0, x8), (0, x9), (0, x10), (9, 0), (9, 0), (9, 0), (0, x14), (0, v45), (0, x16), (0, x17), (9, 0), (9, 0), (9, 0), (9, 0)]) (e_L_isPlanned_460 m n N xs hmn hN σ x3 x4 x5 x6 x8 x9 x10 x14 v45 x16 x17 h K) ⟨.inr rfl, .inr rfl, .inl rfl, .inr rfl, .inr rfl, .inr rfl, .inr rfl, .inl rfl, .inr rfl, .inr rfl, .inr rfl, .inl rfl, .inl rfl, .inl rfl, .inr rfl, .inr rfl, .inr rfl, .inr rfl, .inl rfl, .inl rfl, .inl rfl, .inl rfl, trivial⟩
  refine el_iload dL_isPlanned_445 rfl ?_
  refine el_aloadS dL_isPlanned_447 rfl ?_
  refine el_iload dL_isPlanned_448 rfl ?_
  have hw46 := (chk_of h).1
  refine el_xaald (v := (2 + x9)) dL_isPlanned_450 xs_P x0_P xn_P h eta_P (fun h => ?_)
  refine el_iconst dL_isPlanned_451 (by decide) ?_
  refine el_xald dL_isPlanned_452 (xs_p (isPp_at (n := n) hw46)) (x0_p (isPp_at (n := n) hw46)) (xn_p (isPp_at (n := n) hw46)) h (fun h => ?_)
  refine el_icmp_lt (tgt := 460) dL_isPlanned_453 rfl h (fun cb h => ?_) (fun cb h => ?_)
  · exact el_sub (L2 := [(2, (0 : Int)), (3, (1 : Int)), (9, 0), (0, x3), (0, x4), (0, x5), (0, x6), (9, 0), (0, x8), (0, x9), (0, x10), (9, 0), (9, 0), (9, 0), (0, x14), (0, v45), (0, x16), (0, x17), (9, 0), (9, 0), (9, 0), (9, 0)]) (e_L_isPlanned_460 m n N xs hmn hN σ x3 x4 x5 x6 x8 x9 x10 x14 v45 x16 x17 h K) ⟨.inr rfl, .inr rfl, .inl rfl, .inr rfl, .inr rfl, .inr rfl, .inr rfl, .inl rfl, .inr rfl, .inr rfl, .inr rfl, .inl rfl, .inl rfl, .inl rfl, .inr rfl, .inr rfl, .inr rfl, .inr rfl, .inl rfl, .inl rfl, .inl rfl, .inl rfl, trivial⟩
  refine el_iconst dL_isPlanned_456 (by decide) ?_
  refine el_goto (tgt := 461) dL_isPlanned_457 rfl ?_
  exact el_sub (L2 := [(2, (0 : Int)), (3, (1 : Int)), (9, 0), (0, x3), (0, x4), (0, x5), (0, x6), (9, 0), (0, x8), (0, x9), (0, x10), (9, 0), (9, 0), (9, 0), (0, x14), (0, v45), (0, x16), (0, x17), (9, 0), (9, 0), (9, 0), (9, 0)]) (e_L_isPlanned_461 m n N xs hmn hN σ x3 x4 x5 x6 x8 x9 x10 x14 v45 x16 x17 (1 : Int) h K) ⟨.inr rfl, .inr rfl, .inl rfl, .inr rfl, .inr rfl, .inr rfl, .inr rfl, .inl rfl, .inr rfl, .inr rfl, .inr rfl, .inl rfl, .inl rfl, .inl rfl, .inr rfl, .inr rfl, .inr rfl, .inr rfl, .inl rfl, .inl rfl, .inl rfl, .inl rfl, trivial⟩
set_option maxHeartbeats 4000000 in
set_option maxRecDepth 20000 in
theorem e_L_isPlanned_839 (m n N : Nat) (xs : Nat → Int32) (hmn : m ≤ 10 ∧ n ≤ 4) (hN : (N : Int) ≤ 2147483647) (σ : M2)  {q : (Int × M2)} (h : f_L_isPlanned_839 m n N xs σ  = some q) : El (xsh m n) (M_L_isPlanned N xs) (false, false) (181, nX m n) (181, nX m n) (some (0, q.1), lm m n q.2) 839 (lm m n σ) [(9, 0), (9, 0), (9, 0), (9, 0), (9, 0), (9, 0), (9, 0), (9, 0), (9, 0), (9, 0), (9, 0), (9, 0), (9, 0), (9, 0), (9, 0), (9, 0), (9, 0), (9, 0), (9, 0), (9, 0), (9, 0), (9, 0)] [] := by
  unfold f_L_isPlanned_839 at h
  refine el_iconst dL_isPlanned_839 (by decide) ?_
  refine el_goto (tgt := 844) dL_isPlanned_840 rfl ?_
  obtain rfl := Option.some.inj h
  exact el_zret dL_isPlanned_844 rfl (fun z => by cases z) ⟨rfl, rfl⟩ (chk_pos (.inr rfl))
set_option maxHeartbeats 4000000 in
set_option maxRecDepth 20000 in
theorem e_L_isPlanned_766 (m n N : Nat) (xs : Nat → Int32) (hmn : m ≤ 10 ∧ n ≤ 4) (hN : (N : Int) ≤ 2147483647) (σ : M2) (x3 x4 x14 : Int)  {q : (Int × M2)} (h : f_L_isPlanned_766 m n N xs σ x3 x4 x14 = some q) : El (xsh m n) (M_L_isPlanned N xs) (false, false) (181, nX m n) (181, nX m n) (some (0, q.1), lm m n q.2) 766 (lm m n σ) [(2, (0 : Int)), (9, 0), (9, 0), (0, x3), (0, x4), (9, 0), (9, 0), (9, 0), (9, 0), (9, 0), (9, 0), (9, 0), (9, 0), (9, 0), (0, x14), (9, 0), (9, 0), (9, 0), (9, 0), (9, 0), (9, 0), (9, 0)] [] := by
  unfold f_L_isPlanned_766 at h
  refine el_aload_n dL_isPlanned_766 rfl (by decide) ?_
  refine el_iload_n dL_isPlanned_767 rfl ?_
  refine el_iload dL_isPlanned_768 rfl ?_
  refine el_iconst dL_isPlanned_770 (by decide) ?_
  obtain ⟨v75, hc76, h⟩ := bind_of h
  refine el_invV (k := (0 : Int)) (av := [(0, x3), (0, x4), (0, (0 : Int))]) (st := []) (r2 := (some (0, v75.1), rho, v75.2)) dL_isPlanned_771 ml_L_58 mv_X10_plan (T := TX10) (ci := 9) rfl sp0 (by decide) (by decide) rfl ⟨Nat.le_of_ble_eq_true rfl, Nat.le_of_ble_eq_true rfl⟩ (Nat.le_of_ble_eq_true rfl) (c_X10_plan hc76) ⟨Nat.le_refl _, Nat.le_refl _⟩ ?_
  show El _ _ _ _ _ _ 774 (lm m n (v75.2, σ.2)) _ ((0, v75.1) :: [])
  refine el_iconst dL_isPlanned_774 (by decide) ?_
  refine el_icmp_ne (tgt := 793) dL_isPlanned_775 rfl h (fun cb h => ?_) (fun cb h => ?_)
  · refine el_aload_n dL_isPlanned_793 rfl (by decide) ?_
    refine el_iload_n dL_isPlanned_794 rfl ?_
    refine el_iload dL_isPlanned_795 rfl ?_
    obtain ⟨v77, hc78, h⟩ := bind_of h
    refine el_invV (k := (0 : Int)) (av := [(0, x3), (0, x4)]) (st := []) (r2 := (some (0, v77.1), rho, v77.2)) dL_isPlanned_797 ml_L_74 mv_X10_lawful (T := TX10) (ci := 9) rfl sp0 (by decide) (by decide) rfl ⟨Nat.le_of_ble_eq_true rfl, Nat.le_of_ble_eq_true rfl⟩ (Nat.le_of_ble_eq_true rfl) (c_X10_lawful hc78) ⟨Nat.le_refl _, Nat.le_refl _⟩ ?_
    show El _ _ _ _ _ _ 800 (lm m n (v77.2, (v75.2, σ.2).2)) _ ((0, v77.1) :: [])
    refine el_if_ne (tgt := 843) dL_isPlanned_800 rfl h (fun cb h => ?_) (fun cb h => ?_)
    · refine el_iconst dL_isPlanned_843 (by decide) ?_
      obtain rfl := Option.some.inj h
      exact el_zret dL_isPlanned_844 rfl (fun z => by cases z) ⟨rfl, rfl⟩ (chk_pos (.inl rfl))
    refine el_aload_n dL_isPlanned_803 rfl (by decide) ?_
    refine el_iload_n dL_isPlanned_804 rfl ?_
    refine el_iload dL_isPlanned_805 rfl ?_
    refine el_bipush dL_isPlanned_807 (by decide) (by decide) ?_
    obtain ⟨v79, hc80, h⟩ := bind_of h
    refine el_invV (k := (0 : Int)) (av := [(0, x3), (0, x4), (0, (6 : Int))]) (st := []) (r2 := (some (0, v79.1), rho, v79.2)) dL_isPlanned_809 ml_L_58 mv_X10_plan (T := TX10) (ci := 9) rfl sp0 (by decide) (by decide) rfl ⟨Nat.le_of_ble_eq_true rfl, Nat.le_of_ble_eq_true rfl⟩ (Nat.le_of_ble_eq_true rfl) (c_X10_plan hc80) ⟨Nat.le_refl _, Nat.le_refl _⟩ ?_
    show El _ _ _ _ _ _ 812 (lm m n (v79.2, (v77.2, (v75.2, σ.2).2).2)) _ ((0, v79.1) :: [])
    refine el_iload dL_isPlanned_812 rfl ?_
    refine el_iand dL_isPlanned_814 ?_
    refine el_aload_n dL_isPlanned_815 rfl (by decide) ?_
    refine el_iload_n dL_isPlanned_816 rfl ?_
    refine el_iload dL_isPlanned_817 rfl ?_
    refine el_bipush dL_isPlanned_819 (by decide) (by decide) ?_
    show El _ _ _ _ _ _ 821 _ _ _
    obtain ⟨v81, hc82, h⟩ := bind_of h
    refine el_invV (k := (0 : Int)) (av := [(0, x3), (0, x4), (0, (6 : Int))]) (st := [(0, (jand v79.1 x14))]) (r2 := (some (0, v81.1), rho, v81.2)) dL_isPlanned_821 ml_L_58 mv_X10_plan (T := TX10) (ci := 9) rfl sp0 (by decide) (by decide) rfl ⟨Nat.le_of_ble_eq_true rfl, Nat.le_of_ble_eq_true rfl⟩ (Nat.le_of_ble_eq_true rfl) (c_X10_plan hc82) ⟨Nat.le_refl _, Nat.le_refl _⟩ ?_
    show El _ _ _ _ _ _ 824 (lm m n (v81.2, (v79.2, (v77.2, (v75.2, σ.2).2).2).2)) _ ((0, v81.1) :: [(0, (jand v79.1 x14))])
    refine el_icmp_ne (tgt := 843) dL_isPlanned_824 rfl h (fun cb h => ?_) (fun cb h => ?_)
    · refine el_iconst dL_isPlanned_843 (by decide) ?_
      obtain rfl := Option.some.inj h
      exact el_zret dL_isPlanned_844 rfl (fun z => by cases z) ⟨rfl, rfl⟩ (chk_pos (.inl rfl))
    refine el_aload_n dL_isPlanned_827 rfl (by decide) ?_
    refine el_iload_n dL_isPlanned_828 rfl ?_
    refine el_iload dL_isPlanned_829 rfl ?_
    refine el_bipush dL_isPlanned_831 (by decide) (by decide) ?_
    obtain ⟨v83, hc84, h⟩ := bind_of h
    refine el_invV (k := (0 : Int)) (av := [(0, x3), (0, x4), (0, (6 : Int))]) (st := []) (r2 := (some (0, v83.1), rho, v83.2)) dL_isPlanned_833 ml_L_58 mv_X10_plan (T := TX10) (ci := 9) rfl sp0 (by decide) (by decide) rfl ⟨Nat.le_of_ble_eq_true rfl, Nat.le_of_ble_eq_true rfl⟩ (Nat.le_of_ble_eq_true rfl) (c_X10_plan hc84) ⟨Nat.le_refl _, Nat.le_refl _⟩ ?_
    show El _ _ _ _ _ _ 836 (lm m n (v83.2, (v81.2, (v79.2, (v77.2, (v75.2, σ.2).2).2).2).2)) _ ((0, v83.1) :: [])
    refine el_if_eq (tgt := 843) dL_isPlanned_836 rfl h (fun cb h => ?_) (fun cb h => ?_)
    · refine el_iconst dL_isPlanned_843 (by decide) ?_
      obtain rfl := Option.some.inj h
      exact el_zret dL_isPlanned_844 rfl (fun z => by cases z) ⟨rfl, rfl⟩ (chk_pos (.inl rfl))
    exact el_sub (L2 := [(9, 0), (9, 0), (9, 0), (9, 0), (9, 0), (9, 0), (9, 0), (9, 0), (9, 0), (9, 0), (9, 0), (9, 0), (9, 0), (9, 0), (9, 0), (9, 0), (9, 0), (9, 0), (9, 0), (9, 0), (9, 0), (9, 0)]) (e_L_isPlanned_839 m n N xs hmn hN (v83.2, (v81.2, (v79.2, (v77.2, (v75.2, σ.2).2).2).2).2) h) ⟨.inl rfl, .inl rfl, .inl rfl, .inl rfl, .inl rfl, .inl rfl, .inl rfl, .inl rfl, .inl rfl, .inl rfl, .inl rfl, .inl rfl, .inl rfl, .inl rfl, .inl rfl, .inl rfl, .inl rfl, .inl rfl, .inl rfl, .inl rfl, .inl rfl, .inl rfl, trivial⟩
  refine el_aload_n dL_isPlanned_778 rfl (by decide) ?_
  refine el_iload_n dL_isPlanned_779 rfl ?_
  refine el_iload dL_isPlanned_780 rfl ?_
  refine el_bipush dL_isPlanned_782 (by decide) (by decide) ?_
  obtain ⟨v85, hc86, h⟩ := bind_of h
  refine el_invV (k := (0 : Int)) (av := [(0, x3), (0, x4), (0, (6 : Int))]) (st := []) (r2 := (some (0, v85.1), rho, v85.2)) dL_isPlanned_784 ml_L_58 mv_X10_plan (T := TX10) (ci := 9) rfl sp0 (by decide) (by decide) rfl ⟨Nat.le_of_ble_eq_true rfl, Nat.le_of_ble_eq_true rfl⟩ (Nat.le_of_ble_eq_true rfl) (c_X10_plan hc86) ⟨Nat.le_refl _, Nat.le_refl _⟩ ?_
  show El _ _ _ _ _ _ 787 (lm m n (v85.2, (v75.2, σ.2).2)) _ ((0, v85.1) :: [])
  refine el_if_ne (tgt := 843) dL_isPlanned_787 rfl h (fun cb h => ?_) (fun cb h => ?_)
  · refine el_iconst dL_isPlanned_843 (by decide) ?_
    obtain rfl := Option.some.inj h
    exact el_zret dL_isPlanned_844 rfl (fun z => by cases z) ⟨rfl, rfl⟩ (chk_pos (.inl rfl))
  refine el_goto (tgt := 839) dL_isPlanned_790 rfl ?_
  exact el_sub (L2 := [(9, 0), (9, 0), (9, 0), (9, 0), (9, 0), (9, 0), (9, 0), (9, 0), (9, 0), (9, 0), (9, 0), (9, 0), (9, 0), (9, 0), (9, 0), (9, 0), (9, 0), (9, 0), (9, 0), (9, 0), (9, 0), (9, 0)]) (e_L_isPlanned_839 m n N xs hmn hN (v85.2, (v75.2, σ.2).2) h) ⟨.inl rfl, .inl rfl, .inl rfl, .inl rfl, .inl rfl, .inl rfl, .inl rfl, .inl rfl, .inl rfl, .inl rfl, .inl rfl, .inl rfl, .inl rfl, .inl rfl, .inl rfl, .inl rfl, .inl rfl, .inl rfl, .inl rfl, .inl rfl, .inl rfl, .inl rfl, trivial⟩
set_option maxHeartbeats 4000000 in
set_option maxRecDepth 20000 in
theorem e_L_isPlanned_746 (m n N : Nat) (xs : Nat → Int32) (hmn : m ≤ 10 ∧ n ≤ 4) (hN : (N : Int) ≤ 2147483647) (σ : M2) (x3 x4 x9 x10 x14 : Int)  {q : (Int × M2)} (h : f_L_isPlanned_746 m n N xs σ x3 x4 x9 x10 x14 = some q) : El (xsh m n) (M_L_isPlanned N xs) (false, false) (181, nX m n) (181, nX m n) (some (0, q.1), lm m n q.2) 746 (lm m n σ) [(2, (0 : Int)), (9, 0), (9, 0), (0, x3), (0, x4), (9, 0), (9, 0), (9, 0), (9, 0), (0, x9), (0, x10), (9, 0), (9, 0), (9, 0), (0, x14), (9, 0), (9, 0), (9, 0), (9, 0), (9, 0), (9, 0), (9, 0)] [] := by
  unfold f_L_isPlanned_746 at h
  refine el_iload dL_isPlanned_746 rfl ?_
  refine el_if_eq (tgt := 843) dL_isPlanned_748 rfl h (fun cb h => ?_) (fun cb h => ?_)
  · refine el_iconst dL_isPlanned_843 (by decide) ?_
    obtain rfl := Option.some.inj h
    exact el_zret dL_isPlanned_844 rfl (fun z => by cases z) ⟨rfl, rfl⟩ (chk_pos (.inl rfl))
  refine el_iload dL_isPlanned_751 rfl ?_
  refine el_if_lt (tgt := 766) dL_isPlanned_753 rfl h (fun cb h => ?_) (fun cb h => ?_)
  · exact el_sub (L2 := [(2, (0 : Int)), (9, 0), (9, 0), (0, x3), (0, x4), (9, 0), (9, 0), (9, 0), (9, 0), (9, 0), (9, 0), (9, 0), (9, 0), (9, 0), (0, x14), (9, 0), (9, 0), (9, 0), (9, 0), (9, 0), (9, 0), (9, 0)]) (e_L_isPlanned_766 m n N xs hmn hN σ x3 x4 x14 h) ⟨.inr rfl, .inl rfl, .inl rfl, .inr rfl, .inr rfl, .inl rfl, .inl rfl, .inl rfl, .inl rfl, .inl rfl, .inl rfl, .inl rfl, .inl rfl, .inl rfl, .inr rfl, .inl rfl, .inl rfl, .inl rfl, .inl rfl, .inl rfl, .inl rfl, .inl rfl, trivial⟩
  refine el_aload_n dL_isPlanned_756 rfl (by decide) ?_
  refine el_iload_n dL_isPlanned_757 rfl ?_
  refine el_iload dL_isPlanned_758 rfl ?_
  obtain ⟨v73, hc74, h⟩ := bind_of h
  refine el_invV (k := (0 : Int)) (av := [(0, x3), (0, x4)]) (st := []) (r2 := (some (0, v73.1), rho, v73.2)) dL_isPlanned_760 ml_L_74 mv_X10_lawful (T := TX10) (ci := 9) rfl sp0 (by decide) (by decide) rfl ⟨Nat.le_of_ble_eq_true rfl, Nat.le_of_ble_eq_true rfl⟩ (Nat.le_of_ble_eq_true rfl) (c_X10_lawful hc74) ⟨Nat.le_refl _, Nat.le_refl _⟩ ?_
  show El _ _ _ _ _ _ 763 (lm m n (v73.2, σ.2)) _ ((0, v73.1) :: [])
  refine el_if_ne (tgt := 843) dL_isPlanned_763 rfl h (fun cb h => ?_) (fun cb h => ?_)
  · refine el_iconst dL_isPlanned_843 (by decide) ?_
    obtain rfl := Option.some.inj h
    exact el_zret dL_isPlanned_844 rfl (fun z => by cases z) ⟨rfl, rfl⟩ (chk_pos (.inl rfl))
  exact el_sub (L2 := [(2, (0 : Int)), (9, 0), (9, 0), (0, x3), (0, x4), (9, 0), (9, 0), (9, 0), (9, 0), (9, 0), (9, 0), (9, 0), (9, 0), (9, 0), (0, x14), (9, 0), (9, 0), (9, 0), (9, 0), (9, 0), (9, 0), (9, 0)]) (e_L_isPlanned_766 m n N xs hmn hN (v73.2, σ.2) x3 x4 x14 h) ⟨.inr rfl, .inl rfl, .inl rfl, .inr rfl, .inr rfl, .inl rfl, .inl rfl, .inl rfl, .inl rfl, .inl rfl, .inl rfl, .inl rfl, .inl rfl, .inl rfl, .inr rfl, .inl rfl, .inl rfl, .inl rfl, .inl rfl, .inl rfl, .inl rfl, .inl rfl, trivial⟩
set_option maxHeartbeats 4000000 in
set_option maxRecDepth 20000 in
theorem e_L_isPlanned_744 (m n N : Nat) (xs : Nat → Int32) (hmn : m ≤ 10 ∧ n ≤ 4) (hN : (N : Int) ≤ 2147483647) (σ : M2) (x3 x4 x9 x14 s0 : Int)  {q : (Int × M2)} (h : f_L_isPlanned_744 m n N xs σ x3 x4 x9 x14 s0 = some q) : El (xsh m n) (M_L_isPlanned N xs) (false, false) (181, nX m n) (181, nX m n) (some (0, q.1), lm m n q.2) 744 (lm m n σ) [(2, (0 : Int)), (9, 0), (9, 0), (0, x3), (0, x4), (9, 0), (9, 0), (9, 0), (9, 0), (0, x9), (9, 0), (9, 0), (9, 0), (9, 0), (0, x14), (9, 0), (9, 0), (9, 0), (9, 0), (9, 0), (9, 0), (9, 0)] [(0, s0)] := by
  unfold f_L_isPlanned_744 at h
  refine el_istore dL_isPlanned_744 rfl (Nat.le_of_ble_eq_true rfl) ?_
  show El _ _ _ _ _ _ 746 _ [(2, (0 : Int)), (9, 0), (9, 0), (0, x3), (0, x4), (9, 0), (9, 0), (9, 0), (9, 0), (0, x9), (0, s0), (9, 0), (9, 0), (9, 0), (0, x14), (9, 0), (9, 0), (9, 0), (9, 0), (9, 0), (9, 0), (9, 0)] _
  exact el_sub (L2 := [(2, (0 : Int)), (9, 0), (9, 0), (0, x3), (0, x4), (9, 0), (9, 0), (9, 0), (9, 0), (0, x9), (0, s0), (9, 0), (9, 0), (9, 0), (0, x14), (9, 0), (9, 0), (9, 0), (9, 0), (9, 0), (9, 0), (9, 0)]) (e_L_isPlanned_746 m n N xs hmn hN σ x3 x4 x9 s0 x14 h) ⟨.inr rfl, .inl rfl, .inl rfl, .inr rfl, .inr rfl, .inl rfl, .inl rfl, .inl rfl, .inl rfl, .inr rfl, .inr rfl, .inl rfl, .inl rfl, .inl rfl, .inr rfl, .inl rfl, .inl rfl, .inl rfl, .inl rfl, .inl rfl, .inl rfl, .inl rfl, trivial⟩
set_option maxHeartbeats 4000000 in
set_option maxRecDepth 20000 in
theorem e_L_isPlanned_743 (m n N : Nat) (xs : Nat → Int32) (hmn : m ≤ 10 ∧ n ≤ 4) (hN : (N : Int) ≤ 2147483647) (σ : M2) (x3 x4 x9 x14 : Int)  {q : (Int × M2)} (h : f_L_isPlanned_743 m n N xs σ x3 x4 x9 x14 = some q) : El (xsh m n) (M_L_isPlanned N xs) (false, false) (181, nX m n) (181, nX m n) (some (0, q.1), lm m n q.2) 743 (lm m n σ) [(2, (0 : Int)), (9, 0), (9, 0), (0, x3), (0, x4), (9, 0), (9, 0), (9, 0), (9, 0), (0, x9), (9, 0), (9, 0), (9, 0), (9, 0), (0, x14), (9, 0), (9, 0), (9, 0), (9, 0), (9, 0), (9, 0), (9, 0)] [] := by
  unfold f_L_isPlanned_743 at h
  refine el_iconst dL_isPlanned_743 (by decide) ?_
  exact el_sub (L2 := [(2, (0 : Int)), (9, 0), (9, 0), (0, x3), (0, x4), (9, 0), (9, 0), (9, 0), (9, 0), (0, x9), (9, 0), (9, 0), (9, 0), (9, 0), (0, x14), (9, 0), (9, 0), (9, 0), (9, 0), (9, 0), (9, 0), (9, 0)]) (e_L_isPlanned_744 m n N xs hmn hN σ x3 x4 x9 x14 (0 : Int) h) ⟨.inr rfl, .inl rfl, .inl rfl, .inr rfl, .inr rfl, .inl rfl, .inl rfl, .inl rfl, .inl rfl, .inr rfl, .inl rfl, .inl rfl, .inl rfl, .inl rfl, .inr rfl, .inl rfl, .inl rfl, .inl rfl, .inl rfl, .inl rfl, .inl rfl, .inl rfl, trivial⟩
set_option maxHeartbeats 4000000 in
set_option maxRecDepth 20000 in
theorem e_L_isPlanned_650 (m n N : Nat) (xs : Nat → Int32) (hmn : m ≤ 10 ∧ n ≤ 4) (hN : (N : Int) ≤ 2147483647) (σ : M2) (x3 x4 x8 x9 x14 x15 s0 : Int)  {q : (Int × M2)} (h : f_L_isPlanned_650 m n N xs σ x3 x4 x8 x9 x14 x15 s0 = some q) : El (xsh m n) (M_L_isPlanned N xs) (false, false) (181, nX m n) (181, nX m n) (some (0, q.1), lm m n q.2) 650 (lm m n σ) [(2, (0 : Int)), (9, 0), (9, 0), (0, x3), (0, x4), (9, 0), (9, 0), (9, 0), (0, x8), (0, x9), (9, 0), (9, 0), (9, 0), (9, 0), (0, x14), (0, x15), (9, 0), (9, 0), (9, 0), (9, 0), (9, 0), (9, 0)] [(0, s0)] := by
  unfold f_L_isPlanned_650 at h
  refine el_istore dL_isPlanned_650 rfl (Nat.le_of_ble_eq_true rfl) ?_
  show El _ _ _ _ _ _ 652 _ [(2, (0 : Int)), (9, 0), (9, 0), (0, x3), (0, x4), (9, 0), (9, 0), (9, 0), (0, x8), (0, x9), (0, s0), (9, 0), (9, 0), (9, 0), (0, x14), (0, x15), (9, 0), (9, 0), (9, 0), (9, 0), (9, 0), (9, 0)] _
  refine el_iload dL_isPlanned_652 rfl ?_
  refine el_if_ge (tgt := 746) dL_isPlanned_654 rfl h (fun cb h => ?_) (fun cb h => ?_)
  · exact el_sub (L2 := [(2, (0 : Int)), (9, 0), (9, 0), (0, x3), (0, x4), (9, 0), (9, 0), (9, 0), (9, 0), (0, x9), (0, s0), (9, 0), (9, 0), (9, 0), (0, x14), (9, 0), (9, 0), (9, 0), (9, 0), (9, 0), (9, 0), (9, 0)]) (e_L_isPlanned_746 m n N xs hmn hN σ x3 x4 x9 s0 x14 h) ⟨.inr rfl, .inl rfl, .inl rfl, .inr rfl, .inr rfl, .inl rfl, .inl rfl, .inl rfl, .inl rfl, .inr rfl, .inr rfl, .inl rfl, .inl rfl, .inl rfl, .inr rfl, .inl rfl, .inl rfl, .inl rfl, .inl rfl, .inl rfl, .inl rfl, .inl rfl, trivial⟩
  refine el_aload_n dL_isPlanned_657 rfl (by decide) ?_
  refine el_iload_n dL_isPlanned_658 rfl ?_
  refine el_iload dL_isPlanned_659 rfl ?_
  refine el_iconst dL_isPlanned_661 (by decide) ?_
  obtain ⟨v61, hc62, h⟩ := bind_of h
  refine el_invV (k := (0 : Int)) (av := [(0, x3), (0, x4), (0, (0 : Int))]) (st := []) (r2 := (some (0, v61.1), rho, v61.2)) dL_isPlanned_662 ml_L_58 mv_X10_plan (T := TX10) (ci := 9) rfl sp0 (by decide) (by decide) rfl ⟨Nat.le_of_ble_eq_true rfl, Nat.le_of_ble_eq_true rfl⟩ (Nat.le_of_ble_eq_true rfl) (c_X10_plan hc62) ⟨Nat.le_refl _, Nat.le_refl _⟩ ?_
  show El _ _ _ _ _ _ 665 (lm m n (v61.2, σ.2)) _ ((0, v61.1) :: [])
  refine el_iconst dL_isPlanned_665 (by decide) ?_
  refine el_icmp_ne (tgt := 746) dL_isPlanned_666 rfl h (fun cb h => ?_) (fun cb h => ?_)
  · exact el_sub (L2 := [(2, (0 : Int)), (9, 0), (9, 0), (0, x3), (0, x4), (9, 0), (9, 0), (9, 0), (9, 0), (0, x9), (0, s0), (9, 0), (9, 0), (9, 0), (0, x14), (9, 0), (9, 0), (9, 0), (9, 0), (9, 0), (9, 0), (9, 0)]) (e_L_isPlanned_746 m n N xs hmn hN (v61.2, σ.2) x3 x4 x9 s0 x14 h) ⟨.inr rfl, .inl rfl, .inl rfl, .inr rfl, .inr rfl, .inl rfl, .inl rfl, .inl rfl, .inl rfl, .inr rfl, .inr rfl, .inl rfl, .inl rfl, .inl rfl, .inr rfl, .inl rfl, .inl rfl, .inl rfl, .inl rfl, .inl rfl, .inl rfl, .inl rfl, trivial⟩
  refine el_iload dL_isPlanned_669 rfl ?_
  refine el_if_le (tgt := 746) dL_isPlanned_671 rfl h (fun cb h => ?_) (fun cb h => ?_)
  · exact el_sub (L2 := [(2, (0 : Int)), (9, 0), (9, 0), (0, x3), (0, x4), (9, 0), (9, 0), (9, 0), (9, 0), (0, x9), (0, s0), (9, 0), (9, 0), (9, 0), (0, x14), (9, 0), (9, 0), (9, 0), (9, 0), (9, 0), (9, 0), (9, 0)]) (e_L_isPlanned_746 m n N xs hmn hN (v61.2, σ.2) x3 x4 x9 s0 x14 h) ⟨.inr rfl, .inl rfl, .inl rfl, .inr rfl, .inr rfl, .inl rfl, .inl rfl, .inl rfl, .inl rfl, .inr rfl, .inr rfl, .inl rfl, .inl rfl, .inl rfl, .inr rfl, .inl rfl, .inl rfl, .inl rfl, .inl rfl, .inl rfl, .inl rfl, .inl rfl, trivial⟩
  refine el_iload dL_isPlanned_674 rfl ?_
  refine el_if_eq (tgt := 743) dL_isPlanned_676 rfl h (fun cb h => ?_) (fun cb h => ?_)
  · exact el_sub (L2 := [(2, (0 : Int)), (9, 0), (9, 0), (0, x3), (0, x4), (9, 0), (9, 0), (9, 0), (9, 0), (0, x9), (9, 0), (9, 0), (9, 0), (9, 0), (0, x14), (9, 0), (9, 0), (9, 0), (9, 0), (9, 0), (9, 0), (9, 0)]) (e_L_isPlanned_743 m n N xs hmn hN (v61.2, σ.2) x3 x4 x9 x14 h) ⟨.inr rfl, .inl rfl, .inl rfl, .inr rfl, .inr rfl, .inl rfl, .inl rfl, .inl rfl, .inl rfl, .inr rfl, .inl rfl, .inl rfl, .inl rfl, .inl rfl, .inr rfl, .inl rfl, .inl rfl, .inl rfl, .inl rfl, .inl rfl, .inl rfl, .inl rfl, trivial⟩
  refine el_aload_n dL_isPlanned_679 rfl (by decide) ?_
  refine el_iload_n dL_isPlanned_680 rfl ?_
  refine el_iload dL_isPlanned_681 rfl ?_
  obtain ⟨v63, hc64, h⟩ := bind_of h
  refine el_invV (k := (0 : Int)) (av := [(0, x3), (0, x4)]) (st := []) (r2 := (some (0, v63.1), rho, v63.2)) dL_isPlanned_683 ml_L_74 mv_X10_lawful (T := TX10) (ci := 9) rfl sp0 (by decide) (by decide) rfl ⟨Nat.le_of_ble_eq_true rfl, Nat.le_of_ble_eq_true rfl⟩ (Nat.le_of_ble_eq_true rfl) (c_X10_lawful hc64) ⟨Nat.le_refl _, Nat.le_refl _⟩ ?_
  show El _ _ _ _ _ _ 686 (lm m n (v63.2, (v61.2, σ.2).2)) _ ((0, v63.1) :: [])
  refine el_if_le (tgt := 743) dL_isPlanned_686 rfl h (fun cb h => ?_) (fun cb h => ?_)
  · exact el_sub (L2 := [(2, (0 : Int)), (9, 0), (9, 0), (0, x3), (0, x4), (9, 0), (9, 0), (9, 0), (9, 0), (0, x9), (9, 0), (9, 0), (9, 0), (9, 0), (0, x14), (9, 0), (9, 0), (9, 0), (9, 0), (9, 0), (9, 0), (9, 0)]) (e_L_isPlanned_743 m n N xs hmn hN (v63.2, (v61.2, σ.2).2) x3 x4 x9 x14 h) ⟨.inr rfl, .inl rfl, .inl rfl, .inr rfl, .inr rfl, .inl rfl, .inl rfl, .inl rfl, .inl rfl, .inr rfl, .inl rfl, .inl rfl, .inl rfl, .inl rfl, .inr rfl, .inl rfl, .inl rfl, .inl rfl, .inl rfl, .inl rfl, .inl rfl, .inl rfl, trivial⟩
  refine el_aload_n dL_isPlanned_689 rfl (by decide) ?_
  refine el_iload_n dL_isPlanned_690 rfl ?_
  refine el_iload dL_isPlanned_691 rfl ?_
  refine el_iconst dL_isPlanned_693 (by decide) ?_
  obtain ⟨v65, hc66, h⟩ := bind_of h
  refine el_invV (k := (0 : Int)) (av := [(0, x3), (0, x4), (0, (0 : Int))]) (st := []) (r2 := (some (0, v65.1), rho, v65.2)) dL_isPlanned_694 ml_L_77 mv_X10_measure (T := TX10) (ci := 9) rfl sp0 (by decide) (by decide) rfl ⟨Nat.le_of_ble_eq_true rfl, Nat.le_of_ble_eq_true rfl⟩ (Nat.le_of_ble_eq_true rfl) (c_X10_measure hc66) ⟨Nat.le_refl _, Nat.le_refl _⟩ ?_
  show El _ _ _ _ _ _ 697 (lm m n (v65.2, (v63.2, (v61.2, σ.2).2).2)) _ ((0, v65.1) :: [])
  refine el_iload dL_isPlanned_697 rfl ?_
  refine el_icmp_ne (tgt := 743) dL_isPlanned_699 rfl h (fun cb h => ?_) (fun cb h => ?_)
  · exact el_sub (L2 := [(2, (0 : Int)), (9, 0), (9, 0), (0, x3), (0, x4), (9, 0), (9, 0), (9, 0), (9, 0), (0, x9), (9, 0), (9, 0), (9, 0), (9, 0), (0, x14), (9, 0), (9, 0), (9, 0), (9, 0), (9, 0), (9, 0), (9, 0)]) (e_L_isPlanned_743 m n N xs hmn hN (v65.2, (v63.2, (v61.2, σ.2).2).2) x3 x4 x9 x14 h) ⟨.inr rfl, .inl rfl, .inl rfl, .inr rfl, .inr rfl, .inl rfl, .inl rfl, .inl rfl, .inl rfl, .inr rfl, .inl rfl, .inl rfl, .inl rfl, .inl rfl, .inr rfl, .inl rfl, .inl rfl, .inl rfl, .inl rfl, .inl rfl, .inl rfl, .inl rfl, trivial⟩
  refine el_aload_n dL_isPlanned_702 rfl (by decide) ?_
  refine el_iload_n dL_isPlanned_703 rfl ?_
  refine el_iload dL_isPlanned_704 rfl ?_
  refine el_iconst dL_isPlanned_706 (by decide) ?_
  refine el_iconst dL_isPlanned_707 (by decide) ?_
  obtain ⟨v67, hc68, h⟩ := bind_of h
  refine el_invV (k := (0 : Int)) (av := [(0, x3), (0, x4), (0, (0 : Int)), (0, (-1 : Int))]) (st := []) (r2 := (some (0, v67.1), rho, v67.2)) dL_isPlanned_708 ml_L_80 mv_X10_best (T := TX10) (ci := 9) rfl sp0 (by decide) (by decide) rfl ⟨Nat.le_of_ble_eq_true rfl, Nat.le_of_ble_eq_true rfl⟩ (Nat.le_of_ble_eq_true rfl) (c_X10_best hc68) ⟨Nat.le_refl _, Nat.le_refl _⟩ ?_
  show El _ _ _ _ _ _ 711 (lm m n (v67.2, (v65.2, (v63.2, (v61.2, σ.2).2).2).2)) _ ((0, v67.1) :: [])
  refine el_iload dL_isPlanned_711 rfl ?_
  refine el_icmp_ne (tgt := 743) dL_isPlanned_713 rfl h (fun cb h => ?_) (fun cb h => ?_)
  · exact el_sub (L2 := [(2, (0 : Int)), (9, 0), (9, 0), (0, x3), (0, x4), (9, 0), (9, 0), (9, 0), (9, 0), (0, x9), (9, 0), (9, 0), (9, 0), (9, 0), (0, x14), (9, 0), (9, 0), (9, 0), (9, 0), (9, 0), (9, 0), (9, 0)]) (e_L_isPlanned_743 m n N xs hmn hN (v67.2, (v65.2, (v63.2, (v61.2, σ.2).2).2).2) x3 x4 x9 x14 h) ⟨.inr rfl, .inl rfl, .inl rfl, .inr rfl, .inr rfl, .inl rfl, .inl rfl, .inl rfl, .inl rfl, .inr rfl, .inl rfl, .inl rfl, .inl rfl, .inl rfl, .inr rfl, .inl rfl, .inl rfl, .inl rfl, .inl rfl, .inl rfl, .inl rfl, .inl rfl, trivial⟩
  refine el_aload_n dL_isPlanned_716 rfl (by decide) ?_
  refine el_iload_n dL_isPlanned_717 rfl ?_
  refine el_iload dL_isPlanned_718 rfl ?_
  refine el_iconst dL_isPlanned_720 (by decide) ?_
  obtain ⟨v69, hc70, h⟩ := bind_of h
  refine el_invV (k := (0 : Int)) (av := [(0, x3), (0, x4), (0, (1 : Int))]) (st := []) (r2 := (some (0, v69.1), rho, v69.2)) dL_isPlanned_721 ml_L_77 mv_X10_measure (T := TX10) (ci := 9) rfl sp0 (by decide) (by decide) rfl ⟨Nat.le_of_ble_eq_true rfl, Nat.le_of_ble_eq_true rfl⟩ (Nat.le_of_ble_eq_true rfl) (c_X10_measure hc70) ⟨Nat.le_refl _, Nat.le_refl _⟩ ?_
  show El _ _ _ _ _ _ 724 (lm m n (v69.2, (v67.2, (v65.2, (v63.2, (v61.2, σ.2).2).2).2).2)) _ ((0, v69.1) :: [])
  refine el_aload_n dL_isPlanned_724 rfl (by decide) ?_
  refine el_iload_n dL_isPlanned_725 rfl ?_
  refine el_iload dL_isPlanned_726 rfl ?_
  refine el_iload dL_isPlanned_728 rfl ?_
  refine el_iconst dL_isPlanned_730 (by decide) ?_
  refine el_isub dL_isPlanned_731 ?_
  show El _ _ _ _ _ _ 732 _ _ _
  refine el_iconst dL_isPlanned_732 (by decide) ?_
  obtain ⟨v71, hc72, h⟩ := bind_of h
  refine el_invV (k := (0 : Int)) (av := [(0, x3), (0, x4), (0, (jsub x8 (1 : Int))), (0, (2 : Int))]) (st := [(0, v69.1)]) (r2 := (some (0, v71.1), rho, v71.2)) dL_isPlanned_733 ml_L_67 mv_X10_sits (T := TX10) (ci := 9) rfl sp0 (by decide) (by decide) rfl ⟨Nat.le_of_ble_eq_true rfl, Nat.le_of_ble_eq_true rfl⟩ (Nat.le_of_ble_eq_true rfl) (c_X10_sits hc72) ⟨Nat.le_refl _, Nat.le_refl _⟩ ?_
  show El _ _ _ _ _ _ 736 (lm m n (v71.2, (v69.2, (v67.2, (v65.2, (v63.2, (v61.2, σ.2).2).2).2).2).2)) _ ((0, v71.1) :: [(0, v69.1)])
  refine el_icmp_ne (tgt := 743) dL_isPlanned_736 rfl h (fun cb h => ?_) (fun cb h => ?_)
  · exact el_sub (L2 := [(2, (0 : Int)), (9, 0), (9, 0), (0, x3), (0, x4), (9, 0), (9, 0), (9, 0), (9, 0), (0, x9), (9, 0), (9, 0), (9, 0), (9, 0), (0, x14), (9, 0), (9, 0), (9, 0), (9, 0), (9, 0), (9, 0), (9, 0)]) (e_L_isPlanned_743 m n N xs hmn hN (v71.2, (v69.2, (v67.2, (v65.2, (v63.2, (v61.2, σ.2).2).2).2).2).2) x3 x4 x9 x14 h) ⟨.inr rfl, .inl rfl, .inl rfl, .inr rfl, .inr rfl, .inl rfl, .inl rfl, .inl rfl, .inl rfl, .inr rfl, .inl rfl, .inl rfl, .inl rfl, .inl rfl, .inr rfl, .inl rfl, .inl rfl, .inl rfl, .inl rfl, .inl rfl, .inl rfl, .inl rfl, trivial⟩
  refine el_iconst dL_isPlanned_739 (by decide) ?_
  refine el_goto (tgt := 744) dL_isPlanned_740 rfl ?_
  exact el_sub (L2 := [(2, (0 : Int)), (9, 0), (9, 0), (0, x3), (0, x4), (9, 0), (9, 0), (9, 0), (9, 0), (0, x9), (9, 0), (9, 0), (9, 0), (9, 0), (0, x14), (9, 0), (9, 0), (9, 0), (9, 0), (9, 0), (9, 0), (9, 0)]) (e_L_isPlanned_744 m n N xs hmn hN (v71.2, (v69.2, (v67.2, (v65.2, (v63.2, (v61.2, σ.2).2).2).2).2).2) x3 x4 x9 x14 (1 : Int) h) ⟨.inr rfl, .inl rfl, .inl rfl, .inr rfl, .inr rfl, .inl rfl, .inl rfl, .inl rfl, .inl rfl, .inr rfl, .inl rfl, .inl rfl, .inl rfl, .inl rfl, .inr rfl, .inl rfl, .inl rfl, .inl rfl, .inl rfl, .inl rfl, .inl rfl, .inl rfl, trivial⟩
set_option maxHeartbeats 4000000 in
set_option maxRecDepth 20000 in
theorem e_L_isPlanned_649 (m n N : Nat) (xs : Nat → Int32) (hmn : m ≤ 10 ∧ n ≤ 4) (hN : (N : Int) ≤ 2147483647) (σ : M2) (x3 x4 x8 x9 x14 x15 : Int)  {q : (Int × M2)} (h : f_L_isPlanned_649 m n N xs σ x3 x4 x8 x9 x14 x15 = some q) : El (xsh m n) (M_L_isPlanned N xs) (false, false) (181, nX m n) (181, nX m n) (some (0, q.1), lm m n q.2) 649 (lm m n σ) [(2, (0 : Int)), (9, 0), (9, 0), (0, x3), (0, x4), (9, 0), (9, 0), (9, 0), (0, x8), (0, x9), (9, 0), (9, 0), (9, 0), (9, 0), (0, x14), (0, x15), (9, 0), (9, 0), (9, 0), (9, 0), (9, 0), (9, 0)] [] := by
  unfold f_L_isPlanned_649 at h
  refine el_iconst dL_isPlanned_649 (by decide) ?_
  exact el_sub (L2 := [(2, (0 : Int)), (9, 0), (9, 0), (0, x3), (0, x4), (9, 0), (9, 0), (9, 0), (0, x8), (0, x9), (9, 0), (9, 0), (9, 0), (9, 0), (0, x14), (0, x15), (9, 0), (9, 0), (9, 0), (9, 0), (9, 0), (9, 0)]) (e_L_isPlanned_650 m n N xs hmn hN σ x3 x4 x8 x9 x14 x15 (0 : Int) h) ⟨.inr rfl, .inl rfl, .inl rfl, .inr rfl, .inr rfl, .inl rfl, .inl rfl, .inl rfl, .inr rfl, .inr rfl, .inl rfl, .inl rfl, .inl rfl, .inl rfl, .inr rfl, .inr rfl, .inl rfl, .inl rfl, .inl rfl, .inl rfl, .inl rfl, .inl rfl, trivial⟩
set_option maxHeartbeats 4000000 in
set_option maxRecDepth 20000 in
theorem e_L_isPlanned_627 (m n N : Nat) (xs : Nat → Int32) (hmn : m ≤ 10 ∧ n ≤ 4) (hN : (N : Int) ≤ 2147483647) (σ : M2) (x3 x4 x8 x9 x10 x14 x15 : Int)  {q : (Int × M2)} (h : f_L_isPlanned_627 m n N xs σ x3 x4 x8 x9 x10 x14 x15 = some q) : El (xsh m n) (M_L_isPlanned N xs) (false, false) (181, nX m n) (181, nX m n) (some (0, q.1), lm m n q.2) 627 (lm m n σ) [(2, (0 : Int)), (9, 0), (9, 0), (0, x3), (0, x4), (9, 0), (9, 0), (9, 0), (0, x8), (0, x9), (0, x10), (9, 0), (9, 0), (9, 0), (0, x14), (0, x15), (9, 0), (9, 0), (9, 0), (9, 0), (9, 0), (9, 0)] [] := by
  unfold f_L_isPlanned_627 at h
  refine el_iload dL_isPlanned_627 rfl ?_
  refine el_if_eq (tgt := 649) dL_isPlanned_629 rfl h (fun cb h => ?_) (fun cb h => ?_)
  · exact el_sub (L2 := [(2, (0 : Int)), (9, 0), (9, 0), (0, x3), (0, x4), (9, 0), (9, 0), (9, 0), (0, x8), (0, x9), (9, 0), (9, 0), (9, 0), (9, 0), (0, x14), (0, x15), (9, 0), (9, 0), (9, 0), (9, 0), (9, 0), (9, 0)]) (e_L_isPlanned_649 m n N xs hmn hN σ x3 x4 x8 x9 x14 x15 h) ⟨.inr rfl, .inl rfl, .inl rfl, .inr rfl, .inr rfl, .inl rfl, .inl rfl, .inl rfl, .inr rfl, .inr rfl, .inl rfl, .inl rfl, .inl rfl, .inl rfl, .inr rfl, .inr rfl, .inl rfl, .inl rfl, .inl rfl, .inl rfl, .inl rfl, .inl rfl, trivial⟩
  refine el_iload dL_isPlanned_632 rfl ?_
  refine el_aload_n dL_isPlanned_634 rfl (by decide) ?_
  refine el_iload_n dL_isPlanned_635 rfl ?_
  refine el_iload dL_isPlanned_636 rfl ?_
  refine el_iconst dL_isPlanned_638 (by decide) ?_
  obtain ⟨v59, hc60, h⟩ := bind_of h
  refine el_invV (k := (0 : Int)) (av := [(0, x3), (0, x4), (0, (1 : Int))]) (st := [(0, x15)]) (r2 := (some (0, v59.1), rho, v59.2)) dL_isPlanned_639 ml_L_58 mv_X10_plan (T := TX10) (ci := 9) rfl sp0 (by decide) (by decide) rfl ⟨Nat.le_of_ble_eq_true rfl, Nat.le_of_ble_eq_true rfl⟩ (Nat.le_of_ble_eq_true rfl) (c_X10_plan hc60) ⟨Nat.le_refl _, Nat.le_refl _⟩ ?_
  show El _ _ _ _ _ _ 642 (lm m n (v59.2, σ.2)) _ ((0, v59.1) :: [(0, x15)])
  refine el_icmp_ne (tgt := 649) dL_isPlanned_642 rfl h (fun cb h => ?_) (fun cb h => ?_)
  · exact el_sub (L2 := [(2, (0 : Int)), (9, 0), (9, 0), (0, x3), (0, x4), (9, 0), (9, 0), (9, 0), (0, x8), (0, x9), (9, 0), (9, 0), (9, 0), (9, 0), (0, x14), (0, x15), (9, 0), (9, 0), (9, 0), (9, 0), (9, 0), (9, 0)]) (e_L_isPlanned_649 m n N xs hmn hN (v59.2, σ.2) x3 x4 x8 x9 x14 x15 h) ⟨.inr rfl, .inl rfl, .inl rfl, .inr rfl, .inr rfl, .inl rfl, .inl rfl, .inl rfl, .inr rfl, .inr rfl, .inl rfl, .inl rfl, .inl rfl, .inl rfl, .inr rfl, .inr rfl, .inl rfl, .inl rfl, .inl rfl, .inl rfl, .inl rfl, .inl rfl, trivial⟩
  refine el_iconst dL_isPlanned_645 (by decide) ?_
  refine el_goto (tgt := 650) dL_isPlanned_646 rfl ?_
  exact el_sub (L2 := [(2, (0 : Int)), (9, 0), (9, 0), (0, x3), (0, x4), (9, 0), (9, 0), (9, 0), (0, x8), (0, x9), (9, 0), (9, 0), (9, 0), (9, 0), (0, x14), (0, x15), (9, 0), (9, 0), (9, 0), (9, 0), (9, 0), (9, 0)]) (e_L_isPlanned_650 m n N xs hmn hN (v59.2, σ.2) x3 x4 x8 x9 x14 x15 (1 : Int) h) ⟨.inr rfl, .inl rfl, .inl rfl, .inr rfl, .inr rfl, .inl rfl, .inl rfl, .inl rfl, .inr rfl, .inr rfl, .inl rfl, .inl rfl, .inl rfl, .inl rfl, .inr rfl, .inr rfl, .inl rfl, .inl rfl, .inl rfl, .inl rfl, .inl rfl, .inl rfl, trivial⟩
set_option maxHeartbeats 4000000 in
set_option maxRecDepth 20000 in
theorem b_L_isPlanned_405 (m n N : Nat) (xs : Nat → Int32) (hmn : m ≤ 10 ∧ n ≤ 4) (hN : (N : Int) ≤ 2147483647) (x3 x4 x5 x6 x8 x9 x14 : Int)  {r : Option V × LM} : ∀ a x, f_L_isPlanned_405B m n N xs x3 x4 x5 x6 x8 x9 x14 a = some x → K_L_isPlanned_405 m n N xs x3 x4 x5 x6 x8 x9 x14 r x → K_L_isPlanned_405 m n N xs x3 x4 x5 x6 x8 x9 x14 r (.inl a) := by
  intro a x h K
  obtain ⟨x10, x15, x16, σ⟩ := a
  have h : f_L_isPlanned_405C m n N xs x3 x4 x5 x6 x8 x9 x14 x10 x15 x16 σ = some x := h
  unfold f_L_isPlanned_405C at h
  show El (xsh m n) (M_L_isPlanned N xs) (false, false) (181, nX m n) (181, nX m n) r 405 (lm m n σ) [(2, (0 : Int)), (3, (1 : Int)), (9, 0), (0, x3), (0, x4), (0, x5), (0, x6), (9, 0), (0, x8), (0, x9), (0, x10), (9, 0), (9, 0), (9, 0), (0, x14), (0, x15), (0, x16), (9, 0), (9, 0), (9, 0), (9, 0), (9, 0)] []
  refine el_iload dL_isPlanned_405 rfl ?_
  refine el_bipush dL_isPlanned_407 (by decide) (by decide) ?_
  refine el_icmp_ge (tgt := 627) dL_isPlanned_409 rfl h (fun cb h => ?_) (fun cb h => ?_)
  · obtain rfl := Option.some.inj h
    exact el_sub (L2 := [(2, (0 : Int)), (9, 0), (9, 0), (0, x3), (0, x4), (9, 0), (9, 0), (9, 0), (0, x8), (0, x9), (0, x10), (9, 0), (9, 0), (9, 0), (0, x14), (0, x15), (9, 0), (9, 0), (9, 0), (9, 0), (9, 0), (9, 0)]) K ⟨.inr rfl, .inl rfl, .inl rfl, .inr rfl, .inr rfl, .inl rfl, .inl rfl, .inl rfl, .inr rfl, .inr rfl, .inr rfl, .inl rfl, .inl rfl, .inl rfl, .inr rfl, .inr rfl, .inl rfl, .inl rfl, .inl rfl, .inl rfl, .inl rfl, .inl rfl, trivial⟩
  refine el_aload_n dL_isPlanned_412 rfl (by decide) ?_
  refine el_iload_n dL_isPlanned_413 rfl ?_
  refine el_iload dL_isPlanned_414 rfl ?_
  refine el_iload dL_isPlanned_416 rfl ?_
  obtain ⟨v42, hc43, h⟩ := bind_of h
  refine el_invV (k := (0 : Int)) (av := [(0, x3), (0, x4), (0, x16)]) (st := []) (r2 := (some (0, v42.1), rho, v42.2)) dL_isPlanned_418 ml_L_71 mv_X10_does (T := TX10) (ci := 9) rfl sp0 (by decide) (by decide) rfl ⟨Nat.le_of_ble_eq_true rfl, Nat.le_of_ble_eq_true rfl⟩ (Nat.le_of_ble_eq_true rfl) (c_X10_does hc43) ⟨Nat.le_refl _, Nat.le_refl _⟩ ?_
  show El _ _ _ _ _ _ 421 (lm m n (v42.2, σ.2)) _ ((0, v42.1) :: [])
  refine el_istoreG dL_isPlanned_421 h rfl (Nat.le_of_ble_eq_true rfl) (fun v44 h => ?_)
  show El _ _ _ _ _ _ 423 _ [(2, (0 : Int)), (3, (1 : Int)), (9, 0), (0, x3), (0, x4), (0, x5), (0, x6), (9, 0), (0, x8), (0, x9), (0, x10), (9, 0), (9, 0), (9, 0), (0, x14), (0, x15), (0, x16), (0, v44), (9, 0), (9, 0), (9, 0), (9, 0)] _
  refine el_iload dL_isPlanned_423 rfl ?_
  refine el_iload dL_isPlanned_425 rfl ?_
  refine el_bipush dL_isPlanned_427 (by decide) (by decide) ?_
  refine el_icmp_ne (tgt := 436) dL_isPlanned_429 rfl h (fun cb h => ?_) (fun cb h => ?_)
  · refine el_iconst dL_isPlanned_436 (by decide) ?_
    exact el_sub (L2 := [(2, (0 : Int)), (3, (1 : Int)), (9, 0), (0, x3), (0, x4), (0, x5), (0, x6), (9, 0), (0, x8), (0, x9), (0, x10), (9, 0), (9, 0), (9, 0), (0, x14), (9, 0), (0, x16), (0, v44), (9, 0), (9, 0), (9, 0), (9, 0)]) (e_L_isPlanned_437 m n N xs hmn hN (v42.2, σ.2) x3 x4 x5 x6 x8 x9 x10 x14 x16 v44 (0 : Int) x15 h K) ⟨.inr rfl, .inr rfl, .inl rfl, .inr rfl, .inr rfl, .inr rfl, .inr rfl, .inl rfl, .inr rfl, .inr rfl, .inr rfl, .inl rfl, .inl rfl, .inl rfl, .inr rfl, .inl rfl, .inr rfl, .inr rfl, .inl rfl, .inl rfl, .inl rfl, .inl rfl, trivial⟩
  refine el_iconst dL_isPlanned_432 (by decide) ?_
  refine el_goto (tgt := 437) dL_isPlanned_433 rfl ?_
  exact el_sub (L2 := [(2, (0 : Int)), (3, (1 : Int)), (9, 0), (0, x3), (0, x4), (0, x5), (0, x6), (9, 0), (0, x8), (0, x9), (0, x10), (9, 0), (9, 0), (9, 0), (0, x14), (9, 0), (0, x16), (0, v44), (9, 0), (9, 0), (9, 0), (9, 0)]) (e_L_isPlanned_437 m n N xs hmn hN (v42.2, σ.2) x3 x4 x5 x6 x8 x9 x10 x14 x16 v44 (1 : Int) x15 h K) ⟨.inr rfl, .inr rfl, .inl rfl, .inr rfl, .inr rfl, .inr rfl, .inr rfl, .inl rfl, .inr rfl, .inr rfl, .inr rfl, .inl rfl, .inl rfl, .inl rfl, .inr rfl, .inl rfl, .inr rfl, .inr rfl, .inl rfl, .inl rfl, .inl rfl, .inl rfl, trivial⟩
set_option maxHeartbeats 4000000 in
set_option maxRecDepth 20000 in
theorem e_L_isPlanned_405 (m n N : Nat) (xs : Nat → Int32) (hmn : m ≤ 10 ∧ n ≤ 4) (hN : (N : Int) ≤ 2147483647) (σ : M2) (x3 x4 x5 x6 x8 x9 x10 x14 x15 x16 : Int)  {q : (Int × M2)} (h : f_L_isPlanned_405 m n N xs σ x3 x4 x5 x6 x8 x9 x10 x14 x15 x16 = some q) : El (xsh m n) (M_L_isPlanned N xs) (false, false) (181, nX m n) (181, nX m n) (some (0, q.1), lm m n q.2) 405 (lm m n σ) [(2, (0 : Int)), (3, (1 : Int)), (9, 0), (0, x3), (0, x4), (0, x5), (0, x6), (9, 0), (0, x8), (0, x9), (0, x10), (9, 0), (9, 0), (9, 0), (0, x14), (0, x15), (0, x16), (9, 0), (9, 0), (9, 0), (9, 0), (9, 0)] [] := by
  unfold f_L_isPlanned_405 at h
  obtain ⟨e, hl, h⟩ := bind_of h
  refine loop_ev (K := K_L_isPlanned_405 m n N xs x3 x4 x5 x6 x8 x9 x14 (some (0, q.1), lm m n q.2)) (b_L_isPlanned_405 m n N xs hmn hN x3 x4 x5 x6 x8 x9 x14) FU (x10, x15, x16, σ) e hl ?_
  show El (xsh m n) (M_L_isPlanned N xs) (false, false) (181, nX m n) (181, nX m n) _ 627 (lm m n e.2.2) [(2, (0 : Int)), (9, 0), (9, 0), (0, x3), (0, x4), (9, 0), (9, 0), (9, 0), (0, x8), (0, x9), (0, e.1), (9, 0), (9, 0), (9, 0), (0, x14), (0, e.2.1), (9, 0), (9, 0), (9, 0), (9, 0), (9, 0), (9, 0)] []
  replace h : f_L_isPlanned_627 m n N xs e.2.2 x3 x4 x8 x9 e.1 x14 e.2.1 = some q := h
  exact el_sub (L2 := [(2, (0 : Int)), (9, 0), (9, 0), (0, x3), (0, x4), (9, 0), (9, 0), (9, 0), (0, x8), (0, x9), (0, e.1), (9, 0), (9, 0), (9, 0), (0, x14), (0, e.2.1), (9, 0), (9, 0), (9, 0), (9, 0), (9, 0), (9, 0)]) (e_L_isPlanned_627 m n N xs hmn hN e.2.2 x3 x4 x8 x9 e.1 x14 e.2.1 h) ⟨.inr rfl, .inl rfl, .inl rfl, .inr rfl, .inr rfl, .inl rfl, .inl rfl, .inl rfl, .inr rfl, .inr rfl, .inr rfl, .inl rfl, .inl rfl, .inl rfl, .inr rfl, .inr rfl, .inl rfl, .inl rfl, .inl rfl, .inl rfl, .inl rfl, .inl rfl, trivial⟩
set_option maxHeartbeats 4000000 in
set_option maxRecDepth 20000 in
theorem e_L_isPlanned_397 (m n N : Nat) (xs : Nat → Int32) (hmn : m ≤ 10 ∧ n ≤ 4) (hN : (N : Int) ≤ 2147483647) (σ : M2) (x3 x4 x5 x6 x8 x9 x14 s0 : Int)  {q : (Int × M2)} (h : f_L_isPlanned_397 m n N xs σ x3 x4 x5 x6 x8 x9 x14 s0 = some q) : El (xsh m n) (M_L_isPlanned N xs) (false, false) (181, nX m n) (181, nX m n) (some (0, q.1), lm m n q.2) 397 (lm m n σ) [(2, (0 : Int)), (3, (1 : Int)), (9, 0), (0, x3), (0, x4), (0, x5), (0, x6), (9, 0), (0, x8), (0, x9), (9, 0), (9, 0), (9, 0), (9, 0), (0, x14), (9, 0), (9, 0), (9, 0), (9, 0), (9, 0), (9, 0), (9, 0)] [(0, s0)] := by
  unfold f_L_isPlanned_397 at h
  refine el_istore dL_isPlanned_397 rfl (Nat.le_of_ble_eq_true rfl) ?_
  show El _ _ _ _ _ _ 399 _ [(2, (0 : Int)), (3, (1 : Int)), (9, 0), (0, x3), (0, x4), (0, x5), (0, x6), (9, 0), (0, x8), (0, x9), (0, s0), (9, 0), (9, 0), (9, 0), (0, x14), (9, 0), (9, 0), (9, 0), (9, 0), (9, 0), (9, 0), (9, 0)] _
  refine el_iconst dL_isPlanned_399 (by decide) ?_
  refine el_istore dL_isPlanned_400 rfl (Nat.le_of_ble_eq_true rfl) ?_
  show El _ _ _ _ _ _ 402 _ [(2, (0 : Int)), (3, (1 : Int)), (9, 0), (0, x3), (0, x4), (0, x5), (0, x6), (9, 0), (0, x8), (0, x9), (0, s0), (9, 0), (9, 0), (9, 0), (0, x14), (0, (0 : Int)), (9, 0), (9, 0), (9, 0), (9, 0), (9, 0), (9, 0)] _
  refine el_iconst dL_isPlanned_402 (by decide) ?_
  refine el_istore dL_isPlanned_403 rfl (Nat.le_of_ble_eq_true rfl) ?_
  show El _ _ _ _ _ _ 405 _ [(2, (0 : Int)), (3, (1 : Int)), (9, 0), (0, x3), (0, x4), (0, x5), (0, x6), (9, 0), (0, x8), (0, x9), (0, s0), (9, 0), (9, 0), (9, 0), (0, x14), (0, (0 : Int)), (0, (0 : Int)), (9, 0), (9, 0), (9, 0), (9, 0), (9, 0)] _
  exact el_sub (L2 := [(2, (0 : Int)), (3, (1 : Int)), (9, 0), (0, x3), (0, x4), (0, x5), (0, x6), (9, 0), (0, x8), (0, x9), (0, s0), (9, 0), (9, 0), (9, 0), (0, x14), (0, (0 : Int)), (0, (0 : Int)), (9, 0), (9, 0), (9, 0), (9, 0), (9, 0)]) (e_L_isPlanned_405 m n N xs hmn hN σ x3 x4 x5 x6 x8 x9 s0 x14 (0 : Int) (0 : Int) h) ⟨.inr rfl, .inr rfl, .inl rfl, .inr rfl, .inr rfl, .inr rfl, .inr rfl, .inl rfl, .inr rfl, .inr rfl, .inr rfl, .inl rfl, .inl rfl, .inl rfl, .inr rfl, .inr rfl, .inr rfl, .inl rfl, .inl rfl, .inl rfl, .inl rfl, .inl rfl, trivial⟩
set_option maxHeartbeats 4000000 in
set_option maxRecDepth 20000 in
theorem e_L_isPlanned_392 (m n N : Nat) (xs : Nat → Int32) (hmn : m ≤ 10 ∧ n ≤ 4) (hN : (N : Int) ≤ 2147483647) (σ : M2) (x3 x4 x5 x6 x8 x9 x14 : Int)  {q : (Int × M2)} (h : f_L_isPlanned_392 m n N xs σ x3 x4 x5 x6 x8 x9 x14 = some q) : El (xsh m n) (M_L_isPlanned N xs) (false, false) (181, nX m n) (181, nX m n) (some (0, q.1), lm m n q.2) 392 (lm m n σ) [(2, (0 : Int)), (3, (1 : Int)), (9, 0), (0, x3), (0, x4), (0, x5), (0, x6), (9, 0), (0, x8), (0, x9), (9, 0), (9, 0), (9, 0), (9, 0), (0, x14), (9, 0), (9, 0), (9, 0), (9, 0), (9, 0), (9, 0), (9, 0)] [] := by
  unfold f_L_isPlanned_392 at h
  refine el_iconst dL_isPlanned_392 (by decide) ?_
  refine el_goto (tgt := 397) dL_isPlanned_393 rfl ?_
  exact el_sub (L2 := [(2, (0 : Int)), (3, (1 : Int)), (9, 0), (0, x3), (0, x4), (0, x5), (0, x6), (9, 0), (0, x8), (0, x9), (9, 0), (9, 0), (9, 0), (9, 0), (0, x14), (9, 0), (9, 0), (9, 0), (9, 0), (9, 0), (9, 0), (9, 0)]) (e_L_isPlanned_397 m n N xs hmn hN σ x3 x4 x5 x6 x8 x9 x14 (1 : Int) h) ⟨.inr rfl, .inr rfl, .inl rfl, .inr rfl, .inr rfl, .inr rfl, .inr rfl, .inl rfl, .inr rfl, .inr rfl, .inl rfl, .inl rfl, .inl rfl, .inl rfl, .inr rfl, .inl rfl, .inl rfl, .inl rfl, .inl rfl, .inl rfl, .inl rfl, .inl rfl, trivial⟩
set_option maxHeartbeats 4000000 in
set_option maxRecDepth 20000 in
theorem e_L_isPlanned_396 (m n N : Nat) (xs : Nat → Int32) (hmn : m ≤ 10 ∧ n ≤ 4) (hN : (N : Int) ≤ 2147483647) (σ : M2) (x3 x4 x5 x6 x8 x9 x14 : Int)  {q : (Int × M2)} (h : f_L_isPlanned_396 m n N xs σ x3 x4 x5 x6 x8 x9 x14 = some q) : El (xsh m n) (M_L_isPlanned N xs) (false, false) (181, nX m n) (181, nX m n) (some (0, q.1), lm m n q.2) 396 (lm m n σ) [(2, (0 : Int)), (3, (1 : Int)), (9, 0), (0, x3), (0, x4), (0, x5), (0, x6), (9, 0), (0, x8), (0, x9), (9, 0), (9, 0), (9, 0), (9, 0), (0, x14), (9, 0), (9, 0), (9, 0), (9, 0), (9, 0), (9, 0), (9, 0)] [] := by
  unfold f_L_isPlanned_396 at h
  refine el_iconst dL_isPlanned_396 (by decide) ?_
  exact el_sub (L2 := [(2, (0 : Int)), (3, (1 : Int)), (9, 0), (0, x3), (0, x4), (0, x5), (0, x6), (9, 0), (0, x8), (0, x9), (9, 0), (9, 0), (9, 0), (9, 0), (0, x14), (9, 0), (9, 0), (9, 0), (9, 0), (9, 0), (9, 0), (9, 0)]) (e_L_isPlanned_397 m n N xs hmn hN σ x3 x4 x5 x6 x8 x9 x14 (0 : Int) h) ⟨.inr rfl, .inr rfl, .inl rfl, .inr rfl, .inr rfl, .inr rfl, .inr rfl, .inl rfl, .inr rfl, .inr rfl, .inl rfl, .inl rfl, .inl rfl, .inl rfl, .inr rfl, .inl rfl, .inl rfl, .inl rfl, .inl rfl, .inl rfl, .inl rfl, .inl rfl, trivial⟩
set_option maxHeartbeats 4000000 in
set_option maxRecDepth 20000 in
theorem e_L_isPlanned_376 (m n N : Nat) (xs : Nat → Int32) (hmn : m ≤ 10 ∧ n ≤ 4) (hN : (N : Int) ≤ 2147483647) (σ : M2) (x3 x4 x5 x6 x8 x9 x14 s1 s0 : Int)  {q : (Int × M2)} (h : f_L_isPlanned_376 m n N xs σ x3 x4 x5 x6 x8 x9 x14 s1 s0 = some q) : El (xsh m n) (M_L_isPlanned N xs) (false, false) (181, nX m n) (181, nX m n) (some (0, q.1), lm m n q.2) 376 (lm m n σ) [(2, (0 : Int)), (3, (1 : Int)), (9, 0), (0, x3), (0, x4), (0, x5), (0, x6), (9, 0), (0, x8), (0, x9), (9, 0), (9, 0), (9, 0), (9, 0), (0, x14), (9, 0), (9, 0), (9, 0), (9, 0), (9, 0), (9, 0), (9, 0)] [(0, s1), (0, s0)] := by
  unfold f_L_isPlanned_376 at h
  refine el_icmp_ne (tgt := 396) dL_isPlanned_376 rfl h (fun cb h => ?_) (fun cb h => ?_)
  · exact el_sub (L2 := [(2, (0 : Int)), (3, (1 : Int)), (9, 0), (0, x3), (0, x4), (0, x5), (0, x6), (9, 0), (0, x8), (0, x9), (9, 0), (9, 0), (9, 0), (9, 0), (0, x14), (9, 0), (9, 0), (9, 0), (9, 0), (9, 0), (9, 0), (9, 0)]) (e_L_isPlanned_396 m n N xs hmn hN σ x3 x4 x5 x6 x8 x9 x14 h) ⟨.inr rfl, .inr rfl, .inl rfl, .inr rfl, .inr rfl, .inr rfl, .inr rfl, .inl rfl, .inr rfl, .inr rfl, .inl rfl, .inl rfl, .inl rfl, .inl rfl, .inr rfl, .inl rfl, .inl rfl, .inl rfl, .inl rfl, .inl rfl, .inl rfl, .inl rfl, trivial⟩
  refine el_goto (tgt := 392) dL_isPlanned_379 rfl ?_
  exact el_sub (L2 := [(2, (0 : Int)), (3, (1 : Int)), (9, 0), (0, x3), (0, x4), (0, x5), (0, x6), (9, 0), (0, x8), (0, x9), (9, 0), (9, 0), (9, 0), (9, 0), (0, x14), (9, 0), (9, 0), (9, 0), (9, 0), (9, 0), (9, 0), (9, 0)]) (e_L_isPlanned_392 m n N xs hmn hN σ x3 x4 x5 x6 x8 x9 x14 h) ⟨.inr rfl, .inr rfl, .inl rfl, .inr rfl, .inr rfl, .inr rfl, .inr rfl, .inl rfl, .inr rfl, .inr rfl, .inl rfl, .inl rfl, .inl rfl, .inl rfl, .inr rfl, .inl rfl, .inl rfl, .inl rfl, .inl rfl, .inl rfl, .inl rfl, .inl rfl, trivial⟩
set_option maxHeartbeats 4000000 in
set_option maxRecDepth 20000 in
theorem e_L_isPlanned_334 (m n N : Nat) (xs : Nat → Int32) (hmn : m ≤ 10 ∧ n ≤ 4) (hN : (N : Int) ≤ 2147483647) (σ : M2) (x3 x4 x5 x6 x8 x9 x10 x12 x13 x14 : Int)  {q : (Int × M2)} (h : f_L_isPlanned_334 m n N xs σ x3 x4 x5 x6 x8 x9 x10 x12 x13 x14 = some q) : El (xsh m n) (M_L_isPlanned N xs) (false, false) (181, nX m n) (181, nX m n) (some (0, q.1), lm m n q.2) 334 (lm m n σ) [(2, (0 : Int)), (3, (1 : Int)), (9, 0), (0, x3), (0, x4), (0, x5), (0, x6), (9, 0), (0, x8), (0, x9), (0, x10), (9, 0), (0, x12), (0, x13), (0, x14), (9, 0), (9, 0), (9, 0), (9, 0), (9, 0), (9, 0), (9, 0)] [] := by
  unfold f_L_isPlanned_334 at h
  refine el_iload dL_isPlanned_334 rfl ?_
  refine el_if_eq (tgt := 396) dL_isPlanned_336 rfl h (fun cb h => ?_) (fun cb h => ?_)
  · exact el_sub (L2 := [(2, (0 : Int)), (3, (1 : Int)), (9, 0), (0, x3), (0, x4), (0, x5), (0, x6), (9, 0), (0, x8), (0, x9), (9, 0), (9, 0), (9, 0), (9, 0), (0, x14), (9, 0), (9, 0), (9, 0), (9, 0), (9, 0), (9, 0), (9, 0)]) (e_L_isPlanned_396 m n N xs hmn hN σ x3 x4 x5 x6 x8 x9 x14 h) ⟨.inr rfl, .inr rfl, .inl rfl, .inr rfl, .inr rfl, .inr rfl, .inr rfl, .inl rfl, .inr rfl, .inr rfl, .inl rfl, .inl rfl, .inl rfl, .inl rfl, .inr rfl, .inl rfl, .inl rfl, .inl rfl, .inl rfl, .inl rfl, .inl rfl, .inl rfl, trivial⟩
  refine el_iload dL_isPlanned_339 rfl ?_
  refine el_aload_n dL_isPlanned_341 rfl (by decide) ?_
  refine el_iconst dL_isPlanned_342 (by decide) ?_
  obtain ⟨v38, hc39, h⟩ := bind_of h
  refine el_invV (k := (0 : Int)) (av := [(0, (3 : Int))]) (st := [(0, x12)]) (r2 := (some (0, v38.1), rho, v38.2)) dL_isPlanned_343 ml_L_50 mv_X10_status (T := TX10) (ci := 9) rfl sp0 (by decide) (by decide) rfl ⟨Nat.le_of_ble_eq_true rfl, Nat.le_of_ble_eq_true rfl⟩ (Nat.le_of_ble_eq_true rfl) (c_X10_status hc39) ⟨Nat.le_refl _, Nat.le_refl _⟩ ?_
  show El _ _ _ _ _ _ 346 (lm m n (v38.2, σ.2)) _ ((0, v38.1) :: [(0, x12)])
  refine el_icmp_gt (tgt := 396) dL_isPlanned_346 rfl h (fun cb h => ?_) (fun cb h => ?_)
  · exact el_sub (L2 := [(2, (0 : Int)), (3, (1 : Int)), (9, 0), (0, x3), (0, x4), (0, x5), (0, x6), (9, 0), (0, x8), (0, x9), (9, 0), (9, 0), (9, 0), (9, 0), (0, x14), (9, 0), (9, 0), (9, 0), (9, 0), (9, 0), (9, 0), (9, 0)]) (e_L_isPlanned_396 m n N xs hmn hN (v38.2, σ.2) x3 x4 x5 x6 x8 x9 x14 h) ⟨.inr rfl, .inr rfl, .inl rfl, .inr rfl, .inr rfl, .inr rfl, .inr rfl, .inl rfl, .inr rfl, .inr rfl, .inl rfl, .inl rfl, .inl rfl, .inl rfl, .inr rfl, .inl rfl, .inl rfl, .inl rfl, .inl rfl, .inl rfl, .inl rfl, .inl rfl, trivial⟩
  refine el_aload_n dL_isPlanned_349 rfl (by decide) ?_
  refine el_iload_n dL_isPlanned_350 rfl ?_
  refine el_iload dL_isPlanned_351 rfl ?_
  refine el_iconst dL_isPlanned_353 (by decide) ?_
  obtain ⟨v40, hc41, h⟩ := bind_of h
  refine el_invV (k := (0 : Int)) (av := [(0, x3), (0, x4), (0, (0 : Int))]) (st := []) (r2 := (some (0, v40.1), rho, v40.2)) dL_isPlanned_354 ml_L_58 mv_X10_plan (T := TX10) (ci := 9) rfl sp0 (by decide) (by decide) rfl ⟨Nat.le_of_ble_eq_true rfl, Nat.le_of_ble_eq_true rfl⟩ (Nat.le_of_ble_eq_true rfl) (c_X10_plan hc41) ⟨Nat.le_refl _, Nat.le_refl _⟩ ?_
  show El _ _ _ _ _ _ 357 (lm m n (v40.2, (v38.2, σ.2).2)) _ ((0, v40.1) :: [])
  refine el_iconst dL_isPlanned_357 (by decide) ?_
  refine el_icmp_ne (tgt := 382) dL_isPlanned_358 rfl h (fun cb h => ?_) (fun cb h => ?_)
  · refine el_iload dL_isPlanned_382 rfl ?_
    refine el_if_ne (tgt := 396) dL_isPlanned_384 rfl h (fun cb h => ?_) (fun cb h => ?_)
    · exact el_sub (L2 := [(2, (0 : Int)), (3, (1 : Int)), (9, 0), (0, x3), (0, x4), (0, x5), (0, x6), (9, 0), (0, x8), (0, x9), (9, 0), (9, 0), (9, 0), (9, 0), (0, x14), (9, 0), (9, 0), (9, 0), (9, 0), (9, 0), (9, 0), (9, 0)]) (e_L_isPlanned_396 m n N xs hmn hN (v40.2, (v38.2, σ.2).2) x3 x4 x5 x6 x8 x9 x14 h) ⟨.inr rfl, .inr rfl, .inl rfl, .inr rfl, .inr rfl, .inr rfl, .inr rfl, .inl rfl, .inr rfl, .inr rfl, .inl rfl, .inl rfl, .inl rfl, .inl rfl, .inr rfl, .inl rfl, .inl rfl, .inl rfl, .inl rfl, .inl rfl, .inl rfl, .inl rfl, trivial⟩
    refine el_iload dL_isPlanned_387 rfl ?_
    refine el_if_ge (tgt := 396) dL_isPlanned_389 rfl h (fun cb h => ?_) (fun cb h => ?_)
    · exact el_sub (L2 := [(2, (0 : Int)), (3, (1 : Int)), (9, 0), (0, x3), (0, x4), (0, x5), (0, x6), (9, 0), (0, x8), (0, x9), (9, 0), (9, 0), (9, 0), (9, 0), (0, x14), (9, 0), (9, 0), (9, 0), (9, 0), (9, 0), (9, 0), (9, 0)]) (e_L_isPlanned_396 m n N xs hmn hN (v40.2, (v38.2, σ.2).2) x3 x4 x5 x6 x8 x9 x14 h) ⟨.inr rfl, .inr rfl, .inl rfl, .inr rfl, .inr rfl, .inr rfl, .inr rfl, .inl rfl, .inr rfl, .inr rfl, .inl rfl, .inl rfl, .inl rfl, .inl rfl, .inr rfl, .inl rfl, .inl rfl, .inl rfl, .inl rfl, .inl rfl, .inl rfl, .inl rfl, trivial⟩
    exact el_sub (L2 := [(2, (0 : Int)), (3, (1 : Int)), (9, 0), (0, x3), (0, x4), (0, x5), (0, x6), (9, 0), (0, x8), (0, x9), (9, 0), (9, 0), (9, 0), (9, 0), (0, x14), (9, 0), (9, 0), (9, 0), (9, 0), (9, 0), (9, 0), (9, 0)]) (e_L_isPlanned_392 m n N xs hmn hN (v40.2, (v38.2, σ.2).2) x3 x4 x5 x6 x8 x9 x14 h) ⟨.inr rfl, .inr rfl, .inl rfl, .inr rfl, .inr rfl, .inr rfl, .inr rfl, .inl rfl, .inr rfl, .inr rfl, .inl rfl, .inl rfl, .inl rfl, .inl rfl, .inr rfl, .inl rfl, .inl rfl, .inl rfl, .inl rfl, .inl rfl, .inl rfl, .inl rfl, trivial⟩
  refine el_iload dL_isPlanned_361 rfl ?_
  refine el_iload dL_isPlanned_363 rfl ?_
  refine el_if_ge (tgt := 372) dL_isPlanned_365 rfl h (fun cb h => ?_) (fun cb h => ?_)
  · refine el_iconst dL_isPlanned_372 (by decide) ?_
    refine el_iload dL_isPlanned_373 rfl ?_
    refine el_ishl dL_isPlanned_375 ?_
    exact el_sub (L2 := [(2, (0 : Int)), (3, (1 : Int)), (9, 0), (0, x3), (0, x4), (0, x5), (0, x6), (9, 0), (0, x8), (0, x9), (9, 0), (9, 0), (9, 0), (9, 0), (0, x14), (9, 0), (9, 0), (9, 0), (9, 0), (9, 0), (9, 0), (9, 0)]) (e_L_isPlanned_376 m n N xs hmn hN (v40.2, (v38.2, σ.2).2) x3 x4 x5 x6 x8 x9 x14 (jshl (1 : Int) x9) x13 h) ⟨.inr rfl, .inr rfl, .inl rfl, .inr rfl, .inr rfl, .inr rfl, .inr rfl, .inl rfl, .inr rfl, .inr rfl, .inl rfl, .inl rfl, .inl rfl, .inl rfl, .inr rfl, .inl rfl, .inl rfl, .inl rfl, .inl rfl, .inl rfl, .inl rfl, .inl rfl, trivial⟩
  refine el_iconst dL_isPlanned_368 (by decide) ?_
  refine el_goto (tgt := 376) dL_isPlanned_369 rfl ?_
  exact el_sub (L2 := [(2, (0 : Int)), (3, (1 : Int)), (9, 0), (0, x3), (0, x4), (0, x5), (0, x6), (9, 0), (0, x8), (0, x9), (9, 0), (9, 0), (9, 0), (9, 0), (0, x14), (9, 0), (9, 0), (9, 0), (9, 0), (9, 0), (9, 0), (9, 0)]) (e_L_isPlanned_376 m n N xs hmn hN (v40.2, (v38.2, σ.2).2) x3 x4 x5 x6 x8 x9 x14 (0 : Int) x13 h) ⟨.inr rfl, .inr rfl, .inl rfl, .inr rfl, .inr rfl, .inr rfl, .inr rfl, .inl rfl, .inr rfl, .inr rfl, .inl rfl, .inl rfl, .inl rfl, .inl rfl, .inr rfl, .inl rfl, .inl rfl, .inl rfl, .inl rfl, .inl rfl, .inl rfl, .inl rfl, trivial⟩
set_option maxHeartbeats 4000000 in
set_option maxRecDepth 20000 in
theorem b_L_isPlanned_186 (m n N : Nat) (xs : Nat → Int32) (hmn : m ≤ 10 ∧ n ≤ 4) (hN : (N : Int) ≤ 2147483647) (x3 x4 x5 x6 x7 x8 x9 x14 : Int)  {r : Option V × LM} : ∀ a x, f_L_isPlanned_186B m n N xs x3 x4 x5 x6 x7 x8 x9 x14 a = some x → K_L_isPlanned_186 m n N xs x3 x4 x5 x6 x7 x8 x9 x14 r x → K_L_isPlanned_186 m n N xs x3 x4 x5 x6 x7 x8 x9 x14 r (.inl a) := by
  intro a x h K
  obtain ⟨x10, x11, x12, x13, x15, σ⟩ := a
  have h : f_L_isPlanned_186C m n N xs x3 x4 x5 x6 x7 x8 x9 x14 x10 x11 x12 x13 x15 σ = some x := h
  unfold f_L_isPlanned_186C at h
  show El (xsh m n) (M_L_isPlanned N xs) (false, false) (181, nX m n) (181, nX m n) r 186 (lm m n σ) [(2, (0 : Int)), (3, (1 : Int)), (9, 0), (0, x3), (0, x4), (0, x5), (0, x6), (0, x7), (0, x8), (0, x9), (0, x10), (0, x11), (0, x12), (0, x13), (0, x14), (0, x15), (9, 0), (9, 0), (9, 0), (9, 0), (9, 0), (9, 0)] []
  refine el_iload dL_isPlanned_186 rfl ?_
  refine el_iload dL_isPlanned_188 rfl ?_
  refine el_icmp_ge (tgt := 334) dL_isPlanned_190 rfl h (fun cb h => ?_) (fun cb h => ?_)
  · obtain rfl := Option.some.inj h
    exact el_sub (L2 := [(2, (0 : Int)), (3, (1 : Int)), (9, 0), (0, x3), (0, x4), (0, x5), (0, x6), (9, 0), (0, x8), (0, x9), (0, x10), (9, 0), (0, x12), (0, x13), (0, x14), (9, 0), (9, 0), (9, 0), (9, 0), (9, 0), (9, 0), (9, 0)]) K ⟨.inr rfl, .inr rfl, .inl rfl, .inr rfl, .inr rfl, .inr rfl, .inr rfl, .inl rfl, .inr rfl, .inr rfl, .inr rfl, .inl rfl, .inr rfl, .inr rfl, .inr rfl, .inl rfl, .inl rfl, .inl rfl, .inl rfl, .inl rfl, .inl rfl, .inl rfl, trivial⟩
  refine el_aload_n dL_isPlanned_193 rfl (by decide) ?_
  refine el_iload_n dL_isPlanned_194 rfl ?_
  refine el_iload dL_isPlanned_195 rfl ?_
  refine el_iload dL_isPlanned_197 rfl ?_
  refine el_iconst dL_isPlanned_199 (by decide) ?_
  obtain ⟨v21, hc22, h⟩ := bind_of h
  refine el_invV (k := (0 : Int)) (av := [(0, x3), (0, x4), (0, x15), (0, (0 : Int))]) (st := []) (r2 := (some (0, v21.1), rho, v21.2)) dL_isPlanned_200 ml_L_67 mv_X10_sits (T := TX10) (ci := 9) rfl sp0 (by decide) (by decide) rfl ⟨Nat.le_of_ble_eq_true rfl, Nat.le_of_ble_eq_true rfl⟩ (Nat.le_of_ble_eq_true rfl) (c_X10_sits hc22) ⟨Nat.le_refl _, Nat.le_refl _⟩ ?_
  show El _ _ _ _ _ _ 203 (lm m n (v21.2, σ.2)) _ ((0, v21.1) :: [])
  refine el_istoreG dL_isPlanned_203 h rfl (Nat.le_of_ble_eq_true rfl) (fun v23 h => ?_)
  show El _ _ _ _ _ _ 205 _ [(2, (0 : Int)), (3, (1 : Int)), (9, 0), (0, x3), (0, x4), (0, x5), (0, x6), (0, x7), (0, x8), (0, x9), (0, x10), (0, x11), (0, x12), (0, x13), (0, x14), (0, x15), (0, v23), (9, 0), (9, 0), (9, 0), (9, 0), (9, 0)] _
  refine el_aload_n dL_isPlanned_205 rfl (by decide) ?_
  refine el_iload_n dL_isPlanned_206 rfl ?_
  refine el_iload dL_isPlanned_207 rfl ?_
  refine el_iload dL_isPlanned_209 rfl ?_
  show El _ _ _ _ _ _ 211 _ _ _
  refine el_iconst dL_isPlanned_211 (by decide) ?_
  obtain ⟨v24, hc25, h⟩ := bind_of h
  refine el_invV (k := (0 : Int)) (av := [(0, x3), (0, x4), (0, x15), (0, (1 : Int))]) (st := []) (r2 := (some (0, v24.1), rho, v24.2)) dL_isPlanned_212 ml_L_67 mv_X10_sits (T := TX10) (ci := 9) rfl sp0 (by decide) (by decide) rfl ⟨Nat.le_of_ble_eq_true rfl, Nat.le_of_ble_eq_true rfl⟩ (Nat.le_of_ble_eq_true rfl) (c_X10_sits hc25) ⟨Nat.le_refl _, Nat.le_refl _⟩ ?_
  show El _ _ _ _ _ _ 215 (lm m n (v24.2, (v21.2, σ.2).2)) _ ((0, v24.1) :: [])
  refine el_istoreG dL_isPlanned_215 h rfl (Nat.le_of_ble_eq_true rfl) (fun v26 h => ?_)
  show El _ _ _ _ _ _ 217 _ [(2, (0 : Int)), (3, (1 : Int)), (9, 0), (0, x3), (0, x4), (0, x5), (0, x6), (0, x7), (0, x8), (0, x9), (0, x10), (0, x11), (0, x12), (0, x13), (0, x14), (0, x15), (0, v23), (0, v26), (9, 0), (9, 0), (9, 0), (9, 0)] _
  refine el_aload_n dL_isPlanned_217 rfl (by decide) ?_
  refine el_iload_n dL_isPlanned_218 rfl ?_
  refine el_iload dL_isPlanned_219 rfl ?_
  refine el_iload dL_isPlanned_221 rfl ?_
  refine el_iconst dL_isPlanned_223 (by decide) ?_
  obtain ⟨v27, hc28, h⟩ := bind_of h
  refine el_invV (k := (0 : Int)) (av := [(0, x3), (0, x4), (0, x15), (0, (2 : Int))]) (st := []) (r2 := (some (0, v27.1), rho, v27.2)) dL_isPlanned_224 ml_L_67 mv_X10_sits (T := TX10) (ci := 9) rfl sp0 (by decide) (by decide) rfl ⟨Nat.le_of_ble_eq_true rfl, Nat.le_of_ble_eq_true rfl⟩ (Nat.le_of_ble_eq_true rfl) (c_X10_sits hc28) ⟨Nat.le_refl _, Nat.le_refl _⟩ ?_
  show El _ _ _ _ _ _ 227 (lm m n (v27.2, (v24.2, (v21.2, σ.2).2).2)) _ ((0, v27.1) :: [])
  refine el_istoreG dL_isPlanned_227 h rfl (Nat.le_of_ble_eq_true rfl) (fun v29 h => ?_)
  show El _ _ _ _ _ _ 229 _ [(2, (0 : Int)), (3, (1 : Int)), (9, 0), (0, x3), (0, x4), (0, x5), (0, x6), (0, x7), (0, x8), (0, x9), (0, x10), (0, x11), (0, x12), (0, x13), (0, x14), (0, x15), (0, v23), (0, v26), (0, v29), (9, 0), (9, 0), (9, 0)] _
  refine el_iload dL_isPlanned_229 rfl ?_
  refine el_if_eq (tgt := 297) dL_isPlanned_231 rfl h (fun cb h => ?_) (fun cb h => ?_)
  · exact el_sub (L2 := [(2, (0 : Int)), (3, (1 : Int)), (9, 0), (0, x3), (0, x4), (0, x5), (0, x6), (0, x7), (0, x8), (0, x9), (9, 0), (9, 0), (0, x12), (0, x13), (0, x14), (0, x15), (0, v23), (0, v26), (0, v29), (9, 0), (9, 0), (9, 0)]) (e_L_isPlanned_297 m n N xs hmn hN (v27.2, (v24.2, (v21.2, σ.2).2).2) x3 x4 x5 x6 x7 x8 x9 x12 x13 x14 x15 v23 v26 v29 h K) ⟨.inr rfl, .inr rfl, .inl rfl, .inr rfl, .inr rfl, .inr rfl, .inr rfl, .inr rfl, .inr rfl, .inr rfl, .inl rfl, .inl rfl, .inr rfl, .inr rfl, .inr rfl, .inr rfl, .inr rfl, .inr rfl, .inr rfl, .inl rfl, .inl rfl, .inl rfl, trivial⟩
  refine el_iload dL_isPlanned_234 rfl ?_
  refine el_iconst dL_isPlanned_236 (by decide) ?_
  refine el_iload dL_isPlanned_237 rfl ?_
  refine el_ishl dL_isPlanned_239 ?_
  refine el_iand dL_isPlanned_240 ?_
  refine el_if_eq (tgt := 297) dL_isPlanned_241 rfl h (fun cb h => ?_) (fun cb h => ?_)
  · exact el_sub (L2 := [(2, (0 : Int)), (3, (1 : Int)), (9, 0), (0, x3), (0, x4), (0, x5), (0, x6), (0, x7), (0, x8), (0, x9), (9, 0), (9, 0), (0, x12), (0, x13), (0, x14), (0, x15), (0, v23), (0, v26), (0, v29), (9, 0), (9, 0), (9, 0)]) (e_L_isPlanned_297 m n N xs hmn hN (v27.2, (v24.2, (v21.2, σ.2).2).2) x3 x4 x5 x6 x7 x8 x9 x12 x13 x14 x15 v23 v26 v29 h K) ⟨.inr rfl, .inr rfl, .inl rfl, .inr rfl, .inr rfl, .inr rfl, .inr rfl, .inr rfl, .inr rfl, .inr rfl, .inl rfl, .inl rfl, .inr rfl, .inr rfl, .inr rfl, .inr rfl, .inr rfl, .inr rfl, .inr rfl, .inl rfl, .inl rfl, .inl rfl, trivial⟩
  refine el_iload dL_isPlanned_244 rfl ?_
  refine el_iload dL_isPlanned_246 rfl ?_
  refine el_aloadS dL_isPlanned_248 rfl ?_
  refine el_iload dL_isPlanned_249 rfl ?_
  have hw30 := (chk_of h).1
  refine el_xaald (v := (2 + v23)) dL_isPlanned_251 xs_P x0_P xn_P h eta_P (fun h => ?_)
  refine el_iconst dL_isPlanned_252 (by decide) ?_
  refine el_xald dL_isPlanned_253 (xs_p (isPp_at (n := n) hw30)) (x0_p (isPp_at (n := n) hw30)) (xn_p (isPp_at (n := n) hw30)) h (fun h => ?_)
  refine el_icmp_le (tgt := 262) dL_isPlanned_254 rfl h (fun cb h => ?_) (fun cb h => ?_)
  · refine el_aloadS dL_isPlanned_262 rfl ?_
    refine el_iload dL_isPlanned_263 rfl ?_
    have hw31 := (chk_of h).1
    refine el_xaald (v := (2 + v23)) dL_isPlanned_265 xs_P x0_P xn_P h eta_P (fun h => ?_)
    refine el_iconst dL_isPlanned_266 (by decide) ?_
    refine el_xald dL_isPlanned_267 (xs_p (isPp_at (n := n) hw31)) (x0_p (isPp_at (n := n) hw31)) (xn_p (isPp_at (n := n) hw31)) h (fun h => ?_)
    exact el_sub (L2 := [(2, (0 : Int)), (3, (1 : Int)), (9, 0), (0, x3), (0, x4), (0, x5), (0, x6), (0, x7), (0, x8), (0, x9), (9, 0), (9, 0), (0, x12), (0, x13), (0, x14), (0, x15), (0, v23), (0, v26), (0, v29), (9, 0), (9, 0), (9, 0)]) (e_L_isPlanned_268 m n N xs hmn hN (v27.2, (v24.2, (v21.2, σ.2).2).2) x3 x4 x5 x6 x7 x8 x9 x12 x13 x14 x15 v23 v26 v29 ((v27.2, (v24.2, (v21.2, σ.2).2).2).2 (2 + v23) (1 : Int)) v26 h K) ⟨.inr rfl, .inr rfl, .inl rfl, .inr rfl, .inr rfl, .inr rfl, .inr rfl, .inr rfl, .inr rfl, .inr rfl, .inl rfl, .inl rfl, .inr rfl, .inr rfl, .inr rfl, .inr rfl, .inr rfl, .inr rfl, .inr rfl, .inl rfl, .inl rfl, .inl rfl, trivial⟩
  refine el_iload dL_isPlanned_257 rfl ?_
  refine el_goto (tgt := 268) dL_isPlanned_259 rfl ?_
  exact el_sub (L2 := [(2, (0 : Int)), (3, (1 : Int)), (9, 0), (0, x3), (0, x4), (0, x5), (0, x6), (0, x7), (0, x8), (0, x9), (9, 0), (9, 0), (0, x12), (0, x13), (0, x14), (0, x15), (0, v23), (0, v26), (0, v29), (9, 0), (9, 0), (9, 0)]) (e_L_isPlanned_268 m n N xs hmn hN (v27.2, (v24.2, (v21.2, σ.2).2).2) x3 x4 x5 x6 x7 x8 x9 x12 x13 x14 x15 v23 v26 v29 x11 v26 h K) ⟨.inr rfl, .inr rfl, .inl rfl, .inr rfl, .inr rfl, .inr rfl, .inr rfl, .inr rfl, .inr rfl, .inr rfl, .inl rfl, .inl rfl, .inr rfl, .inr rfl, .inr rfl, .inr rfl, .inr rfl, .inr rfl, .inr rfl, .inl rfl, .inl rfl, .inl rfl, trivial⟩
set_option maxHeartbeats 4000000 in
set_option maxRecDepth 20000 in
theorem e_L_isPlanned_186 (m n N : Nat) (xs : Nat → Int32) (hmn : m ≤ 10 ∧ n ≤ 4) (hN : (N : Int) ≤ 2147483647) (σ : M2) (x3 x4 x5 x6 x7 x8 x9 x10 x11 x12 x13 x14 x15 : Int)  {q : (Int × M2)} (h : f_L_isPlanned_186 m n N xs σ x3 x4 x5 x6 x7 x8 x9 x10 x11 x12 x13 x14 x15 = some q) : El (xsh m n) (M_L_isPlanned N xs) (false, false) (181, nX m n) (181, nX m n) (some (0, q.1), lm m n q.2) 186 (lm m n σ) [(2, (0 : Int)), (3, (1 : Int)), (9, 0), (0, x3), (0, x4), (0, x5), (0, x6), (0, x7), (0, x8), (0, x9), (0, x10), (0, x11), (0, x12), (0, x13), (0, x14), (0, x15), (9, 0), (9, 0), (9, 0), (9, 0), (9, 0), (9, 0)] [] := by
  unfold f_L_isPlanned_186 at h
  obtain ⟨e, hl, h⟩ := bind_of h
  refine loop_ev (K := K_L_isPlanned_186 m n N xs x3 x4 x5 x6 x7 x8 x9 x14 (some (0, q.1), lm m n q.2)) (b_L_isPlanned_186 m n N xs hmn hN x3 x4 x5 x6 x7 x8 x9 x14) FU (x10, x11, x12, x13, x15, σ) e hl ?_
  show El (xsh m n) (M_L_isPlanned N xs) (false, false) (181, nX m n) (181, nX m n) _ 334 (lm m n e.2.2.2) [(2, (0 : Int)), (3, (1 : Int)), (9, 0), (0, x3), (0, x4), (0, x5), (0, x6), (9, 0), (0, x8), (0, x9), (0, e.1), (9, 0), (0, e.2.1), (0, e.2.2.1), (0, x14), (9, 0), (9, 0), (9, 0), (9, 0), (9, 0), (9, 0), (9, 0)] []
  replace h : f_L_isPlanned_334 m n N xs e.2.2.2 x3 x4 x5 x6 x8 x9 e.1 e.2.1 e.2.2.1 x14 = some q := h
  exact el_sub (L2 := [(2, (0 : Int)), (3, (1 : Int)), (9, 0), (0, x3), (0, x4), (0, x5), (0, x6), (9, 0), (0, x8), (0, x9), (0, e.1), (9, 0), (0, e.2.1), (0, e.2.2.1), (0, x14), (9, 0), (9, 0), (9, 0), (9, 0), (9, 0), (9, 0), (9, 0)]) (e_L_isPlanned_334 m n N xs hmn hN e.2.2.2 x3 x4 x5 x6 x8 x9 e.1 e.2.1 e.2.2.1 x14 h) ⟨.inr rfl, .inr rfl, .inl rfl, .inr rfl, .inr rfl, .inr rfl, .inr rfl, .inl rfl, .inr rfl, .inr rfl, .inr rfl, .inl rfl, .inr rfl, .inr rfl, .inr rfl, .inl rfl, .inl rfl, .inl rfl, .inl rfl, .inl rfl, .inl rfl, .inl rfl, trivial⟩
set_option maxHeartbeats 4000000 in
set_option maxRecDepth 20000 in
theorem e_L_isPlanned_179 (m n N : Nat) (xs : Nat → Int32) (hmn : m ≤ 10 ∧ n ≤ 4) (hN : (N : Int) ≤ 2147483647) (σ : M2) (x3 x4 x5 x6 x7 x8 x9 x10 x11 x12 x13 : Int)  {q : (Int × M2)} (h : f_L_isPlanned_179 m n N xs σ x3 x4 x5 x6 x7 x8 x9 x10 x11 x12 x13 = some q) : El (xsh m n) (M_L_isPlanned N xs) (false, false) (181, nX m n) (181, nX m n) (some (0, q.1), lm m n q.2) 179 (lm m n σ) [(2, (0 : Int)), (3, (1 : Int)), (9, 0), (0, x3), (0, x4), (0, x5), (0, x6), (0, x7), (0, x8), (0, x9), (0, x10), (0, x11), (0, x12), (0, x13), (9, 0), (9, 0), (9, 0), (9, 0), (9, 0), (9, 0), (9, 0), (9, 0)] [] := by
  unfold f_L_isPlanned_179 at h
  refine el_iload dL_isPlanned_179 rfl ?_
  refine el_istore dL_isPlanned_181 rfl (Nat.le_of_ble_eq_true rfl) ?_
  show El _ _ _ _ _ _ 183 _ [(2, (0 : Int)), (3, (1 : Int)), (9, 0), (0, x3), (0, x4), (0, x5), (0, x6), (0, x7), (0, x8), (0, x9), (0, x10), (0, x11), (0, x12), (0, x13), (0, x13), (9, 0), (9, 0), (9, 0), (9, 0), (9, 0), (9, 0), (9, 0)] _
  refine el_iconst dL_isPlanned_183 (by decide) ?_
  refine el_istore dL_isPlanned_184 rfl (Nat.le_of_ble_eq_true rfl) ?_
  show El _ _ _ _ _ _ 186 _ [(2, (0 : Int)), (3, (1 : Int)), (9, 0), (0, x3), (0, x4), (0, x5), (0, x6), (0, x7), (0, x8), (0, x9), (0, x10), (0, x11), (0, x12), (0, x13), (0, x13), (0, (0 : Int)), (9, 0), (9, 0), (9, 0), (9, 0), (9, 0), (9, 0)] _
  exact el_sub (L2 := [(2, (0 : Int)), (3, (1 : Int)), (9, 0), (0, x3), (0, x4), (0, x5), (0, x6), (0, x7), (0, x8), (0, x9), (0, x10), (0, x11), (0, x12), (0, x13), (0, x13), (0, (0 : Int)), (9, 0), (9, 0), (9, 0), (9, 0), (9, 0), (9, 0)]) (e_L_isPlanned_186 m n N xs hmn hN σ x3 x4 x5 x6 x7 x8 x9 x10 x11 x12 x13 x13 (0 : Int) h) ⟨.inr rfl, .inr rfl, .inl rfl, .inr rfl, .inr rfl, .inr rfl, .inr rfl, .inr rfl, .inr rfl, .inr rfl, .inr rfl, .inr rfl, .inr rfl, .inr rfl, .inr rfl, .inr rfl, .inl rfl, .inl rfl, .inl rfl, .inl rfl, .inl rfl, .inl rfl, trivial⟩
set_option maxHeartbeats 4000000 in
set_option maxRecDepth 20000 in
theorem b_L_isPlanned_138 (m n N : Nat) (xs : Nat → Int32) (hmn : m ≤ 10 ∧ n ≤ 4) (hN : (N : Int) ≤ 2147483647) (σ : M2) (x2 x3 x4 x5 x6 x7 x8 x9 x10 x11 x12 : Int) (hx2 : isQ m n x2) {r : Option V × LM} : ∀ a x, f_L_isPlanned_138B m n N xs σ x2 x3 x4 x5 x6 x7 x8 x9 x10 x11 x12 a = some x → K_L_isPlanned_138 m n N xs σ x2 x3 x4 x5 x6 x7 x8 x9 x10 x11 x12 r x → K_L_isPlanned_138 m n N xs σ x2 x3 x4 x5 x6 x7 x8 x9 x10 x11 x12 r (.inl a) := by
  intro a x h K
  obtain ⟨x13, x14⟩ := a
  have h : f_L_isPlanned_138C m n N xs σ x2 x3 x4 x5 x6 x7 x8 x9 x10 x11 x12 x13 x14 = some x := h
  unfold f_L_isPlanned_138C at h
  show El (xsh m n) (M_L_isPlanned N xs) (false, false) (181, nX m n) (181, nX m n) r 138 (lm m n σ) [(2, (0 : Int)), (3, (1 : Int)), (3, x2), (0, x3), (0, x4), (0, x5), (0, x6), (0, x7), (0, x8), (0, x9), (0, x10), (0, x11), (0, x12), (0, x13), (0, x14), (9, 0), (9, 0), (9, 0), (9, 0), (9, 0), (9, 0), (9, 0)] []
  refine el_iload dL_isPlanned_138 rfl ?_
  refine el_aloadS dL_isPlanned_140 rfl ?_
  refine el_xlen (N := m) (d := 3) dL_isPlanned_141 xs_P (by decide) (by omega) x0_P xn_P ?_
  refine el_icmp_ge (tgt := 179) dL_isPlanned_142 rfl h (fun cb h => ?_) (fun cb h => ?_)
  · obtain rfl := Option.some.inj h
    exact el_sub (L2 := [(2, (0 : Int)), (3, (1 : Int)), (9, 0), (0, x3), (0, x4), (0, x5), (0, x6), (0, x7), (0, x8), (0, x9), (0, x10), (0, x11), (0, x12), (0, x13), (9, 0), (9, 0), (9, 0), (9, 0), (9, 0), (9, 0), (9, 0), (9, 0)]) K ⟨.inr rfl, .inr rfl, .inl rfl, .inr rfl, .inr rfl, .inr rfl, .inr rfl, .inr rfl, .inr rfl, .inr rfl, .inr rfl, .inr rfl, .inr rfl, .inr rfl, .inl rfl, .inl rfl, .inl rfl, .inl rfl, .inl rfl, .inl rfl, .inl rfl, .inl rfl, trivial⟩
  refine el_iload dL_isPlanned_145 rfl ?_
  refine el_aloadS dL_isPlanned_147 rfl ?_
  refine el_iload dL_isPlanned_148 rfl ?_
  have hw18 := (chk_of h).1
  refine el_xaald (v := (2 + x14)) dL_isPlanned_150 xs_P x0_P xn_P h eta_P (fun h => ?_)
  refine el_iconst dL_isPlanned_151 (by decide) ?_
  refine el_xald dL_isPlanned_152 (xs_p (isPp_at (n := n) hw18)) (x0_p (isPp_at (n := n) hw18)) (xn_p (isPp_at (n := n) hw18)) h (fun h => ?_)
  refine el_iload dL_isPlanned_153 rfl ?_
  refine el_icmp_ne (tgt := 169) dL_isPlanned_155 rfl h (fun cb h => ?_) (fun cb h => ?_)
  · refine el_iconst dL_isPlanned_169 (by decide) ?_
    exact el_sub (L2 := [(2, (0 : Int)), (3, (1 : Int)), (3, x2), (0, x3), (0, x4), (0, x5), (0, x6), (0, x7), (0, x8), (0, x9), (0, x10), (0, x11), (0, x12), (9, 0), (0, x14), (9, 0), (9, 0), (9, 0), (9, 0), (9, 0), (9, 0), (9, 0)]) (e_L_isPlanned_170 m n N xs hmn hN σ x2 x3 x4 x5 x6 x7 x8 x9 x10 x11 x12 x14 (0 : Int) x13 hx2 h K) ⟨.inr rfl, .inr rfl, .inr rfl, .inr rfl, .inr rfl, .inr rfl, .inr rfl, .inr rfl, .inr rfl, .inr rfl, .inr rfl, .inr rfl, .inr rfl, .inl rfl, .inr rfl, .inl rfl, .inl rfl, .inl rfl, .inl rfl, .inl rfl, .inl rfl, .inl rfl, trivial⟩
  refine el_aloadS dL_isPlanned_158 rfl ?_
  refine el_iconst dL_isPlanned_159 (by decide) ?_
  refine el_xald dL_isPlanned_160 (xs_q hx2) (x0_q hx2) (xn_q hx2) h (fun h => ?_)
  refine el_iconst dL_isPlanned_161 (by decide) ?_
  refine el_iload dL_isPlanned_162 rfl ?_
  refine el_ishl dL_isPlanned_164 ?_
  refine el_iand dL_isPlanned_165 ?_
  refine el_goto (tgt := 170) dL_isPlanned_166 rfl ?_
  exact el_sub (L2 := [(2, (0 : Int)), (3, (1 : Int)), (3, x2), (0, x3), (0, x4), (0, x5), (0, x6), (0, x7), (0, x8), (0, x9), (0, x10), (0, x11), (0, x12), (9, 0), (0, x14), (9, 0), (9, 0), (9, 0), (9, 0), (9, 0), (9, 0), (9, 0)]) (e_L_isPlanned_170 m n N xs hmn hN σ x2 x3 x4 x5 x6 x7 x8 x9 x10 x11 x12 x14 (jand (σ.2 x2 (3 : Int)) (jshl (1 : Int) x14)) x13 hx2 h K) ⟨.inr rfl, .inr rfl, .inr rfl, .inr rfl, .inr rfl, .inr rfl, .inr rfl, .inr rfl, .inr rfl, .inr rfl, .inr rfl, .inr rfl, .inr rfl, .inl rfl, .inr rfl, .inl rfl, .inl rfl, .inl rfl, .inl rfl, .inl rfl, .inl rfl, .inl rfl, trivial⟩
set_option maxHeartbeats 4000000 in
set_option maxRecDepth 20000 in
theorem e_L_isPlanned_138 (m n N : Nat) (xs : Nat → Int32) (hmn : m ≤ 10 ∧ n ≤ 4) (hN : (N : Int) ≤ 2147483647) (σ : M2) (x2 x3 x4 x5 x6 x7 x8 x9 x10 x11 x12 x13 x14 : Int) (hx2 : isQ m n x2) {q : (Int × M2)} (h : f_L_isPlanned_138 m n N xs σ x2 x3 x4 x5 x6 x7 x8 x9 x10 x11 x12 x13 x14 = some q) : El (xsh m n) (M_L_isPlanned N xs) (false, false) (181, nX m n) (181, nX m n) (some (0, q.1), lm m n q.2) 138 (lm m n σ) [(2, (0 : Int)), (3, (1 : Int)), (3, x2), (0, x3), (0, x4), (0, x5), (0, x6), (0, x7), (0, x8), (0, x9), (0, x10), (0, x11), (0, x12), (0, x13), (0, x14), (9, 0), (9, 0), (9, 0), (9, 0), (9, 0), (9, 0), (9, 0)] [] := by
  unfold f_L_isPlanned_138 at h
  obtain ⟨e, hl, h⟩ := bind_of h
  refine loop_ev (K := K_L_isPlanned_138 m n N xs σ x2 x3 x4 x5 x6 x7 x8 x9 x10 x11 x12 (some (0, q.1), lm m n q.2)) (b_L_isPlanned_138 m n N xs hmn hN σ x2 x3 x4 x5 x6 x7 x8 x9 x10 x11 x12 hx2) FU (x13, x14) e hl ?_
  show El (xsh m n) (M_L_isPlanned N xs) (false, false) (181, nX m n) (181, nX m n) _ 179 (lm m n σ) [(2, (0 : Int)), (3, (1 : Int)), (9, 0), (0, x3), (0, x4), (0, x5), (0, x6), (0, x7), (0, x8), (0, x9), (0, x10), (0, x11), (0, x12), (0, e), (9, 0), (9, 0), (9, 0), (9, 0), (9, 0), (9, 0), (9, 0), (9, 0)] []
  replace h : f_L_isPlanned_179 m n N xs σ x3 x4 x5 x6 x7 x8 x9 x10 x11 x12 e = some q := h
  exact el_sub (L2 := [(2, (0 : Int)), (3, (1 : Int)), (9, 0), (0, x3), (0, x4), (0, x5), (0, x6), (0, x7), (0, x8), (0, x9), (0, x10), (0, x11), (0, x12), (0, e), (9, 0), (9, 0), (9, 0), (9, 0), (9, 0), (9, 0), (9, 0), (9, 0)]) (e_L_isPlanned_179 m n N xs hmn hN σ x3 x4 x5 x6 x7 x8 x9 x10 x11 x12 e h) ⟨.inr rfl, .inr rfl, .inl rfl, .inr rfl, .inr rfl, .inr rfl, .inr rfl, .inr rfl, .inr rfl, .inr rfl, .inr rfl, .inr rfl, .inr rfl, .inr rfl, .inl rfl, .inl rfl, .inl rfl, .inl rfl, .inl rfl, .inl rfl, .inl rfl, .inl rfl, trivial⟩
set_option maxHeartbeats 4000000 in
set_option maxRecDepth 20000 in
theorem e_L_isPlanned_126 (m n N : Nat) (xs : Nat → Int32) (hmn : m ≤ 10 ∧ n ≤ 4) (hN : (N : Int) ≤ 2147483647) (σ : M2) (x2 x3 x4 x5 x6 x7 x8 x9 x10 s0 : Int) (hx2 : isQ m n x2) {q : (Int × M2)} (h : f_L_isPlanned_126 m n N xs σ x2 x3 x4 x5 x6 x7 x8 x9 x10 s0 = some q) : El (xsh m n) (M_L_isPlanned N xs) (false, false) (181, nX m n) (181, nX m n) (some (0, q.1), lm m n q.2) 126 (lm m n σ) [(2, (0 : Int)), (3, (1 : Int)), (3, x2), (0, x3), (0, x4), (0, x5), (0, x6), (0, x7), (0, x8), (0, x9), (0, x10), (9, 0), (9, 0), (9, 0), (9, 0), (9, 0), (9, 0), (9, 0), (9, 0), (9, 0), (9, 0), (9, 0)] [(0, s0)] := by
  unfold f_L_isPlanned_126 at h
  refine el_istore dL_isPlanned_126 rfl (Nat.le_of_ble_eq_true rfl) ?_
  show El _ _ _ _ _ _ 128 _ [(2, (0 : Int)), (3, (1 : Int)), (3, x2), (0, x3), (0, x4), (0, x5), (0, x6), (0, x7), (0, x8), (0, x9), (0, x10), (0, s0), (9, 0), (9, 0), (9, 0), (9, 0), (9, 0), (9, 0), (9, 0), (9, 0), (9, 0), (9, 0)] _
  refine el_iload dL_isPlanned_128 rfl ?_
  refine el_istore dL_isPlanned_130 rfl (Nat.le_of_ble_eq_true rfl) ?_
  show El _ _ _ _ _ _ 132 _ [(2, (0 : Int)), (3, (1 : Int)), (3, x2), (0, x3), (0, x4), (0, x5), (0, x6), (0, x7), (0, x8), (0, x9), (0, x10), (0, s0), (0, x6), (9, 0), (9, 0), (9, 0), (9, 0), (9, 0), (9, 0), (9, 0), (9, 0), (9, 0)] _
  refine el_iconst dL_isPlanned_132 (by decide) ?_
  refine el_istore dL_isPlanned_133 rfl (Nat.le_of_ble_eq_true rfl) ?_
  show El _ _ _ _ _ _ 135 _ [(2, (0 : Int)), (3, (1 : Int)), (3, x2), (0, x3), (0, x4), (0, x5), (0, x6), (0, x7), (0, x8), (0, x9), (0, x10), (0, s0), (0, x6), (0, (0 : Int)), (9, 0), (9, 0), (9, 0), (9, 0), (9, 0), (9, 0), (9, 0), (9, 0)] _
  refine el_iconst dL_isPlanned_135 (by decide) ?_
  refine el_istore dL_isPlanned_136 rfl (Nat.le_of_ble_eq_true rfl) ?_
  show El _ _ _ _ _ _ 138 _ [(2, (0 : Int)), (3, (1 : Int)), (3, x2), (0, x3), (0, x4), (0, x5), (0, x6), (0, x7), (0, x8), (0, x9), (0, x10), (0, s0), (0, x6), (0, (0 : Int)), (0, (0 : Int)), (9, 0), (9, 0), (9, 0), (9, 0), (9, 0), (9, 0), (9, 0)] _
  exact el_sub (L2 := [(2, (0 : Int)), (3, (1 : Int)), (3, x2), (0, x3), (0, x4), (0, x5), (0, x6), (0, x7), (0, x8), (0, x9), (0, x10), (0, s0), (0, x6), (0, (0 : Int)), (0, (0 : Int)), (9, 0), (9, 0), (9, 0), (9, 0), (9, 0), (9, 0), (9, 0)]) (e_L_isPlanned_138 m n N xs hmn hN σ x2 x3 x4 x5 x6 x7 x8 x9 x10 s0 x6 (0 : Int) (0 : Int) hx2 h) ⟨.inr rfl, .inr rfl, .inr rfl, .inr rfl, .inr rfl, .inr rfl, .inr rfl, .inr rfl, .inr rfl, .inr rfl, .inr rfl, .inr rfl, .inr rfl, .inr rfl, .inr rfl, .inl rfl, .inl rfl, .inl rfl, .inl rfl, .inl rfl, .inl rfl, .inl rfl, trivial⟩
set_option maxHeartbeats 4000000 in
set_option maxRecDepth 20000 in
theorem e_L_isPlanned_110 (m n N : Nat) (xs : Nat → Int32) (hmn : m ≤ 10 ∧ n ≤ 4) (hN : (N : Int) ≤ 2147483647) (σ : M2) (x2 x3 x4 x5 x6 x7 x8 x9 s0 : Int) (hx2 : isQ m n x2) {q : (Int × M2)} (h : f_L_isPlanned_110 m n N xs σ x2 x3 x4 x5 x6 x7 x8 x9 s0 = some q) : El (xsh m n) (M_L_isPlanned N xs) (false, false) (181, nX m n) (181, nX m n) (some (0, q.1), lm m n q.2) 110 (lm m n σ) [(2, (0 : Int)), (3, (1 : Int)), (3, x2), (0, x3), (0, x4), (0, x5), (0, x6), (0, x7), (0, x8), (0, x9), (9, 0), (9, 0), (9, 0), (9, 0), (9, 0), (9, 0), (9, 0), (9, 0), (9, 0), (9, 0), (9, 0), (9, 0)] [(0, s0)] := by
  unfold f_L_isPlanned_110 at h
  refine el_istore dL_isPlanned_110 rfl (Nat.le_of_ble_eq_true rfl) ?_
  show El _ _ _ _ _ _ 112 _ [(2, (0 : Int)), (3, (1 : Int)), (3, x2), (0, x3), (0, x4), (0, x5), (0, x6), (0, x7), (0, x8), (0, x9), (0, s0), (9, 0), (9, 0), (9, 0), (9, 0), (9, 0), (9, 0), (9, 0), (9, 0), (9, 0), (9, 0), (9, 0)] _
  refine el_iload dL_isPlanned_112 rfl ?_
  refine el_if_ge (tgt := 121) dL_isPlanned_114 rfl h (fun cb h => ?_) (fun cb h => ?_)
  · refine el_iload dL_isPlanned_121 rfl ?_
    refine el_iload dL_isPlanned_123 rfl ?_
    refine el_iadd dL_isPlanned_125 ?_
    exact el_sub (L2 := [(2, (0 : Int)), (3, (1 : Int)), (3, x2), (0, x3), (0, x4), (0, x5), (0, x6), (0, x7), (0, x8), (0, x9), (0, s0), (9, 0), (9, 0), (9, 0), (9, 0), (9, 0), (9, 0), (9, 0), (9, 0), (9, 0), (9, 0), (9, 0)]) (e_L_isPlanned_126 m n N xs hmn hN σ x2 x3 x4 x5 x6 x7 x8 x9 s0 (jadd x6 x7) hx2 h) ⟨.inr rfl, .inr rfl, .inr rfl, .inr rfl, .inr rfl, .inr rfl, .inr rfl, .inr rfl, .inr rfl, .inr rfl, .inr rfl, .inl rfl, .inl rfl, .inl rfl, .inl rfl, .inl rfl, .inl rfl, .inl rfl, .inl rfl, .inl rfl, .inl rfl, .inl rfl, trivial⟩
  refine el_iconst dL_isPlanned_117 (by decide) ?_
  refine el_goto (tgt := 126) dL_isPlanned_118 rfl ?_
  exact el_sub (L2 := [(2, (0 : Int)), (3, (1 : Int)), (3, x2), (0, x3), (0, x4), (0, x5), (0, x6), (0, x7), (0, x8), (0, x9), (0, s0), (9, 0), (9, 0), (9, 0), (9, 0), (9, 0), (9, 0), (9, 0), (9, 0), (9, 0), (9, 0), (9, 0)]) (e_L_isPlanned_126 m n N xs hmn hN σ x2 x3 x4 x5 x6 x7 x8 x9 s0 (0 : Int) hx2 h) ⟨.inr rfl, .inr rfl, .inr rfl, .inr rfl, .inr rfl, .inr rfl, .inr rfl, .inr rfl, .inr rfl, .inr rfl, .inr rfl, .inl rfl, .inl rfl, .inl rfl, .inl rfl, .inl rfl, .inl rfl, .inl rfl, .inl rfl, .inl rfl, .inl rfl, .inl rfl, trivial⟩
set_option maxHeartbeats 4000000 in
set_option maxRecDepth 20000 in
theorem e_L_isPlanned_109 (m n N : Nat) (xs : Nat → Int32) (hmn : m ≤ 10 ∧ n ≤ 4) (hN : (N : Int) ≤ 2147483647) (σ : M2) (x2 x3 x4 x5 x6 x7 x8 x9 : Int) (hx2 : isQ m n x2) {q : (Int × M2)} (h : f_L_isPlanned_109 m n N xs σ x2 x3 x4 x5 x6 x7 x8 x9 = some q) : El (xsh m n) (M_L_isPlanned N xs) (false, false) (181, nX m n) (181, nX m n) (some (0, q.1), lm m n q.2) 109 (lm m n σ) [(2, (0 : Int)), (3, (1 : Int)), (3, x2), (0, x3), (0, x4), (0, x5), (0, x6), (0, x7), (0, x8), (0, x9), (9, 0), (9, 0), (9, 0), (9, 0), (9, 0), (9, 0), (9, 0), (9, 0), (9, 0), (9, 0), (9, 0), (9, 0)] [] := by
  unfold f_L_isPlanned_109 at h
  refine el_iconst dL_isPlanned_109 (by decide) ?_
  exact el_sub (L2 := [(2, (0 : Int)), (3, (1 : Int)), (3, x2), (0, x3), (0, x4), (0, x5), (0, x6), (0, x7), (0, x8), (0, x9), (9, 0), (9, 0), (9, 0), (9, 0), (9, 0), (9, 0), (9, 0), (9, 0), (9, 0), (9, 0), (9, 0), (9, 0)]) (e_L_isPlanned_110 m n N xs hmn hN σ x2 x3 x4 x5 x6 x7 x8 x9 (0 : Int) hx2 h) ⟨.inr rfl, .inr rfl, .inr rfl, .inr rfl, .inr rfl, .inr rfl, .inr rfl, .inr rfl, .inr rfl, .inr rfl, .inl rfl, .inl rfl, .inl rfl, .inl rfl, .inl rfl, .inl rfl, .inl rfl, .inl rfl, .inl rfl, .inl rfl, .inl rfl, .inl rfl, trivial⟩
set_option maxHeartbeats 4000000 in
set_option maxRecDepth 20000 in
theorem e_L_isPlanned_102 (m n N : Nat) (xs : Nat → Int32) (hmn : m ≤ 10 ∧ n ≤ 4) (hN : (N : Int) ≤ 2147483647) (σ : M2) (x2 x3 x4 x5 x6 x7 x8 x9 s1 s0 : Int) (hx2 : isQ m n x2) {q : (Int × M2)} (h : f_L_isPlanned_102 m n N xs σ x2 x3 x4 x5 x6 x7 x8 x9 s1 s0 = some q) : El (xsh m n) (M_L_isPlanned N xs) (false, false) (181, nX m n) (181, nX m n) (some (0, q.1), lm m n q.2) 102 (lm m n σ) [(2, (0 : Int)), (3, (1 : Int)), (3, x2), (0, x3), (0, x4), (0, x5), (0, x6), (0, x7), (0, x8), (0, x9), (9, 0), (9, 0), (9, 0), (9, 0), (9, 0), (9, 0), (9, 0), (9, 0), (9, 0), (9, 0), (9, 0), (9, 0)] [(0, s1), (0, s0)] := by
  unfold f_L_isPlanned_102 at h
  refine el_icmp_ne (tgt := 109) dL_isPlanned_102 rfl h (fun cb h => ?_) (fun cb h => ?_)
  · exact el_sub (L2 := [(2, (0 : Int)), (3, (1 : Int)), (3, x2), (0, x3), (0, x4), (0, x5), (0, x6), (0, x7), (0, x8), (0, x9), (9, 0), (9, 0), (9, 0), (9, 0), (9, 0), (9, 0), (9, 0), (9, 0), (9, 0), (9, 0), (9, 0), (9, 0)]) (e_L_isPlanned_109 m n N xs hmn hN σ x2 x3 x4 x5 x6 x7 x8 x9 hx2 h) ⟨.inr rfl, .inr rfl, .inr rfl, .inr rfl, .inr rfl, .inr rfl, .inr rfl, .inr rfl, .inr rfl, .inr rfl, .inl rfl, .inl rfl, .inl rfl, .inl rfl, .inl rfl, .inl rfl, .inl rfl, .inl rfl, .inl rfl, .inl rfl, .inl rfl, .inl rfl, trivial⟩
  refine el_iconst dL_isPlanned_105 (by decide) ?_
  refine el_goto (tgt := 110) dL_isPlanned_106 rfl ?_
  exact el_sub (L2 := [(2, (0 : Int)), (3, (1 : Int)), (3, x2), (0, x3), (0, x4), (0, x5), (0, x6), (0, x7), (0, x8), (0, x9), (9, 0), (9, 0), (9, 0), (9, 0), (9, 0), (9, 0), (9, 0), (9, 0), (9, 0), (9, 0), (9, 0), (9, 0)]) (e_L_isPlanned_110 m n N xs hmn hN σ x2 x3 x4 x5 x6 x7 x8 x9 (1 : Int) hx2 h) ⟨.inr rfl, .inr rfl, .inr rfl, .inr rfl, .inr rfl, .inr rfl, .inr rfl, .inr rfl, .inr rfl, .inr rfl, .inl rfl, .inl rfl, .inl rfl, .inl rfl, .inl rfl, .inl rfl, .inl rfl, .inl rfl, .inl rfl, .inl rfl, .inl rfl, .inl rfl, trivial⟩
set_option maxHeartbeats 4000000 in
set_option maxRecDepth 20000 in
theorem e_L_isPlanned_37 (m n N : Nat) (xs : Nat → Int32) (hmn : m ≤ 10 ∧ n ≤ 4) (hN : (N : Int) ≤ 2147483647) (σ : M2) (x2 x3 x4 x5 s0 : Int) (hx2 : isQ m n x2) {q : (Int × M2)} (h : f_L_isPlanned_37 m n N xs σ x2 x3 x4 x5 s0 = some q) : El (xsh m n) (M_L_isPlanned N xs) (false, false) (181, nX m n) (181, nX m n) (some (0, q.1), lm m n q.2) 37 (lm m n σ) [(2, (0 : Int)), (3, (1 : Int)), (3, x2), (0, x3), (0, x4), (0, x5), (9, 0), (9, 0), (9, 0), (9, 0), (9, 0), (9, 0), (9, 0), (9, 0), (9, 0), (9, 0), (9, 0), (9, 0), (9, 0), (9, 0), (9, 0), (9, 0)] [(0, s0)] := by
  unfold f_L_isPlanned_37 at h
  refine el_istore dL_isPlanned_37 rfl (Nat.le_of_ble_eq_true rfl) ?_
  show El _ _ _ _ _ _ 39 _ [(2, (0 : Int)), (3, (1 : Int)), (3, x2), (0, x3), (0, x4), (0, x5), (0, s0), (9, 0), (9, 0), (9, 0), (9, 0), (9, 0), (9, 0), (9, 0), (9, 0), (9, 0), (9, 0), (9, 0), (9, 0), (9, 0), (9, 0), (9, 0)] _
  refine el_aload_n dL_isPlanned_39 rfl (by decide) ?_
  refine el_iload_n dL_isPlanned_40 rfl ?_
  refine el_iconst dL_isPlanned_41 (by decide) ?_
  obtain ⟨v5, hc6, h⟩ := bind_of h
  refine el_invV (k := (0 : Int)) (av := [(0, x3), (0, (4 : Int))]) (st := []) (r2 := (some (0, v5.1), rho, v5.2)) dL_isPlanned_42 ml_L_55 mv_X10_candOf (T := TX10) (ci := 9) rfl sp0 (by decide) (by decide) rfl ⟨Nat.le_of_ble_eq_true rfl, Nat.le_of_ble_eq_true rfl⟩ (Nat.le_of_ble_eq_true rfl) (c_X10_candOf hc6) ⟨Nat.le_refl _, Nat.le_refl _⟩ ?_
  show El _ _ _ _ _ _ 45 (lm m n (v5.2, σ.2)) _ ((0, v5.1) :: [])
  refine el_istoreG dL_isPlanned_45 h rfl (Nat.le_of_ble_eq_true rfl) (fun v7 h => ?_)
  show El _ _ _ _ _ _ 47 _ [(2, (0 : Int)), (3, (1 : Int)), (3, x2), (0, x3), (0, x4), (0, x5), (0, s0), (0, v7), (9, 0), (9, 0), (9, 0), (9, 0), (9, 0), (9, 0), (9, 0), (9, 0), (9, 0), (9, 0), (9, 0), (9, 0), (9, 0), (9, 0)] _
  refine el_aload_n dL_isPlanned_47 rfl (by decide) ?_
  refine el_iload_n dL_isPlanned_48 rfl ?_
  refine el_iload dL_isPlanned_49 rfl ?_
  refine el_iconst dL_isPlanned_51 (by decide) ?_
  obtain ⟨v8, hc9, h⟩ := bind_of h
  refine el_invV (k := (0 : Int)) (av := [(0, x3), (0, x4), (0, (5 : Int))]) (st := []) (r2 := (some (0, v8.1), rho, v8.2)) dL_isPlanned_52 ml_L_58 mv_X10_plan (T := TX10) (ci := 9) rfl sp0 (by decide) (by decide) rfl ⟨Nat.le_of_ble_eq_true rfl, Nat.le_of_ble_eq_true rfl⟩ (Nat.le_of_ble_eq_true rfl) (c_X10_plan hc9) ⟨Nat.le_refl _, Nat.le_refl _⟩ ?_
  show El _ _ _ _ _ _ 55 (lm m n (v8.2, (v5.2, σ.2).2)) _ ((0, v8.1) :: [])
  show El _ _ _ _ _ _ 55 _ _ _
  refine el_istoreG dL_isPlanned_55 h rfl (Nat.le_of_ble_eq_true rfl) (fun v10 h => ?_)
  show El _ _ _ _ _ _ 57 _ [(2, (0 : Int)), (3, (1 : Int)), (3, x2), (0, x3), (0, x4), (0, x5), (0, s0), (0, v7), (0, v10), (9, 0), (9, 0), (9, 0), (9, 0), (9, 0), (9, 0), (9, 0), (9, 0), (9, 0), (9, 0), (9, 0), (9, 0), (9, 0)] _
  refine el_aload_n dL_isPlanned_57 rfl (by decide) ?_
  refine el_iload_n dL_isPlanned_58 rfl ?_
  refine el_iload dL_isPlanned_59 rfl ?_
  refine el_iconst dL_isPlanned_61 (by decide) ?_
  obtain ⟨v11, hc12, h⟩ := bind_of h
  refine el_invV (k := (0 : Int)) (av := [(0, x3), (0, x4), (0, (2 : Int))]) (st := []) (r2 := (some (0, v11.1), rho, v11.2)) dL_isPlanned_62 ml_L_58 mv_X10_plan (T := TX10) (ci := 9) rfl sp0 (by decide) (by decide) rfl ⟨Nat.le_of_ble_eq_true rfl, Nat.le_of_ble_eq_true rfl⟩ (Nat.le_of_ble_eq_true rfl) (c_X10_plan hc12) ⟨Nat.le_refl _, Nat.le_refl _⟩ ?_
  show El _ _ _ _ _ _ 65 (lm m n (v11.2, (v8.2, (v5.2, σ.2).2).2)) _ ((0, v11.1) :: [])
  refine el_istoreG dL_isPlanned_65 h rfl (Nat.le_of_ble_eq_true rfl) (fun v13 h => ?_)
  show El _ _ _ _ _ _ 67 _ [(2, (0 : Int)), (3, (1 : Int)), (3, x2), (0, x3), (0, x4), (0, x5), (0, s0), (0, v7), (0, v10), (0, v13), (9, 0), (9, 0), (9, 0), (9, 0), (9, 0), (9, 0), (9, 0), (9, 0), (9, 0), (9, 0), (9, 0), (9, 0)] _
  refine el_aload_n dL_isPlanned_67 rfl (by decide) ?_
  refine el_iload_n dL_isPlanned_68 rfl ?_
  refine el_iload dL_isPlanned_69 rfl ?_
  refine el_iconst dL_isPlanned_71 (by decide) ?_
  obtain ⟨v14, hc15, h⟩ := bind_of h
  refine el_invV (k := (0 : Int)) (av := [(0, x3), (0, x4), (0, (4 : Int))]) (st := []) (r2 := (some (0, v14.1), rho, v14.2)) dL_isPlanned_72 ml_L_58 mv_X10_plan (T := TX10) (ci := 9) rfl sp0 (by decide) (by decide) rfl ⟨Nat.le_of_ble_eq_true rfl, Nat.le_of_ble_eq_true rfl⟩ (Nat.le_of_ble_eq_true rfl) (c_X10_plan hc15) ⟨Nat.le_refl _, Nat.le_refl _⟩ ?_
  show El _ _ _ _ _ _ 75 (lm m n (v14.2, (v11.2, (v8.2, (v5.2, σ.2).2).2).2)) _ ((0, v14.1) :: [])
  show El _ _ _ _ _ _ 75 _ _ _
  refine el_iload dL_isPlanned_75 rfl ?_
  refine el_icmp_ne (tgt := 109) dL_isPlanned_77 rfl h (fun cb h => ?_) (fun cb h => ?_)
  · exact el_sub (L2 := [(2, (0 : Int)), (3, (1 : Int)), (3, x2), (0, x3), (0, x4), (0, x5), (0, s0), (0, v7), (0, v10), (0, v13), (9, 0), (9, 0), (9, 0), (9, 0), (9, 0), (9, 0), (9, 0), (9, 0), (9, 0), (9, 0), (9, 0), (9, 0)]) (e_L_isPlanned_109 m n N xs hmn hN (v14.2, (v11.2, (v8.2, (v5.2, σ.2).2).2).2) x2 x3 x4 x5 s0 v7 v10 v13 hx2 h) ⟨.inr rfl, .inr rfl, .inr rfl, .inr rfl, .inr rfl, .inr rfl, .inr rfl, .inr rfl, .inr rfl, .inr rfl, .inl rfl, .inl rfl, .inl rfl, .inl rfl, .inl rfl, .inl rfl, .inl rfl, .inl rfl, .inl rfl, .inl rfl, .inl rfl, .inl rfl, trivial⟩
  refine el_aload_n dL_isPlanned_80 rfl (by decide) ?_
  refine el_iload_n dL_isPlanned_81 rfl ?_
  refine el_iload dL_isPlanned_82 rfl ?_
  refine el_iconst dL_isPlanned_84 (by decide) ?_
  obtain ⟨v16, hc17, h⟩ := bind_of h
  refine el_invV (k := (0 : Int)) (av := [(0, x3), (0, x4), (0, (3 : Int))]) (st := []) (r2 := (some (0, v16.1), rho, v16.2)) dL_isPlanned_85 ml_L_58 mv_X10_plan (T := TX10) (ci := 9) rfl sp0 (by decide) (by decide) rfl ⟨Nat.le_of_ble_eq_true rfl, Nat.le_of_ble_eq_true rfl⟩ (Nat.le_of_ble_eq_true rfl) (c_X10_plan hc17) ⟨Nat.le_refl _, Nat.le_refl _⟩ ?_
  show El _ _ _ _ _ _ 88 (lm m n (v16.2, (v14.2, (v11.2, (v8.2, (v5.2, σ.2).2).2).2).2)) _ ((0, v16.1) :: [])
  refine el_iload dL_isPlanned_88 rfl ?_
  refine el_if_ge (tgt := 97) dL_isPlanned_90 rfl h (fun cb h => ?_) (fun cb h => ?_)
  · refine el_iload dL_isPlanned_97 rfl ?_
    refine el_iload dL_isPlanned_99 rfl ?_
    refine el_iadd dL_isPlanned_101 ?_
    exact el_sub (L2 := [(2, (0 : Int)), (3, (1 : Int)), (3, x2), (0, x3), (0, x4), (0, x5), (0, s0), (0, v7), (0, v10), (0, v13), (9, 0), (9, 0), (9, 0), (9, 0), (9, 0), (9, 0), (9, 0), (9, 0), (9, 0), (9, 0), (9, 0), (9, 0)]) (e_L_isPlanned_102 m n N xs hmn hN (v16.2, (v14.2, (v11.2, (v8.2, (v5.2, σ.2).2).2).2).2) x2 x3 x4 x5 s0 v7 v10 v13 (jadd s0 v7) v16.1 hx2 h) ⟨.inr rfl, .inr rfl, .inr rfl, .inr rfl, .inr rfl, .inr rfl, .inr rfl, .inr rfl, .inr rfl, .inr rfl, .inl rfl, .inl rfl, .inl rfl, .inl rfl, .inl rfl, .inl rfl, .inl rfl, .inl rfl, .inl rfl, .inl rfl, .inl rfl, .inl rfl, trivial⟩
  refine el_iconst dL_isPlanned_93 (by decide) ?_
  refine el_goto (tgt := 102) dL_isPlanned_94 rfl ?_
  exact el_sub (L2 := [(2, (0 : Int)), (3, (1 : Int)), (3, x2), (0, x3), (0, x4), (0, x5), (0, s0), (0, v7), (0, v10), (0, v13), (9, 0), (9, 0), (9, 0), (9, 0), (9, 0), (9, 0), (9, 0), (9, 0), (9, 0), (9, 0), (9, 0), (9, 0)]) (e_L_isPlanned_102 m n N xs hmn hN (v16.2, (v14.2, (v11.2, (v8.2, (v5.2, σ.2).2).2).2).2) x2 x3 x4 x5 s0 v7 v10 v13 (0 : Int) v16.1 hx2 h) ⟨.inr rfl, .inr rfl, .inr rfl, .inr rfl, .inr rfl, .inr rfl, .inr rfl, .inr rfl, .inr rfl, .inr rfl, .inl rfl, .inl rfl, .inl rfl, .inl rfl, .inl rfl, .inl rfl, .inl rfl, .inl rfl, .inl rfl, .inl rfl, .inl rfl, .inl rfl, trivial⟩
set_option maxHeartbeats 4000000 in
set_option maxRecDepth 20000 in
theorem e_L_isPlanned_19 (m n N : Nat) (xs : Nat → Int32) (hmn : m ≤ 10 ∧ n ≤ 4) (hN : (N : Int) ≤ 2147483647) (σ : M2) (x2 x3 x4 s0 : Int) (hx2 : isQ m n x2) {q : (Int × M2)} (h : f_L_isPlanned_19 m n N xs σ x2 x3 x4 s0 = some q) : El (xsh m n) (M_L_isPlanned N xs) (false, false) (181, nX m n) (181, nX m n) (some (0, q.1), lm m n q.2) 19 (lm m n σ) [(2, (0 : Int)), (3, (1 : Int)), (3, x2), (0, x3), (0, x4), (9, 0), (9, 0), (9, 0), (9, 0), (9, 0), (9, 0), (9, 0), (9, 0), (9, 0), (9, 0), (9, 0), (9, 0), (9, 0), (9, 0), (9, 0), (9, 0), (9, 0)] [(0, s0)] := by
  unfold f_L_isPlanned_19 at h
  refine el_istore dL_isPlanned_19 rfl (Nat.le_of_ble_eq_true rfl) ?_
  show El _ _ _ _ _ _ 21 _ [(2, (0 : Int)), (3, (1 : Int)), (3, x2), (0, x3), (0, x4), (0, s0), (9, 0), (9, 0), (9, 0), (9, 0), (9, 0), (9, 0), (9, 0), (9, 0), (9, 0), (9, 0), (9, 0), (9, 0), (9, 0), (9, 0), (9, 0), (9, 0)] _
  refine el_iload dL_isPlanned_21 rfl ?_
  refine el_if_ge (tgt := 30) dL_isPlanned_23 rfl h (fun cb h => ?_) (fun cb h => ?_)
  · refine el_aload_n dL_isPlanned_30 rfl (by decide) ?_
    refine el_iload_n dL_isPlanned_31 rfl ?_
    refine el_iload dL_isPlanned_32 rfl ?_
    obtain ⟨v3, hc4, h⟩ := bind_of h
    refine el_invV (k := (0 : Int)) (av := [(0, x3), (0, s0)]) (st := []) (r2 := (some (0, v3.1), rho, v3.2)) dL_isPlanned_34 ml_L_64 mv_X10_time (T := TX10) (ci := 9) rfl sp0 (by decide) (by decide) rfl ⟨Nat.le_of_ble_eq_true rfl, Nat.le_of_ble_eq_true rfl⟩ (Nat.le_of_ble_eq_true rfl) (c_X10_time hc4) ⟨Nat.le_refl _, Nat.le_refl _⟩ ?_
    show El _ _ _ _ _ _ 37 (lm m n (v3.2, σ.2)) _ ((0, v3.1) :: [])
    exact el_sub (L2 := [(2, (0 : Int)), (3, (1 : Int)), (3, x2), (0, x3), (0, x4), (0, s0), (9, 0), (9, 0), (9, 0), (9, 0), (9, 0), (9, 0), (9, 0), (9, 0), (9, 0), (9, 0), (9, 0), (9, 0), (9, 0), (9, 0), (9, 0), (9, 0)]) (e_L_isPlanned_37 m n N xs hmn hN (v3.2, σ.2) x2 x3 x4 s0 v3.1 hx2 h) ⟨.inr rfl, .inr rfl, .inr rfl, .inr rfl, .inr rfl, .inr rfl, .inl rfl, .inl rfl, .inl rfl, .inl rfl, .inl rfl, .inl rfl, .inl rfl, .inl rfl, .inl rfl, .inl rfl, .inl rfl, .inl rfl, .inl rfl, .inl rfl, .inl rfl, .inl rfl, trivial⟩
  refine el_iconst dL_isPlanned_26 (by decide) ?_
  refine el_goto (tgt := 37) dL_isPlanned_27 rfl ?_
  exact el_sub (L2 := [(2, (0 : Int)), (3, (1 : Int)), (3, x2), (0, x3), (0, x4), (0, s0), (9, 0), (9, 0), (9, 0), (9, 0), (9, 0), (9, 0), (9, 0), (9, 0), (9, 0), (9, 0), (9, 0), (9, 0), (9, 0), (9, 0), (9, 0), (9, 0)]) (e_L_isPlanned_37 m n N xs hmn hN σ x2 x3 x4 s0 (0 : Int) hx2 h) ⟨.inr rfl, .inr rfl, .inr rfl, .inr rfl, .inr rfl, .inr rfl, .inl rfl, .inl rfl, .inl rfl, .inl rfl, .inl rfl, .inl rfl, .inl rfl, .inl rfl, .inl rfl, .inl rfl, .inl rfl, .inl rfl, .inl rfl, .inl rfl, .inl rfl, .inl rfl, trivial⟩
set_option maxHeartbeats 4000000 in
set_option maxRecDepth 20000 in
theorem c_L_isPlanned {m n N : Nat} {xs : Nat → Int32} (hmn : m ≤ 10 ∧ n ≤ 4) (hN : (N : Int) ≤ 2147483647) {σ : M2} {x2 x3 x4 : Int} (hx2 : isQ m n x2) {q : (Int × M2)} (h : f_L_isPlanned m n N xs σ x2 x3 x4 = some q) : MsL (xsh m n) N xs yL_isPlanned (M_L_isPlanned N xs) false (181, nX m n) [(2, (0 : Int)), (3, (1 : Int)), (3, x2), (0, x3), (0, x4)] (lm m n σ) (some (0, q.1), lm m n q.2) := by
  refine MsL.of 17 (by decide +kernel) rfl rfl rfl rfl rfl ?_
  refine el_loose ?_
  unfold f_L_isPlanned at h
  show El (xsh m n) (M_L_isPlanned N xs) (false, false) (181, nX m n) (181, nX m n) _ 0 (lm m n σ) [(2, (0 : Int)), (3, (1 : Int)), (3, x2), (0, x3), (0, x4), (9, 0), (9, 0), (9, 0), (9, 0), (9, 0), (9, 0), (9, 0), (9, 0), (9, 0), (9, 0), (9, 0), (9, 0), (9, 0), (9, 0), (9, 0), (9, 0), (9, 0)] []
  refine el_iload dL_isPlanned_0 rfl ?_
  refine el_if_ne (tgt := 9) dL_isPlanned_2 rfl h (fun cb h => ?_) (fun cb h => ?_)
  · refine el_aload_n dL_isPlanned_9 rfl (by decide) ?_
    refine el_iload_n dL_isPlanned_10 rfl ?_
    refine el_iload dL_isPlanned_11 rfl ?_
    refine el_iconst dL_isPlanned_13 (by decide) ?_
    refine el_isub dL_isPlanned_14 ?_
    refine el_iconst dL_isPlanned_15 (by decide) ?_
    obtain ⟨v1, hc2, h⟩ := bind_of h
    refine el_invV (k := (0 : Int)) (av := [(0, x3), (0, (jsub x4 (1 : Int))), (0, (2 : Int))]) (st := []) (r2 := (some (0, v1.1), rho, v1.2)) dL_isPlanned_16 ml_L_58 mv_X10_plan (T := TX10) (ci := 9) rfl sp0 (by decide) (by decide) rfl ⟨Nat.le_of_ble_eq_true rfl, Nat.le_of_ble_eq_true rfl⟩ (Nat.le_of_ble_eq_true rfl) (c_X10_plan hc2) ⟨Nat.le_refl _, Nat.le_refl _⟩ ?_
    show El _ _ _ _ _ _ 19 (lm m n (v1.2, σ.2)) _ ((0, v1.1) :: [])
    exact el_sub (L2 := [(2, (0 : Int)), (3, (1 : Int)), (3, x2), (0, x3), (0, x4), (9, 0), (9, 0), (9, 0), (9, 0), (9, 0), (9, 0), (9, 0), (9, 0), (9, 0), (9, 0), (9, 0), (9, 0), (9, 0), (9, 0), (9, 0), (9, 0), (9, 0)]) (e_L_isPlanned_19 m n N xs hmn hN (v1.2, σ.2) x2 x3 x4 v1.1 hx2 h) ⟨.inr rfl, .inr rfl, .inr rfl, .inr rfl, .inr rfl, .inl rfl, .inl rfl, .inl rfl, .inl rfl, .inl rfl, .inl rfl, .inl rfl, .inl rfl, .inl rfl, .inl rfl, .inl rfl, .inl rfl, .inl rfl, .inl rfl, .inl rfl, .inl rfl, .inl rfl, trivial⟩
  refine el_iconst dL_isPlanned_5 (by decide) ?_
  refine el_goto (tgt := 19) dL_isPlanned_6 rfl ?_
  exact el_sub (L2 := [(2, (0 : Int)), (3, (1 : Int)), (3, x2), (0, x3), (0, x4), (9, 0), (9, 0), (9, 0), (9, 0), (9, 0), (9, 0), (9, 0), (9, 0), (9, 0), (9, 0), (9, 0), (9, 0), (9, 0), (9, 0), (9, 0), (9, 0), (9, 0)]) (e_L_isPlanned_19 m n N xs hmn hN σ x2 x3 x4 (-1 : Int) hx2 h) ⟨.inr rfl, .inr rfl, .inr rfl, .inr rfl, .inr rfl, .inl rfl, .inl rfl, .inl rfl, .inl rfl, .inl rfl, .inl rfl, .inl rfl, .inl rfl, .inl rfl, .inl rfl, .inl rfl, .inl rfl, .inl rfl, .inl rfl, .inl rfl, .inl rfl, .inl rfl, trivial⟩
