def K_L_law_397 (m n N : Nat) (xs : Nat → Int32) (x2 x3 x7 x9 x10 x12 : Int) (r : Option V × LM) : (Int × M2) ⊕ ((M2) ⊕ (M2)) → Prop := Sum.elim (fun a => El (xsh m n) (M_L_law N xs) (false, false) (0, 0) (181, nX m n) r 397 (lm m n a.2) [(3, (200000 : Int)), (3, (0 : Int)), (0, x2), (0, x3), (3, (1 : Int)), (3, (2 + (m : Int))), (2, (0 : Int)), (1, x7), (9, 0), (0, x9), (0, x10), (9, 0), (0, x12), (0, a.1), (9, 0), (9, 0), (9, 0)] []) (Sum.elim (fun e => El (xsh m n) (M_L_law N xs) (false, false) (0, 0) (181, nX m n) r 459 (lm m n e) [(9, 0), (9, 0), (9, 0), (9, 0), (9, 0), (9, 0), (9, 0), (9, 0), (9, 0), (9, 0), (9, 0), (9, 0), (9, 0), (9, 0), (9, 0), (9, 0), (9, 0)] []) (fun e => El (xsh m n) (M_L_law N xs) (false, false) (0, 0) (181, nX m n) r 467 (lm m n e) [(3, (200000 : Int)), (3, (0 : Int)), (0, x2), (0, x3), (3, (1 : Int)), (3, (2 + (m : Int))), (2, (0 : Int)), (1, x7), (9, 0), (0, x9), (0, x10), (9, 0), (9, 0), (9, 0), (9, 0), (9, 0), (9, 0)] []))
def K_L_law_242 (m n N : Nat) (xs : Nat → Int32) (x2 x3 x7 x9 x10 x11 : Int) (r : Option V × LM) : (Int × M2) ⊕ ((M2) ⊕ (M2) ⊕ (M2)) → Prop := Sum.elim (fun a => El (xsh m n) (M_L_law N xs) (false, false) (0, 0) (181, nX m n) r 242 (lm m n a.2) [(3, (200000 : Int)), (3, (0 : Int)), (0, x2), (0, x3), (3, (1 : Int)), (3, (2 + (m : Int))), (2, (0 : Int)), (1, x7), (9, 0), (0, x9), (0, x10), (0, x11), (0, a.1), (9, 0), (9, 0), (9, 0), (9, 0)] []) (Sum.elim (fun e => El (xsh m n) (M_L_law N xs) (false, false) (0, 0) (181, nX m n) r 348 (lm m n e) [(9, 0), (9, 0), (9, 0), (9, 0), (9, 0), (9, 0), (9, 0), (9, 0), (9, 0), (9, 0), (9, 0), (9, 0), (9, 0), (9, 0), (9, 0), (9, 0), (9, 0)] []) (Sum.elim (fun e => El (xsh m n) (M_L_law N xs) (false, false) (0, 0) (181, nX m n) r 377 (lm m n e) [(9, 0), (9, 0), (9, 0), (9, 0), (9, 0), (9, 0), (9, 0), (9, 0), (9, 0), (9, 0), (9, 0), (9, 0), (9, 0), (9, 0), (9, 0), (9, 0), (9, 0)] []) (fun e => El (xsh m n) (M_L_law N xs) (false, false) (0, 0) (181, nX m n) r 385 (lm m n e) [(3, (200000 : Int)), (3, (0 : Int)), (0, x2), (0, x3), (3, (1 : Int)), (3, (2 + (m : Int))), (2, (0 : Int)), (1, x7), (9, 0), (0, x9), (0, x10), (9, 0), (9, 0), (9, 0), (9, 0), (9, 0), (9, 0)] [])))
def K_L_law_152 (m n N : Nat) (xs : Nat → Int32) (x2 x3 x7 x9 x10 : Int) (r : Option V × LM) : (Int × Int × M2) ⊕ ((M2) ⊕ (Int × M2)) → Prop := Sum.elim (fun a => El (xsh m n) (M_L_law N xs) (false, false) (0, 0) (181, nX m n) r 152 (lm m n a.2.2) [(3, (200000 : Int)), (3, (0 : Int)), (0, x2), (0, x3), (3, (1 : Int)), (3, (2 + (m : Int))), (2, (0 : Int)), (1, x7), (9, 0), (0, x9), (0, x10), (0, a.1), (0, a.2.1), (9, 0), (9, 0), (9, 0), (9, 0)] []) (Sum.elim (fun e => El (xsh m n) (M_L_law N xs) (false, false) (0, 0) (181, nX m n) r 209 (lm m n e) [(9, 0), (9, 0), (9, 0), (9, 0), (9, 0), (9, 0), (9, 0), (9, 0), (9, 0), (9, 0), (9, 0), (9, 0), (9, 0), (9, 0), (9, 0), (9, 0), (9, 0)] []) (fun e => El (xsh m n) (M_L_law N xs) (false, false) (0, 0) (181, nX m n) r 232 (lm m n e.2) [(3, (200000 : Int)), (3, (0 : Int)), (0, x2), (0, x3), (3, (1 : Int)), (3, (2 + (m : Int))), (2, (0 : Int)), (1, x7), (9, 0), (0, x9), (0, x10), (0, e.1), (9, 0), (9, 0), (9, 0), (9, 0), (9, 0)] []))
def K_L_law_604 (m n N : Nat) (xs : Nat → Int32) (x2 x7 x9 x10 x11 x12 : Int) (r : Option V × LM) : (Int × M2) ⊕ ((M2) ⊕ (M2)) → Prop := Sum.elim (fun a => El (xsh m n) (M_L_law N xs) (false, false) (0, 0) (181, nX m n) r 604 (lm m n a.2) [(3, (200000 : Int)), (3, (0 : Int)), (0, x2), (9, 0), (9, 0), (9, 0), (2, (0 : Int)), (1, x7), (9, 0), (0, x9), (0, x10), (0, x11), (0, x12), (0, a.1), (9, 0), (9, 0), (9, 0)] []) (Sum.elim (fun e => El (xsh m n) (M_L_law N xs) (false, false) (0, 0) (181, nX m n) r 690 (lm m n e) [(9, 0), (9, 0), (9, 0), (9, 0), (9, 0), (9, 0), (9, 0), (9, 0), (9, 0), (9, 0), (9, 0), (9, 0), (9, 0), (9, 0), (9, 0), (9, 0), (9, 0)] []) (fun e => El (xsh m n) (M_L_law N xs) (false, false) (0, 0) (181, nX m n) r 698 (lm m n e) [(3, (200000 : Int)), (3, (0 : Int)), (0, x2), (9, 0), (9, 0), (9, 0), (2, (0 : Int)), (1, x7), (9, 0), (0, x9), (0, x10), (0, x11), (0, x12), (9, 0), (9, 0), (9, 0), (9, 0)] []))
def K_L_law_768 (m n N : Nat) (xs : Nat → Int32) (x2 x7 x12 x13 x14 : Int) (r : Option V × LM) : (Int × Int × M2) ⊕ ((Int × M2)) → Prop := Sum.elim (fun a => El (xsh m n) (M_L_law N xs) (false, false) (0, 0) (181, nX m n) r 768 (lm m n a.2.2) [(3, (200000 : Int)), (9, 0), (0, x2), (9, 0), (9, 0), (9, 0), (2, (0 : Int)), (1, x7), (9, 0), (9, 0), (9, 0), (9, 0), (0, x12), (0, x13), (0, x14), (0, a.1), (0, a.2.1)] []) (fun e => El (xsh m n) (M_L_law N xs) (false, false) (0, 0) (181, nX m n) r 818 (lm m n e.2) [(3, (200000 : Int)), (9, 0), (0, x2), (9, 0), (9, 0), (9, 0), (2, (0 : Int)), (1, x7), (9, 0), (9, 0), (9, 0), (9, 0), (0, x12), (0, x13), (9, 0), (0, e.1), (9, 0)] [])
def K_L_law_867 (m n N : Nat) (xs : Nat → Int32) (x7 x12 : Int) (r : Option V × LM) : (Int × M2) ⊕ ((M2) ⊕ (M2)) → Prop := Sum.elim (fun a => El (xsh m n) (M_L_law N xs) (false, false) (0, 0) (181, nX m n) r 867 (lm m n a.2) [(9, 0), (9, 0), (9, 0), (9, 0), (9, 0), (9, 0), (2, (0 : Int)), (1, x7), (9, 0), (9, 0), (9, 0), (9, 0), (0, x12), (0, a.1), (9, 0), (9, 0), (9, 0)] []) (Sum.elim (fun e => El (xsh m n) (M_L_law N xs) (false, false) (0, 0) (181, nX m n) r 886 (lm m n e) [(9, 0), (9, 0), (9, 0), (9, 0), (9, 0), (9, 0), (9, 0), (9, 0), (9, 0), (9, 0), (9, 0), (9, 0), (9, 0), (9, 0), (9, 0), (9, 0), (9, 0)] []) (fun e => El (xsh m n) (M_L_law N xs) (false, false) (0, 0) (181, nX m n) r 894 (lm m n e) [(9, 0), (9, 0), (9, 0), (9, 0), (9, 0), (9, 0), (2, (0 : Int)), (1, x7), (9, 0), (9, 0), (9, 0), (9, 0), (0, x12), (9, 0), (9, 0), (9, 0), (9, 0)] []))
def K_L_law_857 (m n N : Nat) (xs : Nat → Int32) (x7 : Int) (r : Option V × LM) : (Int × M2) ⊕ ((M2) ⊕ (M2)) → Prop := Sum.elim (fun a => El (xsh m n) (M_L_law N xs) (false, false) (0, 0) (181, nX m n) r 857 (lm m n a.2) [(9, 0), (9, 0), (9, 0), (9, 0), (9, 0), (9, 0), (2, (0 : Int)), (1, x7), (9, 0), (9, 0), (9, 0), (9, 0), (0, a.1), (9, 0), (9, 0), (9, 0), (9, 0)] []) (Sum.elim (fun e => El (xsh m n) (M_L_law N xs) (false, false) (0, 0) (181, nX m n) r 886 (lm m n e) [(9, 0), (9, 0), (9, 0), (9, 0), (9, 0), (9, 0), (9, 0), (9, 0), (9, 0), (9, 0), (9, 0), (9, 0), (9, 0), (9, 0), (9, 0), (9, 0), (9, 0)] []) (fun e => El (xsh m n) (M_L_law N xs) (false, false) (0, 0) (181, nX m n) r 900 (lm m n e) [(9, 0), (9, 0), (9, 0), (9, 0), (9, 0), (9, 0), (2, (0 : Int)), (1, x7), (9, 0), (9, 0), (9, 0), (9, 0), (9, 0), (9, 0), (9, 0), (9, 0), (9, 0)] []))
def K_L_law_731 (m n N : Nat) (xs : Nat → Int32) (x2 x7 : Int) (r : Option V × LM) : (Int × M2) ⊕ ((M2) ⊕ (M2)) → Prop := Sum.elim (fun a => El (xsh m n) (M_L_law N xs) (false, false) (0, 0) (181, nX m n) r 731 (lm m n a.2) [(3, (200000 : Int)), (9, 0), (0, x2), (9, 0), (9, 0), (9, 0), (2, (0 : Int)), (1, x7), (9, 0), (9, 0), (9, 0), (9, 0), (0, a.1), (9, 0), (9, 0), (9, 0), (9, 0)] []) (Sum.elim (fun e => El (xsh m n) (M_L_law N xs) (false, false) (0, 0) (181, nX m n) r 846 (lm m n e) [(9, 0), (9, 0), (9, 0), (9, 0), (9, 0), (9, 0), (9, 0), (9, 0), (9, 0), (9, 0), (9, 0), (9, 0), (9, 0), (9, 0), (9, 0), (9, 0), (9, 0)] []) (fun e => El (xsh m n) (M_L_law N xs) (false, false) (0, 0) (181, nX m n) r 854 (lm m n e) [(9, 0), (9, 0), (9, 0), (9, 0), (9, 0), (9, 0), (2, (0 : Int)), (1, x7), (9, 0), (9, 0), (9, 0), (9, 0), (9, 0), (9, 0), (9, 0), (9, 0), (9, 0)] []))
def K_L_law_581 (m n N : Nat) (xs : Nat → Int32) (x2 x7 x9 x10 : Int) (r : Option V × LM) : (Int × Int × M2) ⊕ ((M2) ⊕ (Int × M2)) → Prop := Sum.elim (fun a => El (xsh m n) (M_L_law N xs) (false, false) (0, 0) (181, nX m n) r 581 (lm m n a.2.2) [(3, (200000 : Int)), (3, (0 : Int)), (0, x2), (9, 0), (9, 0), (9, 0), (2, (0 : Int)), (1, x7), (9, 0), (0, x9), (0, x10), (0, a.1), (0, a.2.1), (9, 0), (9, 0), (9, 0), (9, 0)] []) (Sum.elim (fun e => El (xsh m n) (M_L_law N xs) (false, false) (0, 0) (181, nX m n) r 690 (lm m n e) [(9, 0), (9, 0), (9, 0), (9, 0), (9, 0), (9, 0), (9, 0), (9, 0), (9, 0), (9, 0), (9, 0), (9, 0), (9, 0), (9, 0), (9, 0), (9, 0), (9, 0)] []) (fun e => El (xsh m n) (M_L_law N xs) (false, false) (0, 0) (181, nX m n) r 704 (lm m n e.2) [(3, (200000 : Int)), (9, 0), (0, x2), (9, 0), (9, 0), (9, 0), (2, (0 : Int)), (1, x7), (9, 0), (0, x9), (9, 0), (0, e.1), (9, 0), (9, 0), (9, 0), (9, 0), (9, 0)] []))
def K_L_law_140 (m n N : Nat) (xs : Nat → Int32) (x2 x3 x7 : Int) (r : Option V × LM) : (Int × Int × M2) ⊕ ((M2) ⊕ (M2) ⊕ (M2) ⊕ (M2) ⊕ (M2) ⊕ (M2) ⊕ (Int × M2)) → Prop := Sum.elim (fun a => El (xsh m n) (M_L_law N xs) (false, false) (0, 0) (181, nX m n) r 140 (lm m n a.2.2) [(3, (200000 : Int)), (3, (0 : Int)), (0, x2), (0, x3), (3, (1 : Int)), (3, (2 + (m : Int))), (2, (0 : Int)), (1, x7), (9, 0), (0, a.1), (0, a.2.1), (9, 0), (9, 0), (9, 0), (9, 0), (9, 0), (9, 0)] []) (Sum.elim (fun e => El (xsh m n) (M_L_law N xs) (false, false) (0, 0) (181, nX m n) r 209 (lm m n e) [(9, 0), (9, 0), (9, 0), (9, 0), (9, 0), (9, 0), (9, 0), (9, 0), (9, 0), (9, 0), (9, 0), (9, 0), (9, 0), (9, 0), (9, 0), (9, 0), (9, 0)] []) (Sum.elim (fun e => El (xsh m n) (M_L_law N xs) (false, false) (0, 0) (181, nX m n) r 348 (lm m n e) [(9, 0), (9, 0), (9, 0), (9, 0), (9, 0), (9, 0), (9, 0), (9, 0), (9, 0), (9, 0), (9, 0), (9, 0), (9, 0), (9, 0), (9, 0), (9, 0), (9, 0)] []) (Sum.elim (fun e => El (xsh m n) (M_L_law N xs) (false, false) (0, 0) (181, nX m n) r 377 (lm m n e) [(9, 0), (9, 0), (9, 0), (9, 0), (9, 0), (9, 0), (9, 0), (9, 0), (9, 0), (9, 0), (9, 0), (9, 0), (9, 0), (9, 0), (9, 0), (9, 0), (9, 0)] []) (Sum.elim (fun e => El (xsh m n) (M_L_law N xs) (false, false) (0, 0) (181, nX m n) r 459 (lm m n e) [(9, 0), (9, 0), (9, 0), (9, 0), (9, 0), (9, 0), (9, 0), (9, 0), (9, 0), (9, 0), (9, 0), (9, 0), (9, 0), (9, 0), (9, 0), (9, 0), (9, 0)] []) (Sum.elim (fun e => El (xsh m n) (M_L_law N xs) (false, false) (0, 0) (181, nX m n) r 523 (lm m n e) [(9, 0), (9, 0), (9, 0), (9, 0), (9, 0), (9, 0), (9, 0), (9, 0), (9, 0), (9, 0), (9, 0), (9, 0), (9, 0), (9, 0), (9, 0), (9, 0), (9, 0)] []) (Sum.elim (fun e => El (xsh m n) (M_L_law N xs) (false, false) (0, 0) (181, nX m n) r 553 (lm m n e) [(9, 0), (9, 0), (9, 0), (9, 0), (9, 0), (9, 0), (9, 0), (9, 0), (9, 0), (9, 0), (9, 0), (9, 0), (9, 0), (9, 0), (9, 0), (9, 0), (9, 0)] []) (fun e => El (xsh m n) (M_L_law N xs) (false, false) (0, 0) (181, nX m n) r 567 (lm m n e.2) [(3, (200000 : Int)), (3, (0 : Int)), (0, x2), (9, 0), (9, 0), (9, 0), (2, (0 : Int)), (1, x7), (9, 0), (0, e.1), (9, 0), (9, 0), (9, 0), (9, 0), (9, 0), (9, 0), (9, 0)] [])))))))
def K_L_law_90 (m n N : Nat) (xs : Nat → Int32) (x2 x3 : Int) (r : Option V × LM) : (Int × M2) ⊕ ((M2)) → Prop := Sum.elim (fun a => El (xsh m n) (M_L_law N xs) (false, false) (0, 0) (181, nX m n) r 90 (lm m n a.2) [(3, (200000 : Int)), (3, (0 : Int)), (0, x2), (0, x3), (3, (1 : Int)), (3, (2 + (m : Int))), (2, (0 : Int)), (0, a.1), (9, 0), (9, 0), (9, 0), (9, 0), (9, 0), (9, 0), (9, 0), (9, 0), (9, 0)] []) (fun e => El (xsh m n) (M_L_law N xs) (false, false) (0, 0) (181, nX m n) r 121 (lm m n e) [(3, (200000 : Int)), (3, (0 : Int)), (0, x2), (0, x3), (3, (1 : Int)), (3, (2 + (m : Int))), (2, (0 : Int)), (9, 0), (9, 0), (9, 0), (9, 0), (9, 0), (9, 0), (9, 0), (9, 0), (9, 0), (9, 0)] [])
set_option maxHeartbeats 4000000 in
set_option maxRecDepth 20000 in
theorem e_L_law_211 (m n N : Nat) (xs : Nat → Int32) (hmn : m ≤ 10 ∧ n ≤ 4) (hN : (N : Int) ≤ 2147483647) (σ : M2) (x2 x3 x7 x9 x10 x11 x12 : Int)  {q : ((Int × Int × M2) ⊕ ((M2) ⊕ (Int × M2)))} (h : f_L_law_211 m n N xs σ x2 x3 x7 x9 x10 x11 x12 = some q) {r : Option V × LM} (K : K_L_law_152 m n N xs x2 x3 x7 x9 x10 r q) : El (xsh m n) (M_L_law N xs) (false, false) (0, 0) (181, nX m n) r 211 (lm m n σ) [(3, (200000 : Int)), (3, (0 : Int)), (0, x2), (0, x3), (3, (1 : Int)), (3, (2 + (m : Int))), (2, (0 : Int)), (1, x7), (9, 0), (0, x9), (0, x10), (0, x11), (0, x12), (9, 0), (9, 0), (9, 0), (9, 0)] [] := by
  unfold f_L_law_211 at h
  refine el_iload dL_law_211 rfl ?_
  refine el_aload dL_law_213 rfl (by decide) ?_
  refine el_iload dL_law_215 rfl ?_
  refine el_iload dL_law_217 rfl ?_
  refine el_iconst dL_law_219 (by decide) ?_
  obtain ⟨v21, hc22, h⟩ := bind_of h
  refine el_invV (k := (0 : Int)) (av := [(0, x10), (0, x12), (0, (1 : Int))]) (st := [(0, x11)]) (r2 := (some (0, v21.1), rho, v21.2)) dL_law_220 ml_L_58 mv_X10_plan (T := TX10) (ci := 9) rfl sp0 (by decide) (by decide) rfl ⟨Nat.le_of_ble_eq_true rfl, Nat.le_of_ble_eq_true rfl⟩ (Nat.le_of_ble_eq_true rfl) (c_X10_plan hc22) ⟨Nat.le_refl _, Nat.le_refl _⟩ ?_
  show El _ _ _ _ _ _ 223 (lm m n (v21.2, σ.2)) _ ((0, v21.1) :: [(0, x11)])
  refine el_iadd dL_law_223 ?_
  refine el_istoreG dL_law_224 h rfl (Nat.le_of_ble_eq_true rfl) (fun v23 h => ?_)
  show El _ _ _ _ _ _ 226 _ [(3, (200000 : Int)), (3, (0 : Int)), (0, x2), (0, x3), (3, (1 : Int)), (3, (2 + (m : Int))), (2, (0 : Int)), (1, x7), (9, 0), (0, x9), (0, x10), (0, v23), (0, x12), (9, 0), (9, 0), (9, 0), (9, 0)] _
  refine el_iincG dL_law_226 rfl h rfl (fun v24 h => ?_)
  show El _ _ _ _ _ _ 229 _ [(3, (200000 : Int)), (3, (0 : Int)), (0, x2), (0, x3), (3, (1 : Int)), (3, (2 + (m : Int))), (2, (0 : Int)), (1, x7), (9, 0), (0, x9), (0, x10), (0, v23), (0, v24), (9, 0), (9, 0), (9, 0), (9, 0)] _
  refine el_goto (tgt := 152) dL_law_229 rfl ?_
  obtain rfl := Option.some.inj h
  exact el_sub (L2 := [(3, (200000 : Int)), (3, (0 : Int)), (0, x2), (0, x3), (3, (1 : Int)), (3, (2 + (m : Int))), (2, (0 : Int)), (1, x7), (9, 0), (0, x9), (0, x10), (0, v23), (0, v24), (9, 0), (9, 0), (9, 0), (9, 0)]) K ⟨.inr rfl, .inr rfl, .inr rfl, .inr rfl, .inr rfl, .inr rfl, .inr rfl, .inr rfl, .inl rfl, .inr rfl, .inr rfl, .inr rfl, .inr rfl, .inl rfl, .inl rfl, .inl rfl, .inl rfl, trivial⟩
set_option maxHeartbeats 4000000 in
set_option maxRecDepth 20000 in
theorem e_L_law_379 (m n N : Nat) (xs : Nat → Int32) (hmn : m ≤ 10 ∧ n ≤ 4) (hN : (N : Int) ≤ 2147483647) (σ : M2) (x2 x3 x7 x9 x10 x11 x12 : Int)  {q : ((Int × M2) ⊕ ((M2) ⊕ (M2) ⊕ (M2)))} (h : f_L_law_379 m n N xs σ x2 x3 x7 x9 x10 x11 x12 = some q) {r : Option V × LM} (K : K_L_law_242 m n N xs x2 x3 x7 x9 x10 x11 r q) : El (xsh m n) (M_L_law N xs) (false, false) (0, 0) (181, nX m n) r 379 (lm m n σ) [(3, (200000 : Int)), (3, (0 : Int)), (0, x2), (0, x3), (3, (1 : Int)), (3, (2 + (m : Int))), (2, (0 : Int)), (1, x7), (9, 0), (0, x9), (0, x10), (0, x11), (0, x12), (9, 0), (9, 0), (9, 0), (9, 0)] [] := by
  unfold f_L_law_379 at h
  refine el_iincG dL_law_379 rfl h rfl (fun v44 h => ?_)
  show El _ _ _ _ _ _ 382 _ [(3, (200000 : Int)), (3, (0 : Int)), (0, x2), (0, x3), (3, (1 : Int)), (3, (2 + (m : Int))), (2, (0 : Int)), (1, x7), (9, 0), (0, x9), (0, x10), (0, x11), (0, v44), (9, 0), (9, 0), (9, 0), (9, 0)] _
  refine el_goto (tgt := 242) dL_law_382 rfl ?_
  obtain rfl := Option.some.inj h
  exact el_sub (L2 := [(3, (200000 : Int)), (3, (0 : Int)), (0, x2), (0, x3), (3, (1 : Int)), (3, (2 + (m : Int))), (2, (0 : Int)), (1, x7), (9, 0), (0, x9), (0, x10), (0, x11), (0, v44), (9, 0), (9, 0), (9, 0), (9, 0)]) K ⟨.inr rfl, .inr rfl, .inr rfl, .inr rfl, .inr rfl, .inr rfl, .inr rfl, .inr rfl, .inl rfl, .inr rfl, .inr rfl, .inr rfl, .inr rfl, .inl rfl, .inl rfl, .inl rfl, .inl rfl, trivial⟩
set_option maxHeartbeats 4000000 in
set_option maxRecDepth 20000 in
theorem e_L_law_350 (m n N : Nat) (xs : Nat → Int32) (hmn : m ≤ 10 ∧ n ≤ 4) (hN : (N : Int) ≤ 2147483647) (σ : M2) (x2 x3 x7 x9 x10 x11 x12 x13 : Int)  {q : ((Int × M2) ⊕ ((M2) ⊕ (M2) ⊕ (M2)))} (h : f_L_law_350 m n N xs σ x2 x3 x7 x9 x10 x11 x12 x13 = some q) {r : Option V × LM} (K : K_L_law_242 m n N xs x2 x3 x7 x9 x10 x11 r q) : El (xsh m n) (M_L_law N xs) (false, false) (0, 0) (181, nX m n) r 350 (lm m n σ) [(3, (200000 : Int)), (3, (0 : Int)), (0, x2), (0, x3), (3, (1 : Int)), (3, (2 + (m : Int))), (2, (0 : Int)), (1, x7), (9, 0), (0, x9), (0, x10), (0, x11), (0, x12), (0, x13), (9, 0), (9, 0), (9, 0)] [] := by
  unfold f_L_law_350 at h
  refine el_aload dL_law_350 rfl (by decide) ?_
  obtain ⟨v40, hc41, h⟩ := bind_of h
  refine el_invV (k := (0 : Int)) (av := []) (st := []) (r2 := (some (0, v40.1), rho, v40.2)) dL_law_352 ml_L_83 mv_X10_back (T := TX10) (ci := 9) rfl sp0 (by decide) (by decide) rfl ⟨Nat.le_of_ble_eq_true rfl, Nat.le_of_ble_eq_true rfl⟩ (Nat.le_of_ble_eq_true rfl) (c_X10_back hc41) ⟨Nat.le_refl _, Nat.le_refl _⟩ ?_
  show El _ _ _ _ _ _ 355 (lm m n (v40.2, σ.2)) _ ((0, v40.1) :: [])
  refine el_pop dL_law_355 (show (0 : Nat) ≠ 1 by decide) ?_
  refine el_iload dL_law_356 rfl ?_
  refine el_if_lt (tgt := 379) dL_law_358 rfl h (fun cb h => ?_) (fun cb h => ?_)
  · exact el_sub (L2 := [(3, (200000 : Int)), (3, (0 : Int)), (0, x2), (0, x3), (3, (1 : Int)), (3, (2 + (m : Int))), (2, (0 : Int)), (1, x7), (9, 0), (0, x9), (0, x10), (0, x11), (0, x12), (9, 0), (9, 0), (9, 0), (9, 0)]) (e_L_law_379 m n N xs hmn hN (v40.2, σ.2) x2 x3 x7 x9 x10 x11 x12 h K) ⟨.inr rfl, .inr rfl, .inr rfl, .inr rfl, .inr rfl, .inr rfl, .inr rfl, .inr rfl, .inl rfl, .inr rfl, .inr rfl, .inr rfl, .inr rfl, .inl rfl, .inl rfl, .inl rfl, .inl rfl, trivial⟩
  refine el_aload dL_law_361 rfl (by decide) ?_
  refine el_iload dL_law_363 rfl ?_
  refine el_iload dL_law_365 rfl ?_
  refine el_iload dL_law_367 rfl ?_
  obtain ⟨v42, hc43, h⟩ := bind_of h
  refine el_invV (k := (0 : Int)) (av := [(0, x10), (0, x12), (0, x12)]) (st := []) (r2 := (some (0, v42.1), rho, v42.2)) dL_law_369 ml_L_119 mv_X10_both (T := TX10) (ci := 9) rfl sp0 (by decide) (by decide) rfl ⟨Nat.le_of_ble_eq_true rfl, Nat.le_of_ble_eq_true rfl⟩ (Nat.le_of_ble_eq_true rfl) (c_X10_both hc43) ⟨Nat.le_refl _, Nat.le_refl _⟩ ?_
  show El _ _ _ _ _ _ 372 (lm m n (v42.2, (v40.2, σ.2).2)) _ ((0, v42.1) :: [])
  refine el_iload dL_law_372 rfl ?_
  refine el_icmp_eq (tgt := 379) dL_law_374 rfl h (fun cb h => ?_) (fun cb h => ?_)
  · exact el_sub (L2 := [(3, (200000 : Int)), (3, (0 : Int)), (0, x2), (0, x3), (3, (1 : Int)), (3, (2 + (m : Int))), (2, (0 : Int)), (1, x7), (9, 0), (0, x9), (0, x10), (0, x11), (0, x12), (9, 0), (9, 0), (9, 0), (9, 0)]) (e_L_law_379 m n N xs hmn hN (v42.2, (v40.2, σ.2).2) x2 x3 x7 x9 x10 x11 x12 h K) ⟨.inr rfl, .inr rfl, .inr rfl, .inr rfl, .inr rfl, .inr rfl, .inr rfl, .inr rfl, .inl rfl, .inr rfl, .inr rfl, .inr rfl, .inr rfl, .inl rfl, .inl rfl, .inl rfl, .inl rfl, trivial⟩
  obtain rfl := Option.some.inj h
  exact el_sub (L2 := [(9, 0), (9, 0), (9, 0), (9, 0), (9, 0), (9, 0), (9, 0), (9, 0), (9, 0), (9, 0), (9, 0), (9, 0), (9, 0), (9, 0), (9, 0), (9, 0), (9, 0)]) K ⟨.inl rfl, .inl rfl, .inl rfl, .inl rfl, .inl rfl, .inl rfl, .inl rfl, .inl rfl, .inl rfl, .inl rfl, .inl rfl, .inl rfl, .inl rfl, .inl rfl, .inl rfl, .inl rfl, .inl rfl, trivial⟩
set_option maxHeartbeats 4000000 in
set_option maxRecDepth 20000 in
theorem e_L_law_309 (m n N : Nat) (xs : Nat → Int32) (hmn : m ≤ 10 ∧ n ≤ 4) (hN : (N : Int) ≤ 2147483647) (σ : M2) (x2 x3 x7 x9 x10 x11 x12 x13 s1 s0 : Int)  {q : ((Int × M2) ⊕ ((M2) ⊕ (M2) ⊕ (M2)))} (h : f_L_law_309 m n N xs σ x2 x3 x7 x9 x10 x11 x12 x13 s1 s0 = some q) {r : Option V × LM} (K : K_L_law_242 m n N xs x2 x3 x7 x9 x10 x11 r q) : El (xsh m n) (M_L_law N xs) (false, false) (0, 0) (181, nX m n) r 309 (lm m n σ) [(3, (200000 : Int)), (3, (0 : Int)), (0, x2), (0, x3), (3, (1 : Int)), (3, (2 + (m : Int))), (2, (0 : Int)), (1, x7), (9, 0), (0, x9), (0, x10), (0, x11), (0, x12), (0, x13), (9, 0), (9, 0), (9, 0)] [(0, s1), (0, s0)] := by
  unfold f_L_law_309 at h
  refine el_icmp_ne (tgt := 348) dL_law_309 rfl h (fun cb h => ?_) (fun cb h => ?_)
  · obtain rfl := Option.some.inj h
    exact el_sub (L2 := [(9, 0), (9, 0), (9, 0), (9, 0), (9, 0), (9, 0), (9, 0), (9, 0), (9, 0), (9, 0), (9, 0), (9, 0), (9, 0), (9, 0), (9, 0), (9, 0), (9, 0)]) K ⟨.inl rfl, .inl rfl, .inl rfl, .inl rfl, .inl rfl, .inl rfl, .inl rfl, .inl rfl, .inl rfl, .inl rfl, .inl rfl, .inl rfl, .inl rfl, .inl rfl, .inl rfl, .inl rfl, .inl rfl, trivial⟩
  refine el_iload dL_law_312 rfl ?_
  refine el_if_lt (tgt := 350) dL_law_314 rfl h (fun cb h => ?_) (fun cb h => ?_)
  · exact el_sub (L2 := [(3, (200000 : Int)), (3, (0 : Int)), (0, x2), (0, x3), (3, (1 : Int)), (3, (2 + (m : Int))), (2, (0 : Int)), (1, x7), (9, 0), (0, x9), (0, x10), (0, x11), (0, x12), (0, x13), (9, 0), (9, 0), (9, 0)]) (e_L_law_350 m n N xs hmn hN σ x2 x3 x7 x9 x10 x11 x12 x13 h K) ⟨.inr rfl, .inr rfl, .inr rfl, .inr rfl, .inr rfl, .inr rfl, .inr rfl, .inr rfl, .inl rfl, .inr rfl, .inr rfl, .inr rfl, .inr rfl, .inr rfl, .inl rfl, .inl rfl, .inl rfl, trivial⟩
  refine el_aload dL_law_317 rfl (by decide) ?_
  refine el_iload dL_law_319 rfl ?_
  refine el_iconst dL_law_321 (by decide) ?_
  obtain ⟨v35, hc36, h⟩ := bind_of h
  refine el_invV (k := (0 : Int)) (av := [(0, x10), (0, (5 : Int))]) (st := []) (r2 := (some (0, v35.1), rho, v35.2)) dL_law_322 ml_L_55 mv_X10_candOf (T := TX10) (ci := 9) rfl sp0 (by decide) (by decide) rfl ⟨Nat.le_of_ble_eq_true rfl, Nat.le_of_ble_eq_true rfl⟩ (Nat.le_of_ble_eq_true rfl) (c_X10_candOf hc36) ⟨Nat.le_refl _, Nat.le_refl _⟩ ?_
  show El _ _ _ _ _ _ 325 (lm m n (v35.2, σ.2)) _ ((0, v35.1) :: [])
  refine el_iload dL_law_325 rfl ?_
  refine el_icmp_ne (tgt := 348) dL_law_327 rfl h (fun cb h => ?_) (fun cb h => ?_)
  · obtain rfl := Option.some.inj h
    exact el_sub (L2 := [(9, 0), (9, 0), (9, 0), (9, 0), (9, 0), (9, 0), (9, 0), (9, 0), (9, 0), (9, 0), (9, 0), (9, 0), (9, 0), (9, 0), (9, 0), (9, 0), (9, 0)]) K ⟨.inl rfl, .inl rfl, .inl rfl, .inl rfl, .inl rfl, .inl rfl, .inl rfl, .inl rfl, .inl rfl, .inl rfl, .inl rfl, .inl rfl, .inl rfl, .inl rfl, .inl rfl, .inl rfl, .inl rfl, trivial⟩
  refine el_aload dL_law_330 rfl (by decide) ?_
  refine el_iload dL_law_332 rfl ?_
  refine el_iconst dL_law_334 (by decide) ?_
  obtain ⟨v37, hc38, h⟩ := bind_of h
  refine el_invV (k := (0 : Int)) (av := [(0, x10), (0, (3 : Int))]) (st := []) (r2 := (some (0, v37.1), rho, v37.2)) dL_law_335 ml_L_55 mv_X10_candOf (T := TX10) (ci := 9) rfl sp0 (by decide) (by decide) rfl ⟨Nat.le_of_ble_eq_true rfl, Nat.le_of_ble_eq_true rfl⟩ (Nat.le_of_ble_eq_true rfl) (c_X10_candOf hc38) ⟨Nat.le_refl _, Nat.le_refl _⟩ ?_
  show El _ _ _ _ _ _ 338 (lm m n (v37.2, (v35.2, σ.2).2)) _ ((0, v37.1) :: [])
  refine el_aloadS2 dL_law_338 rfl ?_
  refine el_iload dL_law_340 rfl ?_
  have hw39 := (chk_of h).1
  refine el_xaald (v := (3 + (m : Int) + x10)) dL_law_342 xs_Q x0_Q xn_Q h eta_Q (fun h => ?_)
  refine el_iconst dL_law_343 (by decide) ?_
  refine el_xald dL_law_344 (xs_q (isQ_at hw39)) (x0_q (isQ_at hw39)) (xn_q (isQ_at hw39)) h (fun h => ?_)
  refine el_icmp_ne (tgt := 350) dL_law_345 rfl h (fun cb h => ?_) (fun cb h => ?_)
  · exact el_sub (L2 := [(3, (200000 : Int)), (3, (0 : Int)), (0, x2), (0, x3), (3, (1 : Int)), (3, (2 + (m : Int))), (2, (0 : Int)), (1, x7), (9, 0), (0, x9), (0, x10), (0, x11), (0, x12), (0, x13), (9, 0), (9, 0), (9, 0)]) (e_L_law_350 m n N xs hmn hN (v37.2, (v35.2, σ.2).2) x2 x3 x7 x9 x10 x11 x12 x13 h K) ⟨.inr rfl, .inr rfl, .inr rfl, .inr rfl, .inr rfl, .inr rfl, .inr rfl, .inr rfl, .inl rfl, .inr rfl, .inr rfl, .inr rfl, .inr rfl, .inr rfl, .inl rfl, .inl rfl, .inl rfl, trivial⟩
  obtain rfl := Option.some.inj h
  exact el_sub (L2 := [(9, 0), (9, 0), (9, 0), (9, 0), (9, 0), (9, 0), (9, 0), (9, 0), (9, 0), (9, 0), (9, 0), (9, 0), (9, 0), (9, 0), (9, 0), (9, 0), (9, 0)]) K ⟨.inl rfl, .inl rfl, .inl rfl, .inl rfl, .inl rfl, .inl rfl, .inl rfl, .inl rfl, .inl rfl, .inl rfl, .inl rfl, .inl rfl, .inl rfl, .inl rfl, .inl rfl, .inl rfl, .inl rfl, trivial⟩
set_option maxHeartbeats 4000000 in
set_option maxRecDepth 20000 in
theorem e_L_law_299 (m n N : Nat) (xs : Nat → Int32) (hmn : m ≤ 10 ∧ n ≤ 4) (hN : (N : Int) ≤ 2147483647) (σ : M2) (x2 x3 x7 x9 x10 x11 x12 x13 x15 s0 : Int)  {q : ((Int × M2) ⊕ ((M2) ⊕ (M2) ⊕ (M2)))} (h : f_L_law_299 m n N xs σ x2 x3 x7 x9 x10 x11 x12 x13 x15 s0 = some q) {r : Option V × LM} (K : K_L_law_242 m n N xs x2 x3 x7 x9 x10 x11 r q) : El (xsh m n) (M_L_law N xs) (false, false) (0, 0) (181, nX m n) r 299 (lm m n σ) [(3, (200000 : Int)), (3, (0 : Int)), (0, x2), (0, x3), (3, (1 : Int)), (3, (2 + (m : Int))), (2, (0 : Int)), (1, x7), (9, 0), (0, x9), (0, x10), (0, x11), (0, x12), (0, x13), (9, 0), (0, x15), (9, 0)] [(0, s0)] := by
  unfold f_L_law_299 at h
  refine el_iload dL_law_299 rfl ?_
  refine el_if_ge (tgt := 308) dL_law_301 rfl h (fun cb h => ?_) (fun cb h => ?_)
  · refine el_iconst dL_law_308 (by decide) ?_
    exact el_sub (L2 := [(3, (200000 : Int)), (3, (0 : Int)), (0, x2), (0, x3), (3, (1 : Int)), (3, (2 + (m : Int))), (2, (0 : Int)), (1, x7), (9, 0), (0, x9), (0, x10), (0, x11), (0, x12), (0, x13), (9, 0), (9, 0), (9, 0)]) (e_L_law_309 m n N xs hmn hN σ x2 x3 x7 x9 x10 x11 x12 x13 (0 : Int) s0 h K) ⟨.inr rfl, .inr rfl, .inr rfl, .inr rfl, .inr rfl, .inr rfl, .inr rfl, .inr rfl, .inl rfl, .inr rfl, .inr rfl, .inr rfl, .inr rfl, .inr rfl, .inl rfl, .inl rfl, .inl rfl, trivial⟩
  refine el_iconst dL_law_304 (by decide) ?_
  refine el_goto (tgt := 309) dL_law_305 rfl ?_
  exact el_sub (L2 := [(3, (200000 : Int)), (3, (0 : Int)), (0, x2), (0, x3), (3, (1 : Int)), (3, (2 + (m : Int))), (2, (0 : Int)), (1, x7), (9, 0), (0, x9), (0, x10), (0, x11), (0, x12), (0, x13), (9, 0), (9, 0), (9, 0)]) (e_L_law_309 m n N xs hmn hN σ x2 x3 x7 x9 x10 x11 x12 x13 (1 : Int) s0 h K) ⟨.inr rfl, .inr rfl, .inr rfl, .inr rfl, .inr rfl, .inr rfl, .inr rfl, .inr rfl, .inl rfl, .inr rfl, .inr rfl, .inr rfl, .inr rfl, .inr rfl, .inl rfl, .inl rfl, .inl rfl, trivial⟩
set_option maxHeartbeats 4000000 in
set_option maxRecDepth 20000 in
theorem e_L_law_461 (m n N : Nat) (xs : Nat → Int32) (hmn : m ≤ 10 ∧ n ≤ 4) (hN : (N : Int) ≤ 2147483647) (σ : M2) (x2 x3 x7 x9 x10 x12 x13 : Int)  {q : ((Int × M2) ⊕ ((M2) ⊕ (M2)))} (h : f_L_law_461 m n N xs σ x2 x3 x7 x9 x10 x12 x13 = some q) {r : Option V × LM} (K : K_L_law_397 m n N xs x2 x3 x7 x9 x10 x12 r q) : El (xsh m n) (M_L_law N xs) (false, false) (0, 0) (181, nX m n) r 461 (lm m n σ) [(3, (200000 : Int)), (3, (0 : Int)), (0, x2), (0, x3), (3, (1 : Int)), (3, (2 + (m : Int))), (2, (0 : Int)), (1, x7), (9, 0), (0, x9), (0, x10), (9, 0), (0, x12), (0, x13), (9, 0), (9, 0), (9, 0)] [] := by
  unfold f_L_law_461 at h
  refine el_iincG dL_law_461 rfl h rfl (fun v55 h => ?_)
  show El _ _ _ _ _ _ 464 _ [(3, (200000 : Int)), (3, (0 : Int)), (0, x2), (0, x3), (3, (1 : Int)), (3, (2 + (m : Int))), (2, (0 : Int)), (1, x7), (9, 0), (0, x9), (0, x10), (9, 0), (0, x12), (0, v55), (9, 0), (9, 0), (9, 0)] _
  refine el_goto (tgt := 397) dL_law_464 rfl ?_
  obtain rfl := Option.some.inj h
  exact el_sub (L2 := [(3, (200000 : Int)), (3, (0 : Int)), (0, x2), (0, x3), (3, (1 : Int)), (3, (2 + (m : Int))), (2, (0 : Int)), (1, x7), (9, 0), (0, x9), (0, x10), (9, 0), (0, x12), (0, v55), (9, 0), (9, 0), (9, 0)]) K ⟨.inr rfl, .inr rfl, .inr rfl, .inr rfl, .inr rfl, .inr rfl, .inr rfl, .inr rfl, .inl rfl, .inr rfl, .inr rfl, .inl rfl, .inr rfl, .inr rfl, .inl rfl, .inl rfl, .inl rfl, trivial⟩
set_option maxHeartbeats 4000000 in
set_option maxRecDepth 20000 in
theorem e_L_law_555 (m n N : Nat) (xs : Nat → Int32) (hmn : m ≤ 10 ∧ n ≤ 4) (hN : (N : Int) ≤ 2147483647) (σ : M2) (x2 x3 x7 x9 x10 : Int)  {q : ((Int × Int × M2) ⊕ ((M2) ⊕ (M2) ⊕ (M2) ⊕ (M2) ⊕ (M2) ⊕ (M2) ⊕ (Int × M2)))} (h : f_L_law_555 m n N xs σ x2 x3 x7 x9 x10 = some q) {r : Option V × LM} (K : K_L_law_140 m n N xs x2 x3 x7 r q) : El (xsh m n) (M_L_law N xs) (false, false) (0, 0) (181, nX m n) r 555 (lm m n σ) [(3, (200000 : Int)), (3, (0 : Int)), (0, x2), (0, x3), (3, (1 : Int)), (3, (2 + (m : Int))), (2, (0 : Int)), (1, x7), (9, 0), (0, x9), (0, x10), (9, 0), (9, 0), (9, 0), (9, 0), (9, 0), (9, 0)] [] := by
  unfold f_L_law_555 at h
  refine el_aload dL_law_555 rfl (by decide) ?_
  obtain ⟨v67, hc68, h⟩ := bind_of h
  refine el_invV (k := (0 : Int)) (av := []) (st := []) (r2 := (some (0, v67.1), rho, v67.2)) dL_law_557 ml_L_83 mv_X10_back (T := TX10) (ci := 9) rfl sp0 (by decide) (by decide) rfl ⟨Nat.le_of_ble_eq_true rfl, Nat.le_of_ble_eq_true rfl⟩ (Nat.le_of_ble_eq_true rfl) (c_X10_back hc68) ⟨Nat.le_refl _, Nat.le_refl _⟩ ?_
  show El _ _ _ _ _ _ 560 (lm m n (v67.2, σ.2)) _ ((0, v67.1) :: [])
  refine el_pop dL_law_560 (show (0 : Nat) ≠ 1 by decide) ?_
  refine el_iincG dL_law_561 rfl h rfl (fun v69 h => ?_)
  show El _ _ _ _ _ _ 564 _ [(3, (200000 : Int)), (3, (0 : Int)), (0, x2), (0, x3), (3, (1 : Int)), (3, (2 + (m : Int))), (2, (0 : Int)), (1, x7), (9, 0), (0, x9), (0, v69), (9, 0), (9, 0), (9, 0), (9, 0), (9, 0), (9, 0)] _
  refine el_goto (tgt := 140) dL_law_564 rfl ?_
  obtain rfl := Option.some.inj h
  exact el_sub (L2 := [(3, (200000 : Int)), (3, (0 : Int)), (0, x2), (0, x3), (3, (1 : Int)), (3, (2 + (m : Int))), (2, (0 : Int)), (1, x7), (9, 0), (0, x9), (0, v69), (9, 0), (9, 0), (9, 0), (9, 0), (9, 0), (9, 0)]) K ⟨.inr rfl, .inr rfl, .inr rfl, .inr rfl, .inr rfl, .inr rfl, .inr rfl, .inr rfl, .inl rfl, .inr rfl, .inr rfl, .inl rfl, .inl rfl, .inl rfl, .inl rfl, .inl rfl, .inl rfl, trivial⟩
set_option maxHeartbeats 4000000 in
set_option maxRecDepth 20000 in
theorem e_L_law_520 (m n N : Nat) (xs : Nat → Int32) (hmn : m ≤ 10 ∧ n ≤ 4) (hN : (N : Int) ≤ 2147483647) (σ : M2) (x2 x3 x7 x9 x10 x13 s1 s0 : Int)  {q : ((Int × Int × M2) ⊕ ((M2) ⊕ (M2) ⊕ (M2) ⊕ (M2) ⊕ (M2) ⊕ (M2) ⊕ (Int × M2)))} (h : f_L_law_520 m n N xs σ x2 x3 x7 x9 x10 x13 s1 s0 = some q) {r : Option V × LM} (K : K_L_law_140 m n N xs x2 x3 x7 r q) : El (xsh m n) (M_L_law N xs) (false, false) (0, 0) (181, nX m n) r 520 (lm m n σ) [(3, (200000 : Int)), (3, (0 : Int)), (0, x2), (0, x3), (3, (1 : Int)), (3, (2 + (m : Int))), (2, (0 : Int)), (1, x7), (9, 0), (0, x9), (0, x10), (9, 0), (9, 0), (0, x13), (9, 0), (9, 0), (9, 0)] [(0, s1), (0, s0)] := by
  unfold f_L_law_520 at h
  refine el_icmp_eq (tgt := 525) dL_law_520 rfl h (fun cb h => ?_) (fun cb h => ?_)
  · refine el_iload dL_law_525 rfl ?_
    refine el_bipush dL_law_527 (by decide) (by decide) ?_
    refine el_icmp_le (tgt := 555) dL_law_529 rfl h (fun cb h => ?_) (fun cb h => ?_)
    · exact el_sub (L2 := [(3, (200000 : Int)), (3, (0 : Int)), (0, x2), (0, x3), (3, (1 : Int)), (3, (2 + (m : Int))), (2, (0 : Int)), (1, x7), (9, 0), (0, x9), (0, x10), (9, 0), (9, 0), (9, 0), (9, 0), (9, 0), (9, 0)]) (e_L_law_555 m n N xs hmn hN σ x2 x3 x7 x9 x10 h K) ⟨.inr rfl, .inr rfl, .inr rfl, .inr rfl, .inr rfl, .inr rfl, .inr rfl, .inr rfl, .inl rfl, .inr rfl, .inr rfl, .inl rfl, .inl rfl, .inl rfl, .inl rfl, .inl rfl, .inl rfl, trivial⟩
    refine el_aload dL_law_532 rfl (by decide) ?_
    refine el_iload dL_law_534 rfl ?_
    refine el_iconst dL_law_536 (by decide) ?_
    refine el_isub dL_law_537 ?_
    obtain ⟨v63, hc64, h⟩ := bind_of h
    refine el_invV (k := (0 : Int)) (av := [(0, (jsub x13 (1 : Int)))]) (st := []) (r2 := (some (0, v63.1), rho, v63.2)) dL_law_538 ml_L_21 mv_X10_hours (T := TX10) (ci := 9) rfl sp0 (by decide) (by decide) rfl ⟨Nat.le_of_ble_eq_true rfl, Nat.le_of_ble_eq_true rfl⟩ (Nat.le_of_ble_eq_true rfl) (c_X10_hours hc64) ⟨Nat.le_refl _, Nat.le_refl _⟩ ?_
    show El _ _ _ _ _ _ 541 (lm m n (v63.2, σ.2)) _ ((0, v63.1) :: [])
    refine el_pop dL_law_541 (show (0 : Nat) ≠ 1 by decide) ?_
    refine el_aload dL_law_542 rfl (by decide) ?_
    refine el_iload dL_law_544 rfl ?_
    refine el_iconst dL_law_546 (by decide) ?_
    obtain ⟨v65, hc66, h⟩ := bind_of h
    refine el_invV (k := (0 : Int)) (av := [(0, x10), (0, (5 : Int))]) (st := []) (r2 := (some (0, v65.1), rho, v65.2)) dL_law_547 ml_L_55 mv_X10_candOf (T := TX10) (ci := 9) rfl sp0 (by decide) (by decide) rfl ⟨Nat.le_of_ble_eq_true rfl, Nat.le_of_ble_eq_true rfl⟩ (Nat.le_of_ble_eq_true rfl) (c_X10_candOf hc66) ⟨Nat.le_refl _, Nat.le_refl _⟩ ?_
    show El _ _ _ _ _ _ 550 (lm m n (v65.2, (v63.2, σ.2).2)) _ ((0, v65.1) :: [])
    refine el_if_ne (tgt := 555) dL_law_550 rfl h (fun cb h => ?_) (fun cb h => ?_)
    · exact el_sub (L2 := [(3, (200000 : Int)), (3, (0 : Int)), (0, x2), (0, x3), (3, (1 : Int)), (3, (2 + (m : Int))), (2, (0 : Int)), (1, x7), (9, 0), (0, x9), (0, x10), (9, 0), (9, 0), (9, 0), (9, 0), (9, 0), (9, 0)]) (e_L_law_555 m n N xs hmn hN (v65.2, (v63.2, σ.2).2) x2 x3 x7 x9 x10 h K) ⟨.inr rfl, .inr rfl, .inr rfl, .inr rfl, .inr rfl, .inr rfl, .inr rfl, .inr rfl, .inl rfl, .inr rfl, .inr rfl, .inl rfl, .inl rfl, .inl rfl, .inl rfl, .inl rfl, .inl rfl, trivial⟩
    obtain rfl := Option.some.inj h
    exact el_sub (L2 := [(9, 0), (9, 0), (9, 0), (9, 0), (9, 0), (9, 0), (9, 0), (9, 0), (9, 0), (9, 0), (9, 0), (9, 0), (9, 0), (9, 0), (9, 0), (9, 0), (9, 0)]) K ⟨.inl rfl, .inl rfl, .inl rfl, .inl rfl, .inl rfl, .inl rfl, .inl rfl, .inl rfl, .inl rfl, .inl rfl, .inl rfl, .inl rfl, .inl rfl, .inl rfl, .inl rfl, .inl rfl, .inl rfl, trivial⟩
  obtain rfl := Option.some.inj h
  exact el_sub (L2 := [(9, 0), (9, 0), (9, 0), (9, 0), (9, 0), (9, 0), (9, 0), (9, 0), (9, 0), (9, 0), (9, 0), (9, 0), (9, 0), (9, 0), (9, 0), (9, 0), (9, 0)]) K ⟨.inl rfl, .inl rfl, .inl rfl, .inl rfl, .inl rfl, .inl rfl, .inl rfl, .inl rfl, .inl rfl, .inl rfl, .inl rfl, .inl rfl, .inl rfl, .inl rfl, .inl rfl, .inl rfl, .inl rfl, trivial⟩
set_option maxHeartbeats 4000000 in
set_option maxRecDepth 20000 in
theorem e_L_law_510 (m n N : Nat) (xs : Nat → Int32) (hmn : m ≤ 10 ∧ n ≤ 4) (hN : (N : Int) ≤ 2147483647) (σ : M2) (x2 x3 x7 x9 x10 x13 s0 : Int)  {q : ((Int × Int × M2) ⊕ ((M2) ⊕ (M2) ⊕ (M2) ⊕ (M2) ⊕ (M2) ⊕ (M2) ⊕ (Int × M2)))} (h : f_L_law_510 m n N xs σ x2 x3 x7 x9 x10 x13 s0 = some q) {r : Option V × LM} (K : K_L_law_140 m n N xs x2 x3 x7 r q) : El (xsh m n) (M_L_law N xs) (false, false) (0, 0) (181, nX m n) r 510 (lm m n σ) [(3, (200000 : Int)), (3, (0 : Int)), (0, x2), (0, x3), (3, (1 : Int)), (3, (2 + (m : Int))), (2, (0 : Int)), (1, x7), (9, 0), (0, x9), (0, x10), (9, 0), (9, 0), (0, x13), (9, 0), (9, 0), (9, 0)] [(0, s0)] := by
  unfold f_L_law_510 at h
  refine el_iload dL_law_510 rfl ?_
  refine el_if_lt (tgt := 519) dL_law_512 rfl h (fun cb h => ?_) (fun cb h => ?_)
  · refine el_iconst dL_law_519 (by decide) ?_
    exact el_sub (L2 := [(3, (200000 : Int)), (3, (0 : Int)), (0, x2), (0, x3), (3, (1 : Int)), (3, (2 + (m : Int))), (2, (0 : Int)), (1, x7), (9, 0), (0, x9), (0, x10), (9, 0), (9, 0), (0, x13), (9, 0), (9, 0), (9, 0)]) (e_L_law_520 m n N xs hmn hN σ x2 x3 x7 x9 x10 x13 (0 : Int) s0 h K) ⟨.inr rfl, .inr rfl, .inr rfl, .inr rfl, .inr rfl, .inr rfl, .inr rfl, .inr rfl, .inl rfl, .inr rfl, .inr rfl, .inl rfl, .inl rfl, .inr rfl, .inl rfl, .inl rfl, .inl rfl, trivial⟩
  refine el_iconst dL_law_515 (by decide) ?_
  refine el_goto (tgt := 520) dL_law_516 rfl ?_
  exact el_sub (L2 := [(3, (200000 : Int)), (3, (0 : Int)), (0, x2), (0, x3), (3, (1 : Int)), (3, (2 + (m : Int))), (2, (0 : Int)), (1, x7), (9, 0), (0, x9), (0, x10), (9, 0), (9, 0), (0, x13), (9, 0), (9, 0), (9, 0)]) (e_L_law_520 m n N xs hmn hN σ x2 x3 x7 x9 x10 x13 (1 : Int) s0 h K) ⟨.inr rfl, .inr rfl, .inr rfl, .inr rfl, .inr rfl, .inr rfl, .inr rfl, .inr rfl, .inl rfl, .inr rfl, .inr rfl, .inl rfl, .inl rfl, .inr rfl, .inl rfl, .inl rfl, .inl rfl, trivial⟩
set_option maxHeartbeats 4000000 in
set_option maxRecDepth 20000 in
theorem e_L_law_490 (m n N : Nat) (xs : Nat → Int32) (hmn : m ≤ 10 ∧ n ≤ 4) (hN : (N : Int) ≤ 2147483647) (σ : M2) (x2 x3 x7 x9 x10 x13 s1 : Int)  {q : ((Int × Int × M2) ⊕ ((M2) ⊕ (M2) ⊕ (M2) ⊕ (M2) ⊕ (M2) ⊕ (M2) ⊕ (Int × M2)))} (h : f_L_law_490 m n N xs σ x2 x3 x7 x9 x10 x13 s1 = some q) {r : Option V × LM} (K : K_L_law_140 m n N xs x2 x3 x7 r q) : El (xsh m n) (M_L_law N xs) (false, false) (0, 0) (181, nX m n) r 490 (lm m n σ) [(3, (200000 : Int)), (3, (0 : Int)), (0, x2), (0, x3), (3, (1 : Int)), (3, (2 + (m : Int))), (2, (0 : Int)), (1, x7), (9, 0), (0, x9), (0, x10), (9, 0), (9, 0), (0, x13), (9, 0), (9, 0), (9, 0)] [(0, s1), (2, (0 : Int))] := by
  unfold f_L_law_490 at h
  obtain ⟨v59, hc60, h⟩ := bind_of h
  refine el_invV (k := (0 : Int)) (av := [(0, s1)]) (st := []) (r2 := (some (0, v59.1), rho, v59.2)) dL_law_490 ml_L_21 mv_X10_hours (T := TX10) (ci := 9) rfl sp0 (by decide) (by decide) rfl ⟨Nat.le_of_ble_eq_true rfl, Nat.le_of_ble_eq_true rfl⟩ (Nat.le_of_ble_eq_true rfl) (c_X10_hours hc60) ⟨Nat.le_refl _, Nat.le_refl _⟩ ?_
  show El _ _ _ _ _ _ 493 (lm m n (v59.2, σ.2)) _ ((0, v59.1) :: [])
  refine el_pop dL_law_493 (show (0 : Nat) ≠ 1 by decide) ?_
  refine el_aload dL_law_494 rfl (by decide) ?_
  refine el_iload dL_law_496 rfl ?_
  refine el_iconst dL_law_498 (by decide) ?_
  obtain ⟨v61, hc62, h⟩ := bind_of h
  refine el_invV (k := (0 : Int)) (av := [(0, x10), (0, (5 : Int))]) (st := []) (r2 := (some (0, v61.1), rho, v61.2)) dL_law_499 ml_L_55 mv_X10_candOf (T := TX10) (ci := 9) rfl sp0 (by decide) (by decide) rfl ⟨Nat.le_of_ble_eq_true rfl, Nat.le_of_ble_eq_true rfl⟩ (Nat.le_of_ble_eq_true rfl) (c_X10_candOf hc62) ⟨Nat.le_refl _, Nat.le_refl _⟩ ?_
  show El _ _ _ _ _ _ 502 (lm m n (v61.2, (v59.2, σ.2).2)) _ ((0, v61.1) :: [])
  refine el_if_ne (tgt := 509) dL_law_502 rfl h (fun cb h => ?_) (fun cb h => ?_)
  · refine el_iconst dL_law_509 (by decide) ?_
    exact el_sub (L2 := [(3, (200000 : Int)), (3, (0 : Int)), (0, x2), (0, x3), (3, (1 : Int)), (3, (2 + (m : Int))), (2, (0 : Int)), (1, x7), (9, 0), (0, x9), (0, x10), (9, 0), (9, 0), (0, x13), (9, 0), (9, 0), (9, 0)]) (e_L_law_510 m n N xs hmn hN (v61.2, (v59.2, σ.2).2) x2 x3 x7 x9 x10 x13 (0 : Int) h K) ⟨.inr rfl, .inr rfl, .inr rfl, .inr rfl, .inr rfl, .inr rfl, .inr rfl, .inr rfl, .inl rfl, .inr rfl, .inr rfl, .inl rfl, .inl rfl, .inr rfl, .inl rfl, .inl rfl, .inl rfl, trivial⟩
  refine el_iconst dL_law_505 (by decide) ?_
  refine el_goto (tgt := 510) dL_law_506 rfl ?_
  exact el_sub (L2 := [(3, (200000 : Int)), (3, (0 : Int)), (0, x2), (0, x3), (3, (1 : Int)), (3, (2 + (m : Int))), (2, (0 : Int)), (1, x7), (9, 0), (0, x9), (0, x10), (9, 0), (9, 0), (0, x13), (9, 0), (9, 0), (9, 0)]) (e_L_law_510 m n N xs hmn hN (v61.2, (v59.2, σ.2).2) x2 x3 x7 x9 x10 x13 (1 : Int) h K) ⟨.inr rfl, .inr rfl, .inr rfl, .inr rfl, .inr rfl, .inr rfl, .inr rfl, .inr rfl, .inl rfl, .inr rfl, .inr rfl, .inl rfl, .inl rfl, .inr rfl, .inl rfl, .inl rfl, .inl rfl, trivial⟩
set_option maxHeartbeats 4000000 in
set_option maxRecDepth 20000 in
theorem e_L_law_467 (m n N : Nat) (xs : Nat → Int32) (hmn : m ≤ 10 ∧ n ≤ 4) (hN : (N : Int) ≤ 2147483647) (σ : M2) (x2 x3 x7 x9 x10 : Int)  {q : ((Int × Int × M2) ⊕ ((M2) ⊕ (M2) ⊕ (M2) ⊕ (M2) ⊕ (M2) ⊕ (M2) ⊕ (Int × M2)))} (h : f_L_law_467 m n N xs σ x2 x3 x7 x9 x10 = some q) {r : Option V × LM} (K : K_L_law_140 m n N xs x2 x3 x7 r q) : El (xsh m n) (M_L_law N xs) (false, false) (0, 0) (181, nX m n) r 467 (lm m n σ) [(3, (200000 : Int)), (3, (0 : Int)), (0, x2), (0, x3), (3, (1 : Int)), (3, (2 + (m : Int))), (2, (0 : Int)), (1, x7), (9, 0), (0, x9), (0, x10), (9, 0), (9, 0), (9, 0), (9, 0), (9, 0), (9, 0)] [] := by
  unfold f_L_law_467 at h
  refine el_aload dL_law_467 rfl (by decide) ?_
  refine el_iload dL_law_469 rfl ?_
  obtain ⟨v56, hc57, h⟩ := bind_of h
  refine el_invV (k := (0 : Int)) (av := [(0, x10)]) (st := []) (r2 := (some (0, v56.1), rho, v56.2)) dL_law_471 ml_L_125 mv_X10_hoursFor (T := TX10) (ci := 9) rfl sp0 (by decide) (by decide) rfl ⟨Nat.le_of_ble_eq_true rfl, Nat.le_of_ble_eq_true rfl⟩ (Nat.le_of_ble_eq_true rfl) (c_X10_hoursFor hc57) ⟨Nat.le_refl _, Nat.le_refl _⟩ ?_
  show El _ _ _ _ _ _ 474 (lm m n (v56.2, σ.2)) _ ((0, v56.1) :: [])
  refine el_istoreG dL_law_474 h rfl (Nat.le_of_ble_eq_true rfl) (fun v58 h => ?_)
  show El _ _ _ _ _ _ 476 _ [(3, (200000 : Int)), (3, (0 : Int)), (0, x2), (0, x3), (3, (1 : Int)), (3, (2 + (m : Int))), (2, (0 : Int)), (1, x7), (9, 0), (0, x9), (0, x10), (9, 0), (9, 0), (0, v58), (9, 0), (9, 0), (9, 0)] _
  refine el_aload dL_law_476 rfl (by decide) ?_
  refine el_iload dL_law_478 rfl ?_
  refine el_if_ge (tgt := 488) dL_law_480 rfl h (fun cb h => ?_) (fun cb h => ?_)
  · refine el_iload dL_law_488 rfl ?_
    exact el_sub (L2 := [(3, (200000 : Int)), (3, (0 : Int)), (0, x2), (0, x3), (3, (1 : Int)), (3, (2 + (m : Int))), (2, (0 : Int)), (1, x7), (9, 0), (0, x9), (0, x10), (9, 0), (9, 0), (0, v58), (9, 0), (9, 0), (9, 0)]) (e_L_law_490 m n N xs hmn hN (v56.2, σ.2) x2 x3 x7 x9 x10 v58 v58 h K) ⟨.inr rfl, .inr rfl, .inr rfl, .inr rfl, .inr rfl, .inr rfl, .inr rfl, .inr rfl, .inl rfl, .inr rfl, .inr rfl, .inl rfl, .inl rfl, .inr rfl, .inl rfl, .inl rfl, .inl rfl, trivial⟩
  refine el_bipush dL_law_483 (by decide) (by decide) ?_
  refine el_goto (tgt := 490) dL_law_485 rfl ?_
  exact el_sub (L2 := [(3, (200000 : Int)), (3, (0 : Int)), (0, x2), (0, x3), (3, (1 : Int)), (3, (2 + (m : Int))), (2, (0 : Int)), (1, x7), (9, 0), (0, x9), (0, x10), (9, 0), (9, 0), (0, v58), (9, 0), (9, 0), (9, 0)]) (e_L_law_490 m n N xs hmn hN (v56.2, σ.2) x2 x3 x7 x9 x10 v58 (40 : Int) h K) ⟨.inr rfl, .inr rfl, .inr rfl, .inr rfl, .inr rfl, .inr rfl, .inr rfl, .inr rfl, .inl rfl, .inr rfl, .inr rfl, .inl rfl, .inl rfl, .inr rfl, .inl rfl, .inl rfl, .inl rfl, trivial⟩
set_option maxHeartbeats 4000000 in
set_option maxRecDepth 20000 in
theorem b_L_law_397 (m n N : Nat) (xs : Nat → Int32) (hmn : m ≤ 10 ∧ n ≤ 4) (hN : (N : Int) ≤ 2147483647) (x2 x3 x7 x9 x10 x12 : Int)  {r : Option V × LM} : ∀ a x, f_L_law_397B m n N xs x2 x3 x7 x9 x10 x12 a = some x → K_L_law_397 m n N xs x2 x3 x7 x9 x10 x12 r x → K_L_law_397 m n N xs x2 x3 x7 x9 x10 x12 r (.inl a) := by
  intro a x h K
  obtain ⟨x13, σ⟩ := a
  have h : f_L_law_397C m n N xs x2 x3 x7 x9 x10 x12 x13 σ = some x := h
  unfold f_L_law_397C at h
  show El (xsh m n) (M_L_law N xs) (false, false) (0, 0) (181, nX m n) r 397 (lm m n σ) [(3, (200000 : Int)), (3, (0 : Int)), (0, x2), (0, x3), (3, (1 : Int)), (3, (2 + (m : Int))), (2, (0 : Int)), (1, x7), (9, 0), (0, x9), (0, x10), (9, 0), (0, x12), (0, x13), (9, 0), (9, 0), (9, 0)] []
  refine el_iload dL_law_397 rfl ?_
  refine el_iload_n dL_law_399 rfl ?_
  refine el_icmp_ge (tgt := 467) dL_law_400 rfl h (fun cb h => ?_) (fun cb h => ?_)
  · obtain rfl := Option.some.inj h
    exact el_sub (L2 := [(3, (200000 : Int)), (3, (0 : Int)), (0, x2), (0, x3), (3, (1 : Int)), (3, (2 + (m : Int))), (2, (0 : Int)), (1, x7), (9, 0), (0, x9), (0, x10), (9, 0), (9, 0), (9, 0), (9, 0), (9, 0), (9, 0)]) K ⟨.inr rfl, .inr rfl, .inr rfl, .inr rfl, .inr rfl, .inr rfl, .inr rfl, .inr rfl, .inl rfl, .inr rfl, .inr rfl, .inl rfl, .inl rfl, .inl rfl, .inl rfl, .inl rfl, .inl rfl, trivial⟩
  refine el_aload dL_law_403 rfl (by decide) ?_
  refine el_iload dL_law_405 rfl ?_
  refine el_iload dL_law_407 rfl ?_
  obtain ⟨v48, hc49, h⟩ := bind_of h
  refine el_invV (k := (0 : Int)) (av := [(0, x10), (0, x13)]) (st := []) (r2 := (some (0, v48.1), rho, v48.2)) dL_law_409 ml_L_116 mv_X10_whatIf (T := TX10) (ci := 9) rfl sp0 (by decide) (by decide) rfl ⟨Nat.le_of_ble_eq_true rfl, Nat.le_of_ble_eq_true rfl⟩ (Nat.le_of_ble_eq_true rfl) (c_X10_whatIf hc49) ⟨Nat.le_refl _, Nat.le_refl _⟩ ?_
  show El _ _ _ _ _ _ 412 (lm m n (v48.2, σ.2)) _ ((0, v48.1) :: [])
  refine el_istoreG dL_law_412 h rfl (Nat.le_of_ble_eq_true rfl) (fun v50 h => ?_)
  show El _ _ _ _ _ _ 414 _ [(3, (200000 : Int)), (3, (0 : Int)), (0, x2), (0, x3), (3, (1 : Int)), (3, (2 + (m : Int))), (2, (0 : Int)), (1, x7), (9, 0), (0, x9), (0, x10), (9, 0), (0, x12), (0, x13), (0, v50), (9, 0), (9, 0)] _
  refine el_iload dL_law_414 rfl ?_
  refine el_if_lt (tgt := 461) dL_law_416 rfl h (fun cb h => ?_) (fun cb h => ?_)
  · exact el_sub (L2 := [(3, (200000 : Int)), (3, (0 : Int)), (0, x2), (0, x3), (3, (1 : Int)), (3, (2 + (m : Int))), (2, (0 : Int)), (1, x7), (9, 0), (0, x9), (0, x10), (9, 0), (0, x12), (0, x13), (9, 0), (9, 0), (9, 0)]) (e_L_law_461 m n N xs hmn hN (v48.2, σ.2) x2 x3 x7 x9 x10 x12 x13 h K) ⟨.inr rfl, .inr rfl, .inr rfl, .inr rfl, .inr rfl, .inr rfl, .inr rfl, .inr rfl, .inl rfl, .inr rfl, .inr rfl, .inl rfl, .inr rfl, .inr rfl, .inl rfl, .inl rfl, .inl rfl, trivial⟩
  refine el_iload dL_law_419 rfl ?_
  refine el_if_lt (tgt := 459) dL_law_421 rfl h (fun cb h => ?_) (fun cb h => ?_)
  · obtain rfl := Option.some.inj h
    exact el_sub (L2 := [(9, 0), (9, 0), (9, 0), (9, 0), (9, 0), (9, 0), (9, 0), (9, 0), (9, 0), (9, 0), (9, 0), (9, 0), (9, 0), (9, 0), (9, 0), (9, 0), (9, 0)]) K ⟨.inl rfl, .inl rfl, .inl rfl, .inl rfl, .inl rfl, .inl rfl, .inl rfl, .inl rfl, .inl rfl, .inl rfl, .inl rfl, .inl rfl, .inl rfl, .inl rfl, .inl rfl, .inl rfl, .inl rfl, trivial⟩
  refine el_iload dL_law_424 rfl ?_
  refine el_aload dL_law_426 rfl (by decide) ?_
  refine el_iload dL_law_428 rfl ?_
  refine el_iload dL_law_430 rfl ?_
  obtain ⟨v51, hc52, h⟩ := bind_of h
  refine el_invV (k := (0 : Int)) (av := [(0, x10), (0, x12)]) (st := [(0, v50)]) (r2 := (some (0, v51.1), rho, v51.2)) dL_law_432 ml_L_116 mv_X10_whatIf (T := TX10) (ci := 9) rfl sp0 (by decide) (by decide) rfl ⟨Nat.le_of_ble_eq_true rfl, Nat.le_of_ble_eq_true rfl⟩ (Nat.le_of_ble_eq_true rfl) (c_X10_whatIf hc52) ⟨Nat.le_refl _, Nat.le_refl _⟩ ?_
  show El _ _ _ _ _ _ 435 (lm m n (v51.2, (v48.2, σ.2).2)) _ ((0, v51.1) :: [(0, v50)])
  refine el_icmp_lt (tgt := 459) dL_law_435 rfl h (fun cb h => ?_) (fun cb h => ?_)
  · obtain rfl := Option.some.inj h
    exact el_sub (L2 := [(9, 0), (9, 0), (9, 0), (9, 0), (9, 0), (9, 0), (9, 0), (9, 0), (9, 0), (9, 0), (9, 0), (9, 0), (9, 0), (9, 0), (9, 0), (9, 0), (9, 0)]) K ⟨.inl rfl, .inl rfl, .inl rfl, .inl rfl, .inl rfl, .inl rfl, .inl rfl, .inl rfl, .inl rfl, .inl rfl, .inl rfl, .inl rfl, .inl rfl, .inl rfl, .inl rfl, .inl rfl, .inl rfl, trivial⟩
  refine el_iload dL_law_438 rfl ?_
  refine el_aload dL_law_440 rfl (by decide) ?_
  refine el_iload dL_law_442 rfl ?_
  refine el_iload dL_law_444 rfl ?_
  obtain ⟨v53, hc54, h⟩ := bind_of h
  refine el_invV (k := (0 : Int)) (av := [(0, x10), (0, x12)]) (st := [(0, v50)]) (r2 := (some (0, v53.1), rho, v53.2)) dL_law_446 ml_L_116 mv_X10_whatIf (T := TX10) (ci := 9) rfl sp0 (by decide) (by decide) rfl ⟨Nat.le_of_ble_eq_true rfl, Nat.le_of_ble_eq_true rfl⟩ (Nat.le_of_ble_eq_true rfl) (c_X10_whatIf hc54) ⟨Nat.le_refl _, Nat.le_refl _⟩ ?_
  show El _ _ _ _ _ _ 449 (lm m n (v53.2, (v51.2, (v48.2, σ.2).2).2)) _ ((0, v53.1) :: [(0, v50)])
  refine el_icmp_ne (tgt := 461) dL_law_449 rfl h (fun cb h => ?_) (fun cb h => ?_)
  · exact el_sub (L2 := [(3, (200000 : Int)), (3, (0 : Int)), (0, x2), (0, x3), (3, (1 : Int)), (3, (2 + (m : Int))), (2, (0 : Int)), (1, x7), (9, 0), (0, x9), (0, x10), (9, 0), (0, x12), (0, x13), (9, 0), (9, 0), (9, 0)]) (e_L_law_461 m n N xs hmn hN (v53.2, (v51.2, (v48.2, σ.2).2).2) x2 x3 x7 x9 x10 x12 x13 h K) ⟨.inr rfl, .inr rfl, .inr rfl, .inr rfl, .inr rfl, .inr rfl, .inr rfl, .inr rfl, .inl rfl, .inr rfl, .inr rfl, .inl rfl, .inr rfl, .inr rfl, .inl rfl, .inl rfl, .inl rfl, trivial⟩
  refine el_iload dL_law_452 rfl ?_
  refine el_iload dL_law_454 rfl ?_
  refine el_icmp_ge (tgt := 461) dL_law_456 rfl h (fun cb h => ?_) (fun cb h => ?_)
  · exact el_sub (L2 := [(3, (200000 : Int)), (3, (0 : Int)), (0, x2), (0, x3), (3, (1 : Int)), (3, (2 + (m : Int))), (2, (0 : Int)), (1, x7), (9, 0), (0, x9), (0, x10), (9, 0), (0, x12), (0, x13), (9, 0), (9, 0), (9, 0)]) (e_L_law_461 m n N xs hmn hN (v53.2, (v51.2, (v48.2, σ.2).2).2) x2 x3 x7 x9 x10 x12 x13 h K) ⟨.inr rfl, .inr rfl, .inr rfl, .inr rfl, .inr rfl, .inr rfl, .inr rfl, .inr rfl, .inl rfl, .inr rfl, .inr rfl, .inl rfl, .inr rfl, .inr rfl, .inl rfl, .inl rfl, .inl rfl, trivial⟩
  obtain rfl := Option.some.inj h
  exact el_sub (L2 := [(9, 0), (9, 0), (9, 0), (9, 0), (9, 0), (9, 0), (9, 0), (9, 0), (9, 0), (9, 0), (9, 0), (9, 0), (9, 0), (9, 0), (9, 0), (9, 0), (9, 0)]) K ⟨.inl rfl, .inl rfl, .inl rfl, .inl rfl, .inl rfl, .inl rfl, .inl rfl, .inl rfl, .inl rfl, .inl rfl, .inl rfl, .inl rfl, .inl rfl, .inl rfl, .inl rfl, .inl rfl, .inl rfl, trivial⟩
set_option maxHeartbeats 4000000 in
set_option maxRecDepth 20000 in
theorem e_L_law_397 (m n N : Nat) (xs : Nat → Int32) (hmn : m ≤ 10 ∧ n ≤ 4) (hN : (N : Int) ≤ 2147483647) (σ : M2) (x2 x3 x7 x9 x10 x12 x13 : Int)  {q : ((Int × Int × M2) ⊕ ((M2) ⊕ (M2) ⊕ (M2) ⊕ (M2) ⊕ (M2) ⊕ (M2) ⊕ (Int × M2)))} (h : f_L_law_397 m n N xs σ x2 x3 x7 x9 x10 x12 x13 = some q) {r : Option V × LM} (K : K_L_law_140 m n N xs x2 x3 x7 r q) : El (xsh m n) (M_L_law N xs) (false, false) (0, 0) (181, nX m n) r 397 (lm m n σ) [(3, (200000 : Int)), (3, (0 : Int)), (0, x2), (0, x3), (3, (1 : Int)), (3, (2 + (m : Int))), (2, (0 : Int)), (1, x7), (9, 0), (0, x9), (0, x10), (9, 0), (0, x12), (0, x13), (9, 0), (9, 0), (9, 0)] [] := by
  unfold f_L_law_397 at h
  obtain ⟨e, hl, h⟩ := bind_of h
  refine loop_ev (K := K_L_law_397 m n N xs x2 x3 x7 x9 x10 x12 r) (b_L_law_397 m n N xs hmn hN x2 x3 x7 x9 x10 x12) FU (x13, σ) e hl ?_
  rcases e with e | e
  · show El (xsh m n) (M_L_law N xs) (false, false) (0, 0) (181, nX m n) r 459 (lm m n e) [(9, 0), (9, 0), (9, 0), (9, 0), (9, 0), (9, 0), (9, 0), (9, 0), (9, 0), (9, 0), (9, 0), (9, 0), (9, 0), (9, 0), (9, 0), (9, 0), (9, 0)] []
    replace h : some (.inr (.inr (.inr (.inr (.inl e))))) = some q := h
    obtain rfl := Option.some.inj h
    exact el_sub (L2 := [(9, 0), (9, 0), (9, 0), (9, 0), (9, 0), (9, 0), (9, 0), (9, 0), (9, 0), (9, 0), (9, 0), (9, 0), (9, 0), (9, 0), (9, 0), (9, 0), (9, 0)]) K ⟨.inl rfl, .inl rfl, .inl rfl, .inl rfl, .inl rfl, .inl rfl, .inl rfl, .inl rfl, .inl rfl, .inl rfl, .inl rfl, .inl rfl, .inl rfl, .inl rfl, .inl rfl, .inl rfl, .inl rfl, trivial⟩
  · show El (xsh m n) (M_L_law N xs) (false, false) (0, 0) (181, nX m n) r 467 (lm m n e) [(3, (200000 : Int)), (3, (0 : Int)), (0, x2), (0, x3), (3, (1 : Int)), (3, (2 + (m : Int))), (2, (0 : Int)), (1, x7), (9, 0), (0, x9), (0, x10), (9, 0), (9, 0), (9, 0), (9, 0), (9, 0), (9, 0)] []
    replace h : f_L_law_467 m n N xs e x2 x3 x7 x9 x10 = some q := h
    exact el_sub (L2 := [(3, (200000 : Int)), (3, (0 : Int)), (0, x2), (0, x3), (3, (1 : Int)), (3, (2 + (m : Int))), (2, (0 : Int)), (1, x7), (9, 0), (0, x9), (0, x10), (9, 0), (9, 0), (9, 0), (9, 0), (9, 0), (9, 0)]) (e_L_law_467 m n N xs hmn hN e x2 x3 x7 x9 x10 h K) ⟨.inr rfl, .inr rfl, .inr rfl, .inr rfl, .inr rfl, .inr rfl, .inr rfl, .inr rfl, .inl rfl, .inr rfl, .inr rfl, .inl rfl, .inl rfl, .inl rfl, .inl rfl, .inl rfl, .inl rfl, trivial⟩
set_option maxHeartbeats 4000000 in
set_option maxRecDepth 20000 in
theorem e_L_law_385 (m n N : Nat) (xs : Nat → Int32) (hmn : m ≤ 10 ∧ n ≤ 4) (hN : (N : Int) ≤ 2147483647) (σ : M2) (x2 x3 x7 x9 x10 : Int)  {q : ((Int × Int × M2) ⊕ ((M2) ⊕ (M2) ⊕ (M2) ⊕ (M2) ⊕ (M2) ⊕ (M2) ⊕ (Int × M2)))} (h : f_L_law_385 m n N xs σ x2 x3 x7 x9 x10 = some q) {r : Option V × LM} (K : K_L_law_140 m n N xs x2 x3 x7 r q) : El (xsh m n) (M_L_law N xs) (false, false) (0, 0) (181, nX m n) r 385 (lm m n σ) [(3, (200000 : Int)), (3, (0 : Int)), (0, x2), (0, x3), (3, (1 : Int)), (3, (2 + (m : Int))), (2, (0 : Int)), (1, x7), (9, 0), (0, x9), (0, x10), (9, 0), (9, 0), (9, 0), (9, 0), (9, 0), (9, 0)] [] := by
  unfold f_L_law_385 at h
  refine el_aload dL_law_385 rfl (by decide) ?_
  refine el_iload dL_law_387 rfl ?_
  obtain ⟨v45, hc46, h⟩ := bind_of h
  refine el_invV (k := (0 : Int)) (av := [(0, x10)]) (st := []) (r2 := (some (0, v45.1), rho, v45.2)) dL_law_389 ml_L_122 mv_X10_relief (T := TX10) (ci := 9) rfl sp0 (by decide) (by decide) rfl ⟨Nat.le_of_ble_eq_true rfl, Nat.le_of_ble_eq_true rfl⟩ (Nat.le_of_ble_eq_true rfl) (c_X10_relief hc46) ⟨Nat.le_refl _, Nat.le_refl _⟩ ?_
  show El _ _ _ _ _ _ 392 (lm m n (v45.2, σ.2)) _ ((0, v45.1) :: [])
  refine el_istoreG dL_law_392 h rfl (Nat.le_of_ble_eq_true rfl) (fun v47 h => ?_)
  show El _ _ _ _ _ _ 394 _ [(3, (200000 : Int)), (3, (0 : Int)), (0, x2), (0, x3), (3, (1 : Int)), (3, (2 + (m : Int))), (2, (0 : Int)), (1, x7), (9, 0), (0, x9), (0, x10), (9, 0), (0, v47), (9, 0), (9, 0), (9, 0), (9, 0)] _
  refine el_iconst dL_law_394 (by decide) ?_
  refine el_istore dL_law_395 rfl (Nat.le_of_ble_eq_true rfl) ?_
  show El _ _ _ _ _ _ 397 _ [(3, (200000 : Int)), (3, (0 : Int)), (0, x2), (0, x3), (3, (1 : Int)), (3, (2 + (m : Int))), (2, (0 : Int)), (1, x7), (9, 0), (0, x9), (0, x10), (9, 0), (0, v47), (0, (0 : Int)), (9, 0), (9, 0), (9, 0)] _
  exact el_sub (L2 := [(3, (200000 : Int)), (3, (0 : Int)), (0, x2), (0, x3), (3, (1 : Int)), (3, (2 + (m : Int))), (2, (0 : Int)), (1, x7), (9, 0), (0, x9), (0, x10), (9, 0), (0, v47), (0, (0 : Int)), (9, 0), (9, 0), (9, 0)]) (e_L_law_397 m n N xs hmn hN (v45.2, σ.2) x2 x3 x7 x9 x10 v47 (0 : Int) h K) ⟨.inr rfl, .inr rfl, .inr rfl, .inr rfl, .inr rfl, .inr rfl, .inr rfl, .inr rfl, .inl rfl, .inr rfl, .inr rfl, .inl rfl, .inr rfl, .inr rfl, .inl rfl, .inl rfl, .inl rfl, trivial⟩
set_option maxHeartbeats 4000000 in
set_option maxRecDepth 20000 in
theorem b_L_law_242 (m n N : Nat) (xs : Nat → Int32) (hmn : m ≤ 10 ∧ n ≤ 4) (hN : (N : Int) ≤ 2147483647) (x2 x3 x7 x9 x10 x11 : Int)  {r : Option V × LM} : ∀ a x, f_L_law_242B m n N xs x2 x3 x7 x9 x10 x11 a = some x → K_L_law_242 m n N xs x2 x3 x7 x9 x10 x11 r x → K_L_law_242 m n N xs x2 x3 x7 x9 x10 x11 r (.inl a) := by
  intro a x h K
  obtain ⟨x12, σ⟩ := a
  have h : f_L_law_242C m n N xs x2 x3 x7 x9 x10 x11 x12 σ = some x := h
  unfold f_L_law_242C at h
  show El (xsh m n) (M_L_law N xs) (false, false) (0, 0) (181, nX m n) r 242 (lm m n σ) [(3, (200000 : Int)), (3, (0 : Int)), (0, x2), (0, x3), (3, (1 : Int)), (3, (2 + (m : Int))), (2, (0 : Int)), (1, x7), (9, 0), (0, x9), (0, x10), (0, x11), (0, x12), (9, 0), (9, 0), (9, 0), (9, 0)] []
  refine el_iload dL_law_242 rfl ?_
  refine el_iload_n dL_law_244 rfl ?_
  refine el_icmp_ge (tgt := 385) dL_law_245 rfl h (fun cb h => ?_) (fun cb h => ?_)
  · obtain rfl := Option.some.inj h
    exact el_sub (L2 := [(3, (200000 : Int)), (3, (0 : Int)), (0, x2), (0, x3), (3, (1 : Int)), (3, (2 + (m : Int))), (2, (0 : Int)), (1, x7), (9, 0), (0, x9), (0, x10), (9, 0), (9, 0), (9, 0), (9, 0), (9, 0), (9, 0)]) K ⟨.inr rfl, .inr rfl, .inr rfl, .inr rfl, .inr rfl, .inr rfl, .inr rfl, .inr rfl, .inl rfl, .inr rfl, .inr rfl, .inl rfl, .inl rfl, .inl rfl, .inl rfl, .inl rfl, .inl rfl, trivial⟩
  refine el_aload dL_law_248 rfl (by decide) ?_
  refine el_iload dL_law_250 rfl ?_
  refine el_iload dL_law_252 rfl ?_
  obtain ⟨v26, hc27, h⟩ := bind_of h
  refine el_invV (k := (0 : Int)) (av := [(0, x10), (0, x12)]) (st := []) (r2 := (some (0, v26.1), rho, v26.2)) dL_law_254 ml_L_116 mv_X10_whatIf (T := TX10) (ci := 9) rfl sp0 (by decide) (by decide) rfl ⟨Nat.le_of_ble_eq_true rfl, Nat.le_of_ble_eq_true rfl⟩ (Nat.le_of_ble_eq_true rfl) (c_X10_whatIf hc27) ⟨Nat.le_refl _, Nat.le_refl _⟩ ?_
  show El _ _ _ _ _ _ 257 (lm m n (v26.2, σ.2)) _ ((0, v26.1) :: [])
  refine el_istoreG dL_law_257 h rfl (Nat.le_of_ble_eq_true rfl) (fun v28 h => ?_)
  show El _ _ _ _ _ _ 259 _ [(3, (200000 : Int)), (3, (0 : Int)), (0, x2), (0, x3), (3, (1 : Int)), (3, (2 + (m : Int))), (2, (0 : Int)), (1, x7), (9, 0), (0, x9), (0, x10), (0, x11), (0, x12), (0, v28), (9, 0), (9, 0), (9, 0)] _
  refine el_aload dL_law_259 rfl (by decide) ?_
  refine el_iload dL_law_261 rfl ?_
  refine el_iconst dL_law_263 (by decide) ?_
  obtain ⟨v29, hc30, h⟩ := bind_of h
  refine el_invV (k := (0 : Int)) (av := [(0, x10), (0, (3 : Int))]) (st := []) (r2 := (some (0, v29.1), rho, v29.2)) dL_law_264 ml_L_55 mv_X10_candOf (T := TX10) (ci := 9) rfl sp0 (by decide) (by decide) rfl ⟨Nat.le_of_ble_eq_true rfl, Nat.le_of_ble_eq_true rfl⟩ (Nat.le_of_ble_eq_true rfl) (c_X10_candOf hc30) ⟨Nat.le_refl _, Nat.le_refl _⟩ ?_
  show El _ _ _ _ _ _ 267 (lm m n (v29.2, (v26.2, σ.2).2)) _ ((0, v29.1) :: [])
  refine el_iload dL_law_267 rfl ?_
  refine el_ishr dL_law_269 ?_
  show El _ _ _ _ _ _ 270 _ _ _
  refine el_iconst dL_law_270 (by decide) ?_
  refine el_iand dL_law_271 ?_
  refine el_istoreG dL_law_272 h rfl (Nat.le_of_ble_eq_true rfl) (fun v31 h => ?_)
  show El _ _ _ _ _ _ 274 _ [(3, (200000 : Int)), (3, (0 : Int)), (0, x2), (0, x3), (3, (1 : Int)), (3, (2 + (m : Int))), (2, (0 : Int)), (1, x7), (9, 0), (0, x9), (0, x10), (0, x11), (0, x12), (0, v28), (0, v31), (9, 0), (9, 0)] _
  refine el_aload dL_law_274 rfl (by decide) ?_
  refine el_iload dL_law_276 rfl ?_
  refine el_iload dL_law_278 rfl ?_
  refine el_iconst dL_law_280 (by decide) ?_
  refine el_iload dL_law_281 rfl ?_
  refine el_isub dL_law_283 ?_
  obtain ⟨v32, hc33, h⟩ := bind_of h
  refine el_invV (k := (0 : Int)) (av := [(0, x10), (0, x12), (0, (jsub (1 : Int) v31))]) (st := []) (r2 := (some (0, v32.1), rho, v32.2)) dL_law_284 ml_L_45 mv_X10_takes (T := TX10) (ci := 9) rfl sp0 (by decide) (by decide) rfl ⟨Nat.le_of_ble_eq_true rfl, Nat.le_of_ble_eq_true rfl⟩ (Nat.le_of_ble_eq_true rfl) (c_X10_takes hc33) ⟨Nat.le_refl _, Nat.le_refl _⟩ ?_
  show El _ _ _ _ _ _ 287 (lm m n (v32.2, (v29.2, (v26.2, σ.2).2).2)) _ ((0, v32.1) :: [])
  refine el_istoreG dL_law_287 h rfl (Nat.le_of_ble_eq_true rfl) (fun v34 h => ?_)
  show El _ _ _ _ _ _ 289 _ [(3, (200000 : Int)), (3, (0 : Int)), (0, x2), (0, x3), (3, (1 : Int)), (3, (2 + (m : Int))), (2, (0 : Int)), (1, x7), (9, 0), (0, x9), (0, x10), (0, x11), (0, x12), (0, v28), (0, v31), (0, v34), (9, 0)] _
  refine el_iload dL_law_289 rfl ?_
  show El _ _ _ _ _ _ 291 _ _ _
  refine el_if_ge (tgt := 298) dL_law_291 rfl h (fun cb h => ?_) (fun cb h => ?_)
  · refine el_iconst dL_law_298 (by decide) ?_
    exact el_sub (L2 := [(3, (200000 : Int)), (3, (0 : Int)), (0, x2), (0, x3), (3, (1 : Int)), (3, (2 + (m : Int))), (2, (0 : Int)), (1, x7), (9, 0), (0, x9), (0, x10), (0, x11), (0, x12), (0, v28), (9, 0), (0, v34), (9, 0)]) (e_L_law_299 m n N xs hmn hN (v32.2, (v29.2, (v26.2, σ.2).2).2) x2 x3 x7 x9 x10 x11 x12 v28 v34 (0 : Int) h K) ⟨.inr rfl, .inr rfl, .inr rfl, .inr rfl, .inr rfl, .inr rfl, .inr rfl, .inr rfl, .inl rfl, .inr rfl, .inr rfl, .inr rfl, .inr rfl, .inr rfl, .inl rfl, .inr rfl, .inl rfl, trivial⟩
  refine el_iconst dL_law_294 (by decide) ?_
  refine el_goto (tgt := 299) dL_law_295 rfl ?_
  exact el_sub (L2 := [(3, (200000 : Int)), (3, (0 : Int)), (0, x2), (0, x3), (3, (1 : Int)), (3, (2 + (m : Int))), (2, (0 : Int)), (1, x7), (9, 0), (0, x9), (0, x10), (0, x11), (0, x12), (0, v28), (9, 0), (0, v34), (9, 0)]) (e_L_law_299 m n N xs hmn hN (v32.2, (v29.2, (v26.2, σ.2).2).2) x2 x3 x7 x9 x10 x11 x12 v28 v34 (1 : Int) h K) ⟨.inr rfl, .inr rfl, .inr rfl, .inr rfl, .inr rfl, .inr rfl, .inr rfl, .inr rfl, .inl rfl, .inr rfl, .inr rfl, .inr rfl, .inr rfl, .inr rfl, .inl rfl, .inr rfl, .inl rfl, trivial⟩
set_option maxHeartbeats 4000000 in
set_option maxRecDepth 20000 in
theorem e_L_law_242 (m n N : Nat) (xs : Nat → Int32) (hmn : m ≤ 10 ∧ n ≤ 4) (hN : (N : Int) ≤ 2147483647) (σ : M2) (x2 x3 x7 x9 x10 x11 x12 : Int)  {q : ((Int × Int × M2) ⊕ ((M2) ⊕ (M2) ⊕ (M2) ⊕ (M2) ⊕ (M2) ⊕ (M2) ⊕ (Int × M2)))} (h : f_L_law_242 m n N xs σ x2 x3 x7 x9 x10 x11 x12 = some q) {r : Option V × LM} (K : K_L_law_140 m n N xs x2 x3 x7 r q) : El (xsh m n) (M_L_law N xs) (false, false) (0, 0) (181, nX m n) r 242 (lm m n σ) [(3, (200000 : Int)), (3, (0 : Int)), (0, x2), (0, x3), (3, (1 : Int)), (3, (2 + (m : Int))), (2, (0 : Int)), (1, x7), (9, 0), (0, x9), (0, x10), (0, x11), (0, x12), (9, 0), (9, 0), (9, 0), (9, 0)] [] := by
  unfold f_L_law_242 at h
  obtain ⟨e, hl, h⟩ := bind_of h
  refine loop_ev (K := K_L_law_242 m n N xs x2 x3 x7 x9 x10 x11 r) (b_L_law_242 m n N xs hmn hN x2 x3 x7 x9 x10 x11) FU (x12, σ) e hl ?_
  rcases e with e | e
  · show El (xsh m n) (M_L_law N xs) (false, false) (0, 0) (181, nX m n) r 348 (lm m n e) [(9, 0), (9, 0), (9, 0), (9, 0), (9, 0), (9, 0), (9, 0), (9, 0), (9, 0), (9, 0), (9, 0), (9, 0), (9, 0), (9, 0), (9, 0), (9, 0), (9, 0)] []
    replace h : some (.inr (.inr (.inl e))) = some q := h
    obtain rfl := Option.some.inj h
    exact el_sub (L2 := [(9, 0), (9, 0), (9, 0), (9, 0), (9, 0), (9, 0), (9, 0), (9, 0), (9, 0), (9, 0), (9, 0), (9, 0), (9, 0), (9, 0), (9, 0), (9, 0), (9, 0)]) K ⟨.inl rfl, .inl rfl, .inl rfl, .inl rfl, .inl rfl, .inl rfl, .inl rfl, .inl rfl, .inl rfl, .inl rfl, .inl rfl, .inl rfl, .inl rfl, .inl rfl, .inl rfl, .inl rfl, .inl rfl, trivial⟩
  rcases e with e | e
  · show El (xsh m n) (M_L_law N xs) (false, false) (0, 0) (181, nX m n) r 377 (lm m n e) [(9, 0), (9, 0), (9, 0), (9, 0), (9, 0), (9, 0), (9, 0), (9, 0), (9, 0), (9, 0), (9, 0), (9, 0), (9, 0), (9, 0), (9, 0), (9, 0), (9, 0)] []
    replace h : some (.inr (.inr (.inr (.inl e)))) = some q := h
    obtain rfl := Option.some.inj h
    exact el_sub (L2 := [(9, 0), (9, 0), (9, 0), (9, 0), (9, 0), (9, 0), (9, 0), (9, 0), (9, 0), (9, 0), (9, 0), (9, 0), (9, 0), (9, 0), (9, 0), (9, 0), (9, 0)]) K ⟨.inl rfl, .inl rfl, .inl rfl, .inl rfl, .inl rfl, .inl rfl, .inl rfl, .inl rfl, .inl rfl, .inl rfl, .inl rfl, .inl rfl, .inl rfl, .inl rfl, .inl rfl, .inl rfl, .inl rfl, trivial⟩
  · show El (xsh m n) (M_L_law N xs) (false, false) (0, 0) (181, nX m n) r 385 (lm m n e) [(3, (200000 : Int)), (3, (0 : Int)), (0, x2), (0, x3), (3, (1 : Int)), (3, (2 + (m : Int))), (2, (0 : Int)), (1, x7), (9, 0), (0, x9), (0, x10), (9, 0), (9, 0), (9, 0), (9, 0), (9, 0), (9, 0)] []
    replace h : f_L_law_385 m n N xs e x2 x3 x7 x9 x10 = some q := h
    exact el_sub (L2 := [(3, (200000 : Int)), (3, (0 : Int)), (0, x2), (0, x3), (3, (1 : Int)), (3, (2 + (m : Int))), (2, (0 : Int)), (1, x7), (9, 0), (0, x9), (0, x10), (9, 0), (9, 0), (9, 0), (9, 0), (9, 0), (9, 0)]) (e_L_law_385 m n N xs hmn hN e x2 x3 x7 x9 x10 h K) ⟨.inr rfl, .inr rfl, .inr rfl, .inr rfl, .inr rfl, .inr rfl, .inr rfl, .inr rfl, .inl rfl, .inr rfl, .inr rfl, .inl rfl, .inl rfl, .inl rfl, .inl rfl, .inl rfl, .inl rfl, trivial⟩
set_option maxHeartbeats 4000000 in
set_option maxRecDepth 20000 in
theorem e_L_law_232 (m n N : Nat) (xs : Nat → Int32) (hmn : m ≤ 10 ∧ n ≤ 4) (hN : (N : Int) ≤ 2147483647) (σ : M2) (x2 x3 x7 x9 x10 x11 : Int)  {q : ((Int × Int × M2) ⊕ ((M2) ⊕ (M2) ⊕ (M2) ⊕ (M2) ⊕ (M2) ⊕ (M2) ⊕ (Int × M2)))} (h : f_L_law_232 m n N xs σ x2 x3 x7 x9 x10 x11 = some q) {r : Option V × LM} (K : K_L_law_140 m n N xs x2 x3 x7 r q) : El (xsh m n) (M_L_law N xs) (false, false) (0, 0) (181, nX m n) r 232 (lm m n σ) [(3, (200000 : Int)), (3, (0 : Int)), (0, x2), (0, x3), (3, (1 : Int)), (3, (2 + (m : Int))), (2, (0 : Int)), (1, x7), (9, 0), (0, x9), (0, x10), (0, x11), (9, 0), (9, 0), (9, 0), (9, 0), (9, 0)] [] := by
  unfold f_L_law_232 at h
  refine el_iload dL_law_232 rfl ?_
  refine el_iload dL_law_234 rfl ?_
  refine el_iadd dL_law_236 ?_
  refine el_istoreG dL_law_237 h rfl (Nat.le_of_ble_eq_true rfl) (fun v25 h => ?_)
  show El _ _ _ _ _ _ 239 _ [(3, (200000 : Int)), (3, (0 : Int)), (0, x2), (0, x3), (3, (1 : Int)), (3, (2 + (m : Int))), (2, (0 : Int)), (1, x7), (9, 0), (0, v25), (0, x10), (0, x11), (9, 0), (9, 0), (9, 0), (9, 0), (9, 0)] _
  refine el_iconst dL_law_239 (by decide) ?_
  refine el_istore dL_law_240 rfl (Nat.le_of_ble_eq_true rfl) ?_
  show El _ _ _ _ _ _ 242 _ [(3, (200000 : Int)), (3, (0 : Int)), (0, x2), (0, x3), (3, (1 : Int)), (3, (2 + (m : Int))), (2, (0 : Int)), (1, x7), (9, 0), (0, v25), (0, x10), (0, x11), (0, (0 : Int)), (9, 0), (9, 0), (9, 0), (9, 0)] _
  exact el_sub (L2 := [(3, (200000 : Int)), (3, (0 : Int)), (0, x2), (0, x3), (3, (1 : Int)), (3, (2 + (m : Int))), (2, (0 : Int)), (1, x7), (9, 0), (0, v25), (0, x10), (0, x11), (0, (0 : Int)), (9, 0), (9, 0), (9, 0), (9, 0)]) (e_L_law_242 m n N xs hmn hN σ x2 x3 x7 v25 x10 x11 (0 : Int) h K) ⟨.inr rfl, .inr rfl, .inr rfl, .inr rfl, .inr rfl, .inr rfl, .inr rfl, .inr rfl, .inl rfl, .inr rfl, .inr rfl, .inr rfl, .inr rfl, .inl rfl, .inl rfl, .inl rfl, .inl rfl, trivial⟩
set_option maxHeartbeats 4000000 in
set_option maxRecDepth 20000 in
theorem b_L_law_152 (m n N : Nat) (xs : Nat → Int32) (hmn : m ≤ 10 ∧ n ≤ 4) (hN : (N : Int) ≤ 2147483647) (x2 x3 x7 x9 x10 : Int)  {r : Option V × LM} : ∀ a x, f_L_law_152B m n N xs x2 x3 x7 x9 x10 a = some x → K_L_law_152 m n N xs x2 x3 x7 x9 x10 r x → K_L_law_152 m n N xs x2 x3 x7 x9 x10 r (.inl a) := by
  intro a x h K
  obtain ⟨x11, x12, σ⟩ := a
  have h : f_L_law_152C m n N xs x2 x3 x7 x9 x10 x11 x12 σ = some x := h
  unfold f_L_law_152C at h
  show El (xsh m n) (M_L_law N xs) (false, false) (0, 0) (181, nX m n) r 152 (lm m n σ) [(3, (200000 : Int)), (3, (0 : Int)), (0, x2), (0, x3), (3, (1 : Int)), (3, (2 + (m : Int))), (2, (0 : Int)), (1, x7), (9, 0), (0, x9), (0, x10), (0, x11), (0, x12), (9, 0), (9, 0), (9, 0), (9, 0)] []
  refine el_iload dL_law_152 rfl ?_
  refine el_iconst dL_law_154 (by decide) ?_
  refine el_icmp_ge (tgt := 232) dL_law_155 rfl h (fun cb h => ?_) (fun cb h => ?_)
  · obtain rfl := Option.some.inj h
    exact el_sub (L2 := [(3, (200000 : Int)), (3, (0 : Int)), (0, x2), (0, x3), (3, (1 : Int)), (3, (2 + (m : Int))), (2, (0 : Int)), (1, x7), (9, 0), (0, x9), (0, x10), (0, x11), (9, 0), (9, 0), (9, 0), (9, 0), (9, 0)]) K ⟨.inr rfl, .inr rfl, .inr rfl, .inr rfl, .inr rfl, .inr rfl, .inr rfl, .inr rfl, .inl rfl, .inr rfl, .inr rfl, .inr rfl, .inl rfl, .inl rfl, .inl rfl, .inl rfl, .inl rfl, trivial⟩
  refine el_aload dL_law_158 rfl (by decide) ?_
  refine el_aloadS2 dL_law_160 rfl ?_
  refine el_aloadS2 dL_law_162 rfl ?_
  refine el_iload dL_law_164 rfl ?_
  have hw13 := (chk_of h).1
  refine el_xaald (v := (3 + (m : Int) + x10)) dL_law_166 xs_Q x0_Q xn_Q h eta_Q (fun h => ?_)
  refine el_iload dL_law_167 rfl ?_
  refine el_iload dL_law_169 rfl ?_
  obtain ⟨v14, hc15, h⟩ := bind_of h
  refine el_call (av := [(2, (0 : Int)), (3, (1 : Int)), (3, (3 + (m : Int) + x10)), (0, x10), (0, x12)]) (st := []) (z2 := (181, nX m n)) (r2 := (some (0, v14.1), lm m n v14.2)) dL_law_171 rfl ml_L_109 mt_L_isPlanned rfl ⟨Nat.le_of_ble_eq_true rfl, Nat.le_of_ble_eq_true rfl⟩ (Nat.le_of_ble_eq_true rfl) (c_L_isPlanned hmn hN (isQ_at hw13) hc15) ⟨Nat.le_refl _, Nat.le_refl _, Nat.le_refl _, Nat.le_refl _⟩ ⟨rfl, rfl⟩ (Or.inl rfl) (fun z => by cases z) ?_
  show El _ _ _ _ _ _ 174 (lm m n v14.2) _ ((0, v14.1) :: [])
  refine el_if_eq (tgt := 209) dL_law_174 rfl h (fun cb h => ?_) (fun cb h => ?_)
  · obtain rfl := Option.some.inj h
    exact el_sub (L2 := [(9, 0), (9, 0), (9, 0), (9, 0), (9, 0), (9, 0), (9, 0), (9, 0), (9, 0), (9, 0), (9, 0), (9, 0), (9, 0), (9, 0), (9, 0), (9, 0), (9, 0)]) K ⟨.inl rfl, .inl rfl, .inl rfl, .inl rfl, .inl rfl, .inl rfl, .inl rfl, .inl rfl, .inl rfl, .inl rfl, .inl rfl, .inl rfl, .inl rfl, .inl rfl, .inl rfl, .inl rfl, .inl rfl, trivial⟩
  refine el_aload dL_law_177 rfl (by decide) ?_
  refine el_iload dL_law_179 rfl ?_
  refine el_iload dL_law_181 rfl ?_
  refine el_iconst dL_law_183 (by decide) ?_
  obtain ⟨v16, hc17, h⟩ := bind_of h
  refine el_invV (k := (0 : Int)) (av := [(0, x10), (0, x12), (0, (0 : Int))]) (st := []) (r2 := (some (0, v16.1), rho, v16.2)) dL_law_184 ml_L_58 mv_X10_plan (T := TX10) (ci := 9) rfl sp0 (by decide) (by decide) rfl ⟨Nat.le_of_ble_eq_true rfl, Nat.le_of_ble_eq_true rfl⟩ (Nat.le_of_ble_eq_true rfl) (c_X10_plan hc17) ⟨Nat.le_refl _, Nat.le_refl _⟩ ?_
  show El _ _ _ _ _ _ 187 (lm m n (v16.2, v14.2.2)) _ ((0, v16.1) :: [])
  refine el_if_ne (tgt := 211) dL_law_187 rfl h (fun cb h => ?_) (fun cb h => ?_)
  · exact el_sub (L2 := [(3, (200000 : Int)), (3, (0 : Int)), (0, x2), (0, x3), (3, (1 : Int)), (3, (2 + (m : Int))), (2, (0 : Int)), (1, x7), (9, 0), (0, x9), (0, x10), (0, x11), (0, x12), (9, 0), (9, 0), (9, 0), (9, 0)]) (e_L_law_211 m n N xs hmn hN (v16.2, v14.2.2) x2 x3 x7 x9 x10 x11 x12 h K) ⟨.inr rfl, .inr rfl, .inr rfl, .inr rfl, .inr rfl, .inr rfl, .inr rfl, .inr rfl, .inl rfl, .inr rfl, .inr rfl, .inr rfl, .inr rfl, .inl rfl, .inl rfl, .inl rfl, .inl rfl, trivial⟩
  refine el_aload dL_law_190 rfl (by decide) ?_
  refine el_aloadS2 dL_law_192 rfl ?_
  refine el_aloadS2 dL_law_194 rfl ?_
  refine el_iload dL_law_196 rfl ?_
  have hw18 := (chk_of h).1
  refine el_xaald (v := (3 + (m : Int) + x10)) dL_law_198 xs_Q x0_Q xn_Q h eta_Q (fun h => ?_)
  refine el_iload dL_law_199 rfl ?_
  refine el_iload dL_law_201 rfl ?_
  obtain ⟨v19, hc20, h⟩ := bind_of h
  refine el_call (av := [(2, (0 : Int)), (3, (1 : Int)), (3, (3 + (m : Int) + x10)), (0, x10), (0, x12)]) (st := []) (z2 := (181, nX m n)) (r2 := (some (0, v19.1), lm m n v19.2)) dL_law_203 rfl ml_L_113 mt_L_isClash rfl ⟨Nat.le_of_ble_eq_true rfl, Nat.le_of_ble_eq_true rfl⟩ (Nat.le_of_ble_eq_true rfl) (c_L_isClash hmn hN (isQ_at hw18) hc20) ⟨Nat.le_refl _, Nat.le_refl _, Nat.le_refl _, Nat.le_refl _⟩ ⟨rfl, rfl⟩ (Or.inl rfl) (fun z => by cases z) ?_
  show El _ _ _ _ _ _ 206 (lm m n v19.2) _ ((0, v19.1) :: [])
  refine el_if_ne (tgt := 211) dL_law_206 rfl h (fun cb h => ?_) (fun cb h => ?_)
  · exact el_sub (L2 := [(3, (200000 : Int)), (3, (0 : Int)), (0, x2), (0, x3), (3, (1 : Int)), (3, (2 + (m : Int))), (2, (0 : Int)), (1, x7), (9, 0), (0, x9), (0, x10), (0, x11), (0, x12), (9, 0), (9, 0), (9, 0), (9, 0)]) (e_L_law_211 m n N xs hmn hN v19.2 x2 x3 x7 x9 x10 x11 x12 h K) ⟨.inr rfl, .inr rfl, .inr rfl, .inr rfl, .inr rfl, .inr rfl, .inr rfl, .inr rfl, .inl rfl, .inr rfl, .inr rfl, .inr rfl, .inr rfl, .inl rfl, .inl rfl, .inl rfl, .inl rfl, trivial⟩
  obtain rfl := Option.some.inj h
  exact el_sub (L2 := [(9, 0), (9, 0), (9, 0), (9, 0), (9, 0), (9, 0), (9, 0), (9, 0), (9, 0), (9, 0), (9, 0), (9, 0), (9, 0), (9, 0), (9, 0), (9, 0), (9, 0)]) K ⟨.inl rfl, .inl rfl, .inl rfl, .inl rfl, .inl rfl, .inl rfl, .inl rfl, .inl rfl, .inl rfl, .inl rfl, .inl rfl, .inl rfl, .inl rfl, .inl rfl, .inl rfl, .inl rfl, .inl rfl, trivial⟩
set_option maxHeartbeats 4000000 in
set_option maxRecDepth 20000 in
theorem e_L_law_152 (m n N : Nat) (xs : Nat → Int32) (hmn : m ≤ 10 ∧ n ≤ 4) (hN : (N : Int) ≤ 2147483647) (σ : M2) (x2 x3 x7 x9 x10 x11 x12 : Int)  {q : ((Int × Int × M2) ⊕ ((M2) ⊕ (M2) ⊕ (M2) ⊕ (M2) ⊕ (M2) ⊕ (M2) ⊕ (Int × M2)))} (h : f_L_law_152 m n N xs σ x2 x3 x7 x9 x10 x11 x12 = some q) {r : Option V × LM} (K : K_L_law_140 m n N xs x2 x3 x7 r q) : El (xsh m n) (M_L_law N xs) (false, false) (0, 0) (181, nX m n) r 152 (lm m n σ) [(3, (200000 : Int)), (3, (0 : Int)), (0, x2), (0, x3), (3, (1 : Int)), (3, (2 + (m : Int))), (2, (0 : Int)), (1, x7), (9, 0), (0, x9), (0, x10), (0, x11), (0, x12), (9, 0), (9, 0), (9, 0), (9, 0)] [] := by
  unfold f_L_law_152 at h
  obtain ⟨e, hl, h⟩ := bind_of h
  refine loop_ev (K := K_L_law_152 m n N xs x2 x3 x7 x9 x10 r) (b_L_law_152 m n N xs hmn hN x2 x3 x7 x9 x10) FU (x11, x12, σ) e hl ?_
  rcases e with e | e
  · show El (xsh m n) (M_L_law N xs) (false, false) (0, 0) (181, nX m n) r 209 (lm m n e) [(9, 0), (9, 0), (9, 0), (9, 0), (9, 0), (9, 0), (9, 0), (9, 0), (9, 0), (9, 0), (9, 0), (9, 0), (9, 0), (9, 0), (9, 0), (9, 0), (9, 0)] []
    replace h : some (.inr (.inl e)) = some q := h
    obtain rfl := Option.some.inj h
    exact el_sub (L2 := [(9, 0), (9, 0), (9, 0), (9, 0), (9, 0), (9, 0), (9, 0), (9, 0), (9, 0), (9, 0), (9, 0), (9, 0), (9, 0), (9, 0), (9, 0), (9, 0), (9, 0)]) K ⟨.inl rfl, .inl rfl, .inl rfl, .inl rfl, .inl rfl, .inl rfl, .inl rfl, .inl rfl, .inl rfl, .inl rfl, .inl rfl, .inl rfl, .inl rfl, .inl rfl, .inl rfl, .inl rfl, .inl rfl, trivial⟩
  · show El (xsh m n) (M_L_law N xs) (false, false) (0, 0) (181, nX m n) r 232 (lm m n e.2) [(3, (200000 : Int)), (3, (0 : Int)), (0, x2), (0, x3), (3, (1 : Int)), (3, (2 + (m : Int))), (2, (0 : Int)), (1, x7), (9, 0), (0, x9), (0, x10), (0, e.1), (9, 0), (9, 0), (9, 0), (9, 0), (9, 0)] []
    replace h : f_L_law_232 m n N xs e.2 x2 x3 x7 x9 x10 e.1 = some q := h
    exact el_sub (L2 := [(3, (200000 : Int)), (3, (0 : Int)), (0, x2), (0, x3), (3, (1 : Int)), (3, (2 + (m : Int))), (2, (0 : Int)), (1, x7), (9, 0), (0, x9), (0, x10), (0, e.1), (9, 0), (9, 0), (9, 0), (9, 0), (9, 0)]) (e_L_law_232 m n N xs hmn hN e.2 x2 x3 x7 x9 x10 e.1 h K) ⟨.inr rfl, .inr rfl, .inr rfl, .inr rfl, .inr rfl, .inr rfl, .inr rfl, .inr rfl, .inl rfl, .inr rfl, .inr rfl, .inr rfl, .inl rfl, .inl rfl, .inl rfl, .inl rfl, .inl rfl, trivial⟩
set_option maxHeartbeats 4000000 in
set_option maxRecDepth 20000 in
theorem e_L_law_692 (m n N : Nat) (xs : Nat → Int32) (hmn : m ≤ 10 ∧ n ≤ 4) (hN : (N : Int) ≤ 2147483647) (σ : M2) (x2 x7 x9 x10 x11 x12 x13 : Int)  {q : ((Int × M2) ⊕ ((M2) ⊕ (M2)))} (h : f_L_law_692 m n N xs σ x2 x7 x9 x10 x11 x12 x13 = some q) {r : Option V × LM} (K : K_L_law_604 m n N xs x2 x7 x9 x10 x11 x12 r q) : El (xsh m n) (M_L_law N xs) (false, false) (0, 0) (181, nX m n) r 692 (lm m n σ) [(3, (200000 : Int)), (3, (0 : Int)), (0, x2), (9, 0), (9, 0), (9, 0), (2, (0 : Int)), (1, x7), (9, 0), (0, x9), (0, x10), (0, x11), (0, x12), (0, x13), (9, 0), (9, 0), (9, 0)] [] := by
  unfold f_L_law_692 at h
  refine el_iincG dL_law_692 rfl h rfl (fun v91 h => ?_)
  show El _ _ _ _ _ _ 695 _ [(3, (200000 : Int)), (3, (0 : Int)), (0, x2), (9, 0), (9, 0), (9, 0), (2, (0 : Int)), (1, x7), (9, 0), (0, x9), (0, x10), (0, x11), (0, x12), (0, v91), (9, 0), (9, 0), (9, 0)] _
  refine el_goto (tgt := 604) dL_law_695 rfl ?_
  obtain rfl := Option.some.inj h
  exact el_sub (L2 := [(3, (200000 : Int)), (3, (0 : Int)), (0, x2), (9, 0), (9, 0), (9, 0), (2, (0 : Int)), (1, x7), (9, 0), (0, x9), (0, x10), (0, x11), (0, x12), (0, v91), (9, 0), (9, 0), (9, 0)]) K ⟨.inr rfl, .inr rfl, .inr rfl, .inl rfl, .inl rfl, .inl rfl, .inr rfl, .inr rfl, .inl rfl, .inr rfl, .inr rfl, .inr rfl, .inr rfl, .inr rfl, .inl rfl, .inl rfl, .inl rfl, trivial⟩
set_option maxHeartbeats 4000000 in
set_option maxRecDepth 20000 in
theorem e_L_law_698 (m n N : Nat) (xs : Nat → Int32) (hmn : m ≤ 10 ∧ n ≤ 4) (hN : (N : Int) ≤ 2147483647) (σ : M2) (x2 x7 x9 x10 x11 x12 : Int)  {q : ((Int × Int × M2) ⊕ ((M2) ⊕ (Int × M2)))} (h : f_L_law_698 m n N xs σ x2 x7 x9 x10 x11 x12 = some q) {r : Option V × LM} (K : K_L_law_581 m n N xs x2 x7 x9 x10 r q) : El (xsh m n) (M_L_law N xs) (false, false) (0, 0) (181, nX m n) r 698 (lm m n σ) [(3, (200000 : Int)), (3, (0 : Int)), (0, x2), (9, 0), (9, 0), (9, 0), (2, (0 : Int)), (1, x7), (9, 0), (0, x9), (0, x10), (0, x11), (0, x12), (9, 0), (9, 0), (9, 0), (9, 0)] [] := by
  unfold f_L_law_698 at h
  refine el_iincG dL_law_698 rfl h rfl (fun v92 h => ?_)
  show El _ _ _ _ _ _ 701 _ [(3, (200000 : Int)), (3, (0 : Int)), (0, x2), (9, 0), (9, 0), (9, 0), (2, (0 : Int)), (1, x7), (9, 0), (0, x9), (0, x10), (0, x11), (0, v92), (9, 0), (9, 0), (9, 0), (9, 0)] _
  refine el_goto (tgt := 581) dL_law_701 rfl ?_
  obtain rfl := Option.some.inj h
  exact el_sub (L2 := [(3, (200000 : Int)), (3, (0 : Int)), (0, x2), (9, 0), (9, 0), (9, 0), (2, (0 : Int)), (1, x7), (9, 0), (0, x9), (0, x10), (0, x11), (0, v92), (9, 0), (9, 0), (9, 0), (9, 0)]) K ⟨.inr rfl, .inr rfl, .inr rfl, .inl rfl, .inl rfl, .inl rfl, .inr rfl, .inr rfl, .inl rfl, .inr rfl, .inr rfl, .inr rfl, .inr rfl, .inl rfl, .inl rfl, .inl rfl, .inl rfl, trivial⟩
set_option maxHeartbeats 4000000 in
set_option maxRecDepth 20000 in
theorem b_L_law_604 (m n N : Nat) (xs : Nat → Int32) (hmn : m ≤ 10 ∧ n ≤ 4) (hN : (N : Int) ≤ 2147483647) (x2 x7 x9 x10 x11 x12 : Int)  {r : Option V × LM} : ∀ a x, f_L_law_604B m n N xs x2 x7 x9 x10 x11 x12 a = some x → K_L_law_604 m n N xs x2 x7 x9 x10 x11 x12 r x → K_L_law_604 m n N xs x2 x7 x9 x10 x11 x12 r (.inl a) := by
  intro a x h K
  obtain ⟨x13, σ⟩ := a
  have h : f_L_law_604C m n N xs x2 x7 x9 x10 x11 x12 x13 σ = some x := h
  unfold f_L_law_604C at h
  show El (xsh m n) (M_L_law N xs) (false, false) (0, 0) (181, nX m n) r 604 (lm m n σ) [(3, (200000 : Int)), (3, (0 : Int)), (0, x2), (9, 0), (9, 0), (9, 0), (2, (0 : Int)), (1, x7), (9, 0), (0, x9), (0, x10), (0, x11), (0, x12), (0, x13), (9, 0), (9, 0), (9, 0)] []
  refine el_iload dL_law_604 rfl ?_
  refine el_iload dL_law_606 rfl ?_
  refine el_icmp_ge (tgt := 698) dL_law_608 rfl h (fun cb h => ?_) (fun cb h => ?_)
  · obtain rfl := Option.some.inj h
    exact el_sub (L2 := [(3, (200000 : Int)), (3, (0 : Int)), (0, x2), (9, 0), (9, 0), (9, 0), (2, (0 : Int)), (1, x7), (9, 0), (0, x9), (0, x10), (0, x11), (0, x12), (9, 0), (9, 0), (9, 0), (9, 0)]) K ⟨.inr rfl, .inr rfl, .inr rfl, .inl rfl, .inl rfl, .inl rfl, .inr rfl, .inr rfl, .inl rfl, .inr rfl, .inr rfl, .inr rfl, .inr rfl, .inl rfl, .inl rfl, .inl rfl, .inl rfl, trivial⟩
  refine el_bipush dL_law_611 (by decide) (by decide) ?_
  refine el_aload dL_law_613 rfl (by decide) ?_
  refine el_iload dL_law_615 rfl ?_
  refine el_iconst dL_law_617 (by decide) ?_
  obtain ⟨v76, hc77, h⟩ := bind_of h
  refine el_invV (k := (0 : Int)) (av := [(0, x13), (0, (1 : Int))]) (st := [(0, (48 : Int))]) (r2 := (some (0, v76.1), rho, v76.2)) dL_law_618 ml_L_131 mv_X10_duty (T := TX10) (ci := 9) rfl sp0 (by decide) (by decide) rfl ⟨Nat.le_of_ble_eq_true rfl, Nat.le_of_ble_eq_true rfl⟩ (Nat.le_of_ble_eq_true rfl) (c_X10_duty hc77) ⟨Nat.le_refl _, Nat.le_refl _⟩ ?_
  show El _ _ _ _ _ _ 621 (lm m n (v76.2, σ.2)) _ ((0, v76.1) :: [(0, (48 : Int))])
  refine el_imul dL_law_621 ?_
  refine el_aload dL_law_622 rfl (by decide) ?_
  refine el_iload dL_law_624 rfl ?_
  refine el_iconst dL_law_626 (by decide) ?_
  obtain ⟨v78, hc79, h⟩ := bind_of h
  refine el_invV (k := (0 : Int)) (av := [(0, x13), (0, (2 : Int))]) (st := [(0, (jmul (48 : Int) v76.1))]) (r2 := (some (0, v78.1), rho, v78.2)) dL_law_627 ml_L_131 mv_X10_duty (T := TX10) (ci := 9) rfl sp0 (by decide) (by decide) rfl ⟨Nat.le_of_ble_eq_true rfl, Nat.le_of_ble_eq_true rfl⟩ (Nat.le_of_ble_eq_true rfl) (c_X10_duty hc79) ⟨Nat.le_refl _, Nat.le_refl _⟩ ?_
  show El _ _ _ _ _ _ 630 (lm m n (v78.2, (v76.2, σ.2).2)) _ ((0, v78.1) :: [(0, (jmul (48 : Int) v76.1))])
  refine el_iadd dL_law_630 ?_
  show El _ _ _ _ _ _ 631 _ _ _
  refine el_aload dL_law_631 rfl (by decide) ?_
  refine el_iload dL_law_633 rfl ?_
  refine el_iconst dL_law_635 (by decide) ?_
  obtain ⟨v80, hc81, h⟩ := bind_of h
  refine el_invV (k := (0 : Int)) (av := [(0, x13), (0, (3 : Int))]) (st := [(0, (jadd (jmul (48 : Int) v76.1) v78.1))]) (r2 := (some (0, v80.1), rho, v80.2)) dL_law_636 ml_L_131 mv_X10_duty (T := TX10) (ci := 9) rfl sp0 (by decide) (by decide) rfl ⟨Nat.le_of_ble_eq_true rfl, Nat.le_of_ble_eq_true rfl⟩ (Nat.le_of_ble_eq_true rfl) (c_X10_duty hc81) ⟨Nat.le_refl _, Nat.le_refl _⟩ ?_
  show El _ _ _ _ _ _ 639 (lm m n (v80.2, (v78.2, (v76.2, σ.2).2).2)) _ ((0, v80.1) :: [(0, (jadd (jmul (48 : Int) v76.1) v78.1))])
  refine el_iadd dL_law_639 ?_
  refine el_istoreG dL_law_640 h rfl (Nat.le_of_ble_eq_true rfl) (fun v82 h => ?_)
  show El _ _ _ _ _ _ 642 _ [(3, (200000 : Int)), (3, (0 : Int)), (0, x2), (9, 0), (9, 0), (9, 0), (2, (0 : Int)), (1, x7), (9, 0), (0, x9), (0, x10), (0, x11), (0, x12), (0, x13), (0, v82), (9, 0), (9, 0)] _
  refine el_aload dL_law_642 rfl (by decide) ?_
  refine el_iload dL_law_644 rfl ?_
  refine el_iconst dL_law_646 (by decide) ?_
  obtain ⟨v83, hc84, h⟩ := bind_of h
  refine el_invV (k := (0 : Int)) (av := [(0, x12), (0, (4 : Int))]) (st := []) (r2 := (some (0, v83.1), rho, v83.2)) dL_law_647 ml_L_131 mv_X10_duty (T := TX10) (ci := 9) rfl sp0 (by decide) (by decide) rfl ⟨Nat.le_of_ble_eq_true rfl, Nat.le_of_ble_eq_true rfl⟩ (Nat.le_of_ble_eq_true rfl) (c_X10_duty hc84) ⟨Nat.le_refl _, Nat.le_refl _⟩ ?_
  show El _ _ _ _ _ _ 650 (lm m n (v83.2, (v80.2, (v78.2, (v76.2, σ.2).2).2).2)) _ ((0, v83.1) :: [])
  refine el_aload dL_law_650 rfl (by decide) ?_
  refine el_iload dL_law_652 rfl ?_
  show El _ _ _ _ _ _ 654 _ _ _
  refine el_iconst dL_law_654 (by decide) ?_
  obtain ⟨v85, hc86, h⟩ := bind_of h
  refine el_invV (k := (0 : Int)) (av := [(0, x13), (0, (4 : Int))]) (st := [(0, v83.1)]) (r2 := (some (0, v85.1), rho, v85.2)) dL_law_655 ml_L_131 mv_X10_duty (T := TX10) (ci := 9) rfl sp0 (by decide) (by decide) rfl ⟨Nat.le_of_ble_eq_true rfl, Nat.le_of_ble_eq_true rfl⟩ (Nat.le_of_ble_eq_true rfl) (c_X10_duty hc86) ⟨Nat.le_refl _, Nat.le_refl _⟩ ?_
  show El _ _ _ _ _ _ 658 (lm m n (v85.2, (v83.2, (v80.2, (v78.2, (v76.2, σ.2).2).2).2).2)) _ ((0, v85.1) :: [(0, v83.1)])
  refine el_icmp_ne (tgt := 692) dL_law_658 rfl h (fun cb h => ?_) (fun cb h => ?_)
  · exact el_sub (L2 := [(3, (200000 : Int)), (3, (0 : Int)), (0, x2), (9, 0), (9, 0), (9, 0), (2, (0 : Int)), (1, x7), (9, 0), (0, x9), (0, x10), (0, x11), (0, x12), (0, x13), (9, 0), (9, 0), (9, 0)]) (e_L_law_692 m n N xs hmn hN (v85.2, (v83.2, (v80.2, (v78.2, (v76.2, σ.2).2).2).2).2) x2 x7 x9 x10 x11 x12 x13 h K) ⟨.inr rfl, .inr rfl, .inr rfl, .inl rfl, .inl rfl, .inl rfl, .inr rfl, .inr rfl, .inl rfl, .inr rfl, .inr rfl, .inr rfl, .inr rfl, .inr rfl, .inl rfl, .inl rfl, .inl rfl, trivial⟩
  refine el_bipush dL_law_661 (by decide) (by decide) ?_
  refine el_aload dL_law_663 rfl (by decide) ?_
  refine el_iload dL_law_665 rfl ?_
  refine el_iconst dL_law_667 (by decide) ?_
  obtain ⟨v87, hc88, h⟩ := bind_of h
  refine el_invV (k := (0 : Int)) (av := [(0, x12), (0, (1 : Int))]) (st := [(0, (48 : Int))]) (r2 := (some (0, v87.1), rho, v87.2)) dL_law_668 ml_L_131 mv_X10_duty (T := TX10) (ci := 9) rfl sp0 (by decide) (by decide) rfl ⟨Nat.le_of_ble_eq_true rfl, Nat.le_of_ble_eq_true rfl⟩ (Nat.le_of_ble_eq_true rfl) (c_X10_duty hc88) ⟨Nat.le_refl _, Nat.le_refl _⟩ ?_
  show El _ _ _ _ _ _ 671 (lm m n (v87.2, (v85.2, (v83.2, (v80.2, (v78.2, (v76.2, σ.2).2).2).2).2).2)) _ ((0, v87.1) :: [(0, (48 : Int))])
  refine el_imul dL_law_671 ?_
  refine el_aload dL_law_672 rfl (by decide) ?_
  refine el_iload dL_law_674 rfl ?_
  refine el_iconst dL_law_676 (by decide) ?_
  obtain ⟨v89, hc90, h⟩ := bind_of h
  refine el_invV (k := (0 : Int)) (av := [(0, x12), (0, (2 : Int))]) (st := [(0, (jmul (48 : Int) v87.1))]) (r2 := (some (0, v89.1), rho, v89.2)) dL_law_677 ml_L_131 mv_X10_duty (T := TX10) (ci := 9) rfl sp0 (by decide) (by decide) rfl ⟨Nat.le_of_ble_eq_true rfl, Nat.le_of_ble_eq_true rfl⟩ (Nat.le_of_ble_eq_true rfl) (c_X10_duty hc90) ⟨Nat.le_refl _, Nat.le_refl _⟩ ?_
  show El _ _ _ _ _ _ 680 (lm m n (v89.2, (v87.2, (v85.2, (v83.2, (v80.2, (v78.2, (v76.2, σ.2).2).2).2).2).2).2)) _ ((0, v89.1) :: [(0, (jmul (48 : Int) v87.1))])
  refine el_iadd dL_law_680 ?_
  show El _ _ _ _ _ _ 681 _ _ _
  refine el_iload dL_law_681 rfl ?_
  refine el_aloadS dL_law_683 rfl ?_
  refine el_iconst dL_law_684 (by decide) ?_
  refine el_xald dL_law_685 xs_g x0_g xn_g h (fun h => ?_)
  refine el_iadd dL_law_686 ?_
  refine el_icmp_ge (tgt := 692) dL_law_687 rfl h (fun cb h => ?_) (fun cb h => ?_)
  · exact el_sub (L2 := [(3, (200000 : Int)), (3, (0 : Int)), (0, x2), (9, 0), (9, 0), (9, 0), (2, (0 : Int)), (1, x7), (9, 0), (0, x9), (0, x10), (0, x11), (0, x12), (0, x13), (9, 0), (9, 0), (9, 0)]) (e_L_law_692 m n N xs hmn hN (v89.2, (v87.2, (v85.2, (v83.2, (v80.2, (v78.2, (v76.2, σ.2).2).2).2).2).2).2) x2 x7 x9 x10 x11 x12 x13 h K) ⟨.inr rfl, .inr rfl, .inr rfl, .inl rfl, .inl rfl, .inl rfl, .inr rfl, .inr rfl, .inl rfl, .inr rfl, .inr rfl, .inr rfl, .inr rfl, .inr rfl, .inl rfl, .inl rfl, .inl rfl, trivial⟩
  obtain rfl := Option.some.inj h
  exact el_sub (L2 := [(9, 0), (9, 0), (9, 0), (9, 0), (9, 0), (9, 0), (9, 0), (9, 0), (9, 0), (9, 0), (9, 0), (9, 0), (9, 0), (9, 0), (9, 0), (9, 0), (9, 0)]) K ⟨.inl rfl, .inl rfl, .inl rfl, .inl rfl, .inl rfl, .inl rfl, .inl rfl, .inl rfl, .inl rfl, .inl rfl, .inl rfl, .inl rfl, .inl rfl, .inl rfl, .inl rfl, .inl rfl, .inl rfl, trivial⟩
set_option maxHeartbeats 4000000 in
set_option maxRecDepth 20000 in
theorem e_L_law_604 (m n N : Nat) (xs : Nat → Int32) (hmn : m ≤ 10 ∧ n ≤ 4) (hN : (N : Int) ≤ 2147483647) (σ : M2) (x2 x7 x9 x10 x11 x12 x13 : Int)  {q : ((Int × Int × M2) ⊕ ((M2) ⊕ (Int × M2)))} (h : f_L_law_604 m n N xs σ x2 x7 x9 x10 x11 x12 x13 = some q) {r : Option V × LM} (K : K_L_law_581 m n N xs x2 x7 x9 x10 r q) : El (xsh m n) (M_L_law N xs) (false, false) (0, 0) (181, nX m n) r 604 (lm m n σ) [(3, (200000 : Int)), (3, (0 : Int)), (0, x2), (9, 0), (9, 0), (9, 0), (2, (0 : Int)), (1, x7), (9, 0), (0, x9), (0, x10), (0, x11), (0, x12), (0, x13), (9, 0), (9, 0), (9, 0)] [] := by
  unfold f_L_law_604 at h
  obtain ⟨e, hl, h⟩ := bind_of h
  refine loop_ev (K := K_L_law_604 m n N xs x2 x7 x9 x10 x11 x12 r) (b_L_law_604 m n N xs hmn hN x2 x7 x9 x10 x11 x12) FU (x13, σ) e hl ?_
  rcases e with e | e
  · show El (xsh m n) (M_L_law N xs) (false, false) (0, 0) (181, nX m n) r 690 (lm m n e) [(9, 0), (9, 0), (9, 0), (9, 0), (9, 0), (9, 0), (9, 0), (9, 0), (9, 0), (9, 0), (9, 0), (9, 0), (9, 0), (9, 0), (9, 0), (9, 0), (9, 0)] []
    replace h : some (.inr (.inl e)) = some q := h
    obtain rfl := Option.some.inj h
    exact el_sub (L2 := [(9, 0), (9, 0), (9, 0), (9, 0), (9, 0), (9, 0), (9, 0), (9, 0), (9, 0), (9, 0), (9, 0), (9, 0), (9, 0), (9, 0), (9, 0), (9, 0), (9, 0)]) K ⟨.inl rfl, .inl rfl, .inl rfl, .inl rfl, .inl rfl, .inl rfl, .inl rfl, .inl rfl, .inl rfl, .inl rfl, .inl rfl, .inl rfl, .inl rfl, .inl rfl, .inl rfl, .inl rfl, .inl rfl, trivial⟩
  · show El (xsh m n) (M_L_law N xs) (false, false) (0, 0) (181, nX m n) r 698 (lm m n e) [(3, (200000 : Int)), (3, (0 : Int)), (0, x2), (9, 0), (9, 0), (9, 0), (2, (0 : Int)), (1, x7), (9, 0), (0, x9), (0, x10), (0, x11), (0, x12), (9, 0), (9, 0), (9, 0), (9, 0)] []
    replace h : f_L_law_698 m n N xs e x2 x7 x9 x10 x11 x12 = some q := h
    exact el_sub (L2 := [(3, (200000 : Int)), (3, (0 : Int)), (0, x2), (9, 0), (9, 0), (9, 0), (2, (0 : Int)), (1, x7), (9, 0), (0, x9), (0, x10), (0, x11), (0, x12), (9, 0), (9, 0), (9, 0), (9, 0)]) (e_L_law_698 m n N xs hmn hN e x2 x7 x9 x10 x11 x12 h K) ⟨.inr rfl, .inr rfl, .inr rfl, .inl rfl, .inl rfl, .inl rfl, .inr rfl, .inr rfl, .inl rfl, .inr rfl, .inr rfl, .inr rfl, .inr rfl, .inl rfl, .inl rfl, .inl rfl, .inl rfl, trivial⟩
set_option maxHeartbeats 4000000 in
set_option maxRecDepth 20000 in
theorem e_L_law_809 (m n N : Nat) (xs : Nat → Int32) (hmn : m ≤ 10 ∧ n ≤ 4) (hN : (N : Int) ≤ 2147483647) (σ : M2) (x2 x7 x12 x13 x14 x16 s1 s0 : Int)  {q : ((Int × Int × M2) ⊕ ((Int × M2)))} (h : f_L_law_809 m n N xs σ x2 x7 x12 x13 x14 x16 s1 s0 = some q) {r : Option V × LM} (K : K_L_law_768 m n N xs x2 x7 x12 x13 x14 r q) : El (xsh m n) (M_L_law N xs) (false, false) (0, 0) (181, nX m n) r 809 (lm m n σ) [(3, (200000 : Int)), (9, 0), (0, x2), (9, 0), (9, 0), (9, 0), (2, (0 : Int)), (1, x7), (9, 0), (9, 0), (9, 0), (9, 0), (0, x12), (0, x13), (0, x14), (9, 0), (0, x16)] [(0, s1), (0, s0)] := by
  unfold f_L_law_809 at h
  refine el_iadd dL_law_809 ?_
  refine el_istoreG dL_law_810 h rfl (Nat.le_of_ble_eq_true rfl) (fun v106 h => ?_)
  show El _ _ _ _ _ _ 812 _ [(3, (200000 : Int)), (9, 0), (0, x2), (9, 0), (9, 0), (9, 0), (2, (0 : Int)), (1, x7), (9, 0), (9, 0), (9, 0), (9, 0), (0, x12), (0, x13), (0, x14), (0, v106), (0, x16)] _
  refine el_iincG dL_law_812 rfl h rfl (fun v107 h => ?_)
  show El _ _ _ _ _ _ 815 _ [(3, (200000 : Int)), (9, 0), (0, x2), (9, 0), (9, 0), (9, 0), (2, (0 : Int)), (1, x7), (9, 0), (9, 0), (9, 0), (9, 0), (0, x12), (0, x13), (0, x14), (0, v106), (0, v107)] _
  refine el_goto (tgt := 768) dL_law_815 rfl ?_
  obtain rfl := Option.some.inj h
  exact el_sub (L2 := [(3, (200000 : Int)), (9, 0), (0, x2), (9, 0), (9, 0), (9, 0), (2, (0 : Int)), (1, x7), (9, 0), (9, 0), (9, 0), (9, 0), (0, x12), (0, x13), (0, x14), (0, v106), (0, v107)]) K ⟨.inr rfl, .inl rfl, .inr rfl, .inl rfl, .inl rfl, .inl rfl, .inr rfl, .inr rfl, .inl rfl, .inl rfl, .inl rfl, .inl rfl, .inr rfl, .inr rfl, .inr rfl, .inr rfl, .inr rfl, trivial⟩
set_option maxHeartbeats 4000000 in
set_option maxRecDepth 20000 in
theorem e_L_law_848 (m n N : Nat) (xs : Nat → Int32) (hmn : m ≤ 10 ∧ n ≤ 4) (hN : (N : Int) ≤ 2147483647) (σ : M2) (x2 x7 x12 : Int)  {q : ((Int × M2) ⊕ ((M2) ⊕ (M2)))} (h : f_L_law_848 m n N xs σ x2 x7 x12 = some q) {r : Option V × LM} (K : K_L_law_731 m n N xs x2 x7 r q) : El (xsh m n) (M_L_law N xs) (false, false) (0, 0) (181, nX m n) r 848 (lm m n σ) [(3, (200000 : Int)), (9, 0), (0, x2), (9, 0), (9, 0), (9, 0), (2, (0 : Int)), (1, x7), (9, 0), (9, 0), (9, 0), (9, 0), (0, x12), (9, 0), (9, 0), (9, 0), (9, 0)] [] := by
  unfold f_L_law_848 at h
  refine el_iincG dL_law_848 rfl h rfl (fun v112 h => ?_)
  show El _ _ _ _ _ _ 851 _ [(3, (200000 : Int)), (9, 0), (0, x2), (9, 0), (9, 0), (9, 0), (2, (0 : Int)), (1, x7), (9, 0), (9, 0), (9, 0), (9, 0), (0, v112), (9, 0), (9, 0), (9, 0), (9, 0)] _
  refine el_goto (tgt := 731) dL_law_851 rfl ?_
  obtain rfl := Option.some.inj h
  exact el_sub (L2 := [(3, (200000 : Int)), (9, 0), (0, x2), (9, 0), (9, 0), (9, 0), (2, (0 : Int)), (1, x7), (9, 0), (9, 0), (9, 0), (9, 0), (0, v112), (9, 0), (9, 0), (9, 0), (9, 0)]) K ⟨.inr rfl, .inl rfl, .inr rfl, .inl rfl, .inl rfl, .inl rfl, .inr rfl, .inr rfl, .inl rfl, .inl rfl, .inl rfl, .inl rfl, .inr rfl, .inl rfl, .inl rfl, .inl rfl, .inl rfl, trivial⟩
set_option maxHeartbeats 4000000 in
set_option maxRecDepth 20000 in
theorem e_L_law_818 (m n N : Nat) (xs : Nat → Int32) (hmn : m ≤ 10 ∧ n ≤ 4) (hN : (N : Int) ≤ 2147483647) (σ : M2) (x2 x7 x12 x13 x15 : Int)  {q : ((Int × M2) ⊕ ((M2) ⊕ (M2)))} (h : f_L_law_818 m n N xs σ x2 x7 x12 x13 x15 = some q) {r : Option V × LM} (K : K_L_law_731 m n N xs x2 x7 r q) : El (xsh m n) (M_L_law N xs) (false, false) (0, 0) (181, nX m n) r 818 (lm m n σ) [(3, (200000 : Int)), (9, 0), (0, x2), (9, 0), (9, 0), (9, 0), (2, (0 : Int)), (1, x7), (9, 0), (9, 0), (9, 0), (9, 0), (0, x12), (0, x13), (9, 0), (0, x15), (9, 0)] [] := by
  unfold f_L_law_818 at h
  refine el_aload dL_law_818 rfl (by decide) ?_
  refine el_iload dL_law_820 rfl ?_
  refine el_iload dL_law_822 rfl ?_
  refine el_iconst dL_law_824 (by decide) ?_
  obtain ⟨v108, hc109, h⟩ := bind_of h
  refine el_invV (k := (0 : Int)) (av := [(0, x12), (0, x13), (0, (1 : Int))]) (st := []) (r2 := (some (0, v108.1), rho, v108.2)) dL_law_825 ml_L_134 mv_X10_pieces (T := TX10) (ci := 9) rfl sp0 (by decide) (by decide) rfl ⟨Nat.le_of_ble_eq_true rfl, Nat.le_of_ble_eq_true rfl⟩ (Nat.le_of_ble_eq_true rfl) (c_X10_pieces hc109) ⟨Nat.le_refl _, Nat.le_refl _⟩ ?_
  show El _ _ _ _ _ _ 828 (lm m n (v108.2, σ.2)) _ ((0, v108.1) :: [])
  refine el_if_lt (tgt := 848) dL_law_828 rfl h (fun cb h => ?_) (fun cb h => ?_)
  · exact el_sub (L2 := [(3, (200000 : Int)), (9, 0), (0, x2), (9, 0), (9, 0), (9, 0), (2, (0 : Int)), (1, x7), (9, 0), (9, 0), (9, 0), (9, 0), (0, x12), (9, 0), (9, 0), (9, 0), (9, 0)]) (e_L_law_848 m n N xs hmn hN (v108.2, σ.2) x2 x7 x12 h K) ⟨.inr rfl, .inl rfl, .inr rfl, .inl rfl, .inl rfl, .inl rfl, .inr rfl, .inr rfl, .inl rfl, .inl rfl, .inl rfl, .inl rfl, .inr rfl, .inl rfl, .inl rfl, .inl rfl, .inl rfl, trivial⟩
  refine el_aload dL_law_831 rfl (by decide) ?_
  refine el_iload dL_law_833 rfl ?_
  refine el_iload dL_law_835 rfl ?_
  refine el_iconst dL_law_837 (by decide) ?_
  obtain ⟨v110, hc111, h⟩ := bind_of h
  refine el_invV (k := (0 : Int)) (av := [(0, x12), (0, x13), (0, (1 : Int))]) (st := []) (r2 := (some (0, v110.1), rho, v110.2)) dL_law_838 ml_L_134 mv_X10_pieces (T := TX10) (ci := 9) rfl sp0 (by decide) (by decide) rfl ⟨Nat.le_of_ble_eq_true rfl, Nat.le_of_ble_eq_true rfl⟩ (Nat.le_of_ble_eq_true rfl) (c_X10_pieces hc111) ⟨Nat.le_refl _, Nat.le_refl _⟩ ?_
  show El _ _ _ _ _ _ 841 (lm m n (v110.2, (v108.2, σ.2).2)) _ ((0, v110.1) :: [])
  refine el_iload dL_law_841 rfl ?_
  refine el_icmp_eq (tgt := 848) dL_law_843 rfl h (fun cb h => ?_) (fun cb h => ?_)
  · exact el_sub (L2 := [(3, (200000 : Int)), (9, 0), (0, x2), (9, 0), (9, 0), (9, 0), (2, (0 : Int)), (1, x7), (9, 0), (9, 0), (9, 0), (9, 0), (0, x12), (9, 0), (9, 0), (9, 0), (9, 0)]) (e_L_law_848 m n N xs hmn hN (v110.2, (v108.2, σ.2).2) x2 x7 x12 h K) ⟨.inr rfl, .inl rfl, .inr rfl, .inl rfl, .inl rfl, .inl rfl, .inr rfl, .inr rfl, .inl rfl, .inl rfl, .inl rfl, .inl rfl, .inr rfl, .inl rfl, .inl rfl, .inl rfl, .inl rfl, trivial⟩
  obtain rfl := Option.some.inj h
  exact el_sub (L2 := [(9, 0), (9, 0), (9, 0), (9, 0), (9, 0), (9, 0), (9, 0), (9, 0), (9, 0), (9, 0), (9, 0), (9, 0), (9, 0), (9, 0), (9, 0), (9, 0), (9, 0)]) K ⟨.inl rfl, .inl rfl, .inl rfl, .inl rfl, .inl rfl, .inl rfl, .inl rfl, .inl rfl, .inl rfl, .inl rfl, .inl rfl, .inl rfl, .inl rfl, .inl rfl, .inl rfl, .inl rfl, .inl rfl, trivial⟩
set_option maxHeartbeats 4000000 in
set_option maxRecDepth 20000 in
theorem b_L_law_768 (m n N : Nat) (xs : Nat → Int32) (hmn : m ≤ 10 ∧ n ≤ 4) (hN : (N : Int) ≤ 2147483647) (x2 x7 x12 x13 x14 : Int)  {r : Option V × LM} : ∀ a x, f_L_law_768B m n N xs x2 x7 x12 x13 x14 a = some x → K_L_law_768 m n N xs x2 x7 x12 x13 x14 r x → K_L_law_768 m n N xs x2 x7 x12 x13 x14 r (.inl a) := by
  intro a x h K
  obtain ⟨x15, x16, σ⟩ := a
  have h : f_L_law_768C m n N xs x2 x7 x12 x13 x14 x15 x16 σ = some x := h
  unfold f_L_law_768C at h
  show El (xsh m n) (M_L_law N xs) (false, false) (0, 0) (181, nX m n) r 768 (lm m n σ) [(3, (200000 : Int)), (9, 0), (0, x2), (9, 0), (9, 0), (9, 0), (2, (0 : Int)), (1, x7), (9, 0), (9, 0), (9, 0), (9, 0), (0, x12), (0, x13), (0, x14), (0, x15), (0, x16)] []
  refine el_iload dL_law_768 rfl ?_
  refine el_iload dL_law_770 rfl ?_
  refine el_icmp_ge (tgt := 818) dL_law_772 rfl h (fun cb h => ?_) (fun cb h => ?_)
  · obtain rfl := Option.some.inj h
    exact el_sub (L2 := [(3, (200000 : Int)), (9, 0), (0, x2), (9, 0), (9, 0), (9, 0), (2, (0 : Int)), (1, x7), (9, 0), (9, 0), (9, 0), (9, 0), (0, x12), (0, x13), (9, 0), (0, x15), (9, 0)]) K ⟨.inr rfl, .inl rfl, .inr rfl, .inl rfl, .inl rfl, .inl rfl, .inr rfl, .inr rfl, .inl rfl, .inl rfl, .inl rfl, .inl rfl, .inr rfl, .inr rfl, .inl rfl, .inr rfl, .inl rfl, trivial⟩
  refine el_iload dL_law_775 rfl ?_
  refine el_aload dL_law_777 rfl (by decide) ?_
  refine el_iload dL_law_779 rfl ?_
  refine el_iload dL_law_781 rfl ?_
  refine el_iload dL_law_783 rfl ?_
  obtain ⟨v102, hc103, h⟩ := bind_of h
  refine el_invV (k := (0 : Int)) (av := [(0, x12), (0, x13), (0, x16)]) (st := [(0, x15)]) (r2 := (some (0, v102.1), rho, v102.2)) dL_law_785 ml_L_137 mv_X10_roomOf (T := TX10) (ci := 9) rfl sp0 (by decide) (by decide) rfl ⟨Nat.le_of_ble_eq_true rfl, Nat.le_of_ble_eq_true rfl⟩ (Nat.le_of_ble_eq_true rfl) (c_X10_roomOf hc103) ⟨Nat.le_refl _, Nat.le_refl _⟩ ?_
  show El _ _ _ _ _ _ 788 (lm m n (v102.2, σ.2)) _ ((0, v102.1) :: [(0, x15)])
  refine el_aload dL_law_788 rfl (by decide) ?_
  refine el_iload dL_law_790 rfl ?_
  refine el_iload dL_law_792 rfl ?_
  refine el_iload dL_law_794 rfl ?_
  refine el_iconst dL_law_796 (by decide) ?_
  show El _ _ _ _ _ _ 797 _ _ _
  refine el_isub dL_law_797 ?_
  obtain ⟨v104, hc105, h⟩ := bind_of h
  refine el_invV (k := (0 : Int)) (av := [(0, x12), (0, x13), (0, (jsub x16 (1 : Int)))]) (st := [(0, v102.1), (0, x15)]) (r2 := (some (0, v104.1), rho, v104.2)) dL_law_798 ml_L_137 mv_X10_roomOf (T := TX10) (ci := 9) rfl sp0 (by decide) (by decide) rfl ⟨Nat.le_of_ble_eq_true rfl, Nat.le_of_ble_eq_true rfl⟩ (Nat.le_of_ble_eq_true rfl) (c_X10_roomOf hc105) ⟨Nat.le_refl _, Nat.le_refl _⟩ ?_
  show El _ _ _ _ _ _ 801 (lm m n (v104.2, (v102.2, σ.2).2)) _ ((0, v104.1) :: [(0, v102.1), (0, x15)])
  refine el_icmp_eq (tgt := 808) dL_law_801 rfl h (fun cb h => ?_) (fun cb h => ?_)
  · refine el_iconst dL_law_808 (by decide) ?_
    exact el_sub (L2 := [(3, (200000 : Int)), (9, 0), (0, x2), (9, 0), (9, 0), (9, 0), (2, (0 : Int)), (1, x7), (9, 0), (9, 0), (9, 0), (9, 0), (0, x12), (0, x13), (0, x14), (9, 0), (0, x16)]) (e_L_law_809 m n N xs hmn hN (v104.2, (v102.2, σ.2).2) x2 x7 x12 x13 x14 x16 (0 : Int) x15 h K) ⟨.inr rfl, .inl rfl, .inr rfl, .inl rfl, .inl rfl, .inl rfl, .inr rfl, .inr rfl, .inl rfl, .inl rfl, .inl rfl, .inl rfl, .inr rfl, .inr rfl, .inr rfl, .inl rfl, .inr rfl, trivial⟩
  refine el_iconst dL_law_804 (by decide) ?_
  refine el_goto (tgt := 809) dL_law_805 rfl ?_
  exact el_sub (L2 := [(3, (200000 : Int)), (9, 0), (0, x2), (9, 0), (9, 0), (9, 0), (2, (0 : Int)), (1, x7), (9, 0), (9, 0), (9, 0), (9, 0), (0, x12), (0, x13), (0, x14), (9, 0), (0, x16)]) (e_L_law_809 m n N xs hmn hN (v104.2, (v102.2, σ.2).2) x2 x7 x12 x13 x14 x16 (1 : Int) x15 h K) ⟨.inr rfl, .inl rfl, .inr rfl, .inl rfl, .inl rfl, .inl rfl, .inr rfl, .inr rfl, .inl rfl, .inl rfl, .inl rfl, .inl rfl, .inr rfl, .inr rfl, .inr rfl, .inl rfl, .inr rfl, trivial⟩
set_option maxHeartbeats 4000000 in
set_option maxRecDepth 20000 in
theorem e_L_law_768 (m n N : Nat) (xs : Nat → Int32) (hmn : m ≤ 10 ∧ n ≤ 4) (hN : (N : Int) ≤ 2147483647) (σ : M2) (x2 x7 x12 x13 x14 x15 x16 : Int)  {q : ((Int × M2) ⊕ ((M2) ⊕ (M2)))} (h : f_L_law_768 m n N xs σ x2 x7 x12 x13 x14 x15 x16 = some q) {r : Option V × LM} (K : K_L_law_731 m n N xs x2 x7 r q) : El (xsh m n) (M_L_law N xs) (false, false) (0, 0) (181, nX m n) r 768 (lm m n σ) [(3, (200000 : Int)), (9, 0), (0, x2), (9, 0), (9, 0), (9, 0), (2, (0 : Int)), (1, x7), (9, 0), (9, 0), (9, 0), (9, 0), (0, x12), (0, x13), (0, x14), (0, x15), (0, x16)] [] := by
  unfold f_L_law_768 at h
  obtain ⟨e, hl, h⟩ := bind_of h
  refine loop_ev (K := K_L_law_768 m n N xs x2 x7 x12 x13 x14 r) (b_L_law_768 m n N xs hmn hN x2 x7 x12 x13 x14) FU (x15, x16, σ) e hl ?_
  show El (xsh m n) (M_L_law N xs) (false, false) (0, 0) (181, nX m n) r 818 (lm m n e.2) [(3, (200000 : Int)), (9, 0), (0, x2), (9, 0), (9, 0), (9, 0), (2, (0 : Int)), (1, x7), (9, 0), (9, 0), (9, 0), (9, 0), (0, x12), (0, x13), (9, 0), (0, e.1), (9, 0)] []
  replace h : f_L_law_818 m n N xs e.2 x2 x7 x12 x13 e.1 = some q := h
  exact el_sub (L2 := [(3, (200000 : Int)), (9, 0), (0, x2), (9, 0), (9, 0), (9, 0), (2, (0 : Int)), (1, x7), (9, 0), (9, 0), (9, 0), (9, 0), (0, x12), (0, x13), (9, 0), (0, e.1), (9, 0)]) (e_L_law_818 m n N xs hmn hN e.2 x2 x7 x12 x13 e.1 h K) ⟨.inr rfl, .inl rfl, .inr rfl, .inl rfl, .inl rfl, .inl rfl, .inr rfl, .inr rfl, .inl rfl, .inl rfl, .inl rfl, .inl rfl, .inr rfl, .inr rfl, .inl rfl, .inr rfl, .inl rfl, trivial⟩
set_option maxHeartbeats 4000000 in
set_option maxRecDepth 20000 in
theorem e_L_law_894 (m n N : Nat) (xs : Nat → Int32) (hmn : m ≤ 10 ∧ n ≤ 4) (hN : (N : Int) ≤ 2147483647) (σ : M2) (x7 x12 : Int)  {q : ((Int × M2) ⊕ ((M2) ⊕ (M2)))} (h : f_L_law_894 m n N xs σ x7 x12 = some q) {r : Option V × LM} (K : K_L_law_857 m n N xs x7 r q) : El (xsh m n) (M_L_law N xs) (false, false) (0, 0) (181, nX m n) r 894 (lm m n σ) [(9, 0), (9, 0), (9, 0), (9, 0), (9, 0), (9, 0), (2, (0 : Int)), (1, x7), (9, 0), (9, 0), (9, 0), (9, 0), (0, x12), (9, 0), (9, 0), (9, 0), (9, 0)] [] := by
  unfold f_L_law_894 at h
  refine el_iincG dL_law_894 rfl h rfl (fun v116 h => ?_)
  show El _ _ _ _ _ _ 897 _ [(9, 0), (9, 0), (9, 0), (9, 0), (9, 0), (9, 0), (2, (0 : Int)), (1, x7), (9, 0), (9, 0), (9, 0), (9, 0), (0, v116), (9, 0), (9, 0), (9, 0), (9, 0)] _
  refine el_goto (tgt := 857) dL_law_897 rfl ?_
  obtain rfl := Option.some.inj h
  exact el_sub (L2 := [(9, 0), (9, 0), (9, 0), (9, 0), (9, 0), (9, 0), (2, (0 : Int)), (1, x7), (9, 0), (9, 0), (9, 0), (9, 0), (0, v116), (9, 0), (9, 0), (9, 0), (9, 0)]) K ⟨.inl rfl, .inl rfl, .inl rfl, .inl rfl, .inl rfl, .inl rfl, .inr rfl, .inr rfl, .inl rfl, .inl rfl, .inl rfl, .inl rfl, .inr rfl, .inl rfl, .inl rfl, .inl rfl, .inl rfl, trivial⟩
set_option maxHeartbeats 4000000 in
set_option maxRecDepth 20000 in
theorem b_L_law_867 (m n N : Nat) (xs : Nat → Int32) (hmn : m ≤ 10 ∧ n ≤ 4) (hN : (N : Int) ≤ 2147483647) (x7 x12 : Int)  {r : Option V × LM} : ∀ a x, f_L_law_867B m n N xs x7 x12 a = some x → K_L_law_867 m n N xs x7 x12 r x → K_L_law_867 m n N xs x7 x12 r (.inl a) := by
  intro a x h K
  obtain ⟨x13, σ⟩ := a
  have h : f_L_law_867C m n N xs x7 x12 x13 σ = some x := h
  unfold f_L_law_867C at h
  show El (xsh m n) (M_L_law N xs) (false, false) (0, 0) (181, nX m n) r 867 (lm m n σ) [(9, 0), (9, 0), (9, 0), (9, 0), (9, 0), (9, 0), (2, (0 : Int)), (1, x7), (9, 0), (9, 0), (9, 0), (9, 0), (0, x12), (0, x13), (9, 0), (9, 0), (9, 0)] []
  refine el_iload dL_law_867 rfl ?_
  refine el_iconst dL_law_869 (by decide) ?_
  refine el_icmp_ge (tgt := 894) dL_law_870 rfl h (fun cb h => ?_) (fun cb h => ?_)
  · obtain rfl := Option.some.inj h
    exact el_sub (L2 := [(9, 0), (9, 0), (9, 0), (9, 0), (9, 0), (9, 0), (2, (0 : Int)), (1, x7), (9, 0), (9, 0), (9, 0), (9, 0), (0, x12), (9, 0), (9, 0), (9, 0), (9, 0)]) K ⟨.inl rfl, .inl rfl, .inl rfl, .inl rfl, .inl rfl, .inl rfl, .inr rfl, .inr rfl, .inl rfl, .inl rfl, .inl rfl, .inl rfl, .inr rfl, .inl rfl, .inl rfl, .inl rfl, .inl rfl, trivial⟩
  refine el_aload dL_law_873 rfl (by decide) ?_
  refine el_iload dL_law_875 rfl ?_
  refine el_iconst dL_law_877 (by decide) ?_
  refine el_iload dL_law_878 rfl ?_
  obtain ⟨v113, hc114, h⟩ := bind_of h
  refine el_invV (k := (0 : Int)) (av := [(0, x13), (0, (0 : Int)), (0, x12)]) (st := []) (r2 := (some (0, v113.1), rho, v113.2)) dL_law_880 ml_L_140 mv_X10_left (T := TX10) (ci := 9) rfl sp0 (by decide) (by decide) rfl ⟨Nat.le_of_ble_eq_true rfl, Nat.le_of_ble_eq_true rfl⟩ (Nat.le_of_ble_eq_true rfl) (c_X10_left hc114) ⟨Nat.le_refl _, Nat.le_refl _⟩ ?_
  show El _ _ _ _ _ _ 883 (lm m n (v113.2, σ.2)) _ ((0, v113.1) :: [])
  refine el_if_ge (tgt := 888) dL_law_883 rfl h (fun cb h => ?_) (fun cb h => ?_)
  · refine el_iincG dL_law_888 rfl h rfl (fun v115 h => ?_)
    show El _ _ _ _ _ _ 891 _ [(9, 0), (9, 0), (9, 0), (9, 0), (9, 0), (9, 0), (2, (0 : Int)), (1, x7), (9, 0), (9, 0), (9, 0), (9, 0), (0, x12), (0, v115), (9, 0), (9, 0), (9, 0)] _
    refine el_goto (tgt := 867) dL_law_891 rfl ?_
    obtain rfl := Option.some.inj h
    exact el_sub (L2 := [(9, 0), (9, 0), (9, 0), (9, 0), (9, 0), (9, 0), (2, (0 : Int)), (1, x7), (9, 0), (9, 0), (9, 0), (9, 0), (0, x12), (0, v115), (9, 0), (9, 0), (9, 0)]) K ⟨.inl rfl, .inl rfl, .inl rfl, .inl rfl, .inl rfl, .inl rfl, .inr rfl, .inr rfl, .inl rfl, .inl rfl, .inl rfl, .inl rfl, .inr rfl, .inr rfl, .inl rfl, .inl rfl, .inl rfl, trivial⟩
  obtain rfl := Option.some.inj h
  exact el_sub (L2 := [(9, 0), (9, 0), (9, 0), (9, 0), (9, 0), (9, 0), (9, 0), (9, 0), (9, 0), (9, 0), (9, 0), (9, 0), (9, 0), (9, 0), (9, 0), (9, 0), (9, 0)]) K ⟨.inl rfl, .inl rfl, .inl rfl, .inl rfl, .inl rfl, .inl rfl, .inl rfl, .inl rfl, .inl rfl, .inl rfl, .inl rfl, .inl rfl, .inl rfl, .inl rfl, .inl rfl, .inl rfl, .inl rfl, trivial⟩
set_option maxHeartbeats 4000000 in
set_option maxRecDepth 20000 in
theorem e_L_law_867 (m n N : Nat) (xs : Nat → Int32) (hmn : m ≤ 10 ∧ n ≤ 4) (hN : (N : Int) ≤ 2147483647) (σ : M2) (x7 x12 x13 : Int)  {q : ((Int × M2) ⊕ ((M2) ⊕ (M2)))} (h : f_L_law_867 m n N xs σ x7 x12 x13 = some q) {r : Option V × LM} (K : K_L_law_857 m n N xs x7 r q) : El (xsh m n) (M_L_law N xs) (false, false) (0, 0) (181, nX m n) r 867 (lm m n σ) [(9, 0), (9, 0), (9, 0), (9, 0), (9, 0), (9, 0), (2, (0 : Int)), (1, x7), (9, 0), (9, 0), (9, 0), (9, 0), (0, x12), (0, x13), (9, 0), (9, 0), (9, 0)] [] := by
  unfold f_L_law_867 at h
  obtain ⟨e, hl, h⟩ := bind_of h
  refine loop_ev (K := K_L_law_867 m n N xs x7 x12 r) (b_L_law_867 m n N xs hmn hN x7 x12) FU (x13, σ) e hl ?_
  rcases e with e | e
  · show El (xsh m n) (M_L_law N xs) (false, false) (0, 0) (181, nX m n) r 886 (lm m n e) [(9, 0), (9, 0), (9, 0), (9, 0), (9, 0), (9, 0), (9, 0), (9, 0), (9, 0), (9, 0), (9, 0), (9, 0), (9, 0), (9, 0), (9, 0), (9, 0), (9, 0)] []
    replace h : some (.inr (.inl e)) = some q := h
    obtain rfl := Option.some.inj h
    exact el_sub (L2 := [(9, 0), (9, 0), (9, 0), (9, 0), (9, 0), (9, 0), (9, 0), (9, 0), (9, 0), (9, 0), (9, 0), (9, 0), (9, 0), (9, 0), (9, 0), (9, 0), (9, 0)]) K ⟨.inl rfl, .inl rfl, .inl rfl, .inl rfl, .inl rfl, .inl rfl, .inl rfl, .inl rfl, .inl rfl, .inl rfl, .inl rfl, .inl rfl, .inl rfl, .inl rfl, .inl rfl, .inl rfl, .inl rfl, trivial⟩
  · show El (xsh m n) (M_L_law N xs) (false, false) (0, 0) (181, nX m n) r 894 (lm m n e) [(9, 0), (9, 0), (9, 0), (9, 0), (9, 0), (9, 0), (2, (0 : Int)), (1, x7), (9, 0), (9, 0), (9, 0), (9, 0), (0, x12), (9, 0), (9, 0), (9, 0), (9, 0)] []
    replace h : f_L_law_894 m n N xs e x7 x12 = some q := h
    exact el_sub (L2 := [(9, 0), (9, 0), (9, 0), (9, 0), (9, 0), (9, 0), (2, (0 : Int)), (1, x7), (9, 0), (9, 0), (9, 0), (9, 0), (0, x12), (9, 0), (9, 0), (9, 0), (9, 0)]) (e_L_law_894 m n N xs hmn hN e x7 x12 h K) ⟨.inl rfl, .inl rfl, .inl rfl, .inl rfl, .inl rfl, .inl rfl, .inr rfl, .inr rfl, .inl rfl, .inl rfl, .inl rfl, .inl rfl, .inr rfl, .inl rfl, .inl rfl, .inl rfl, .inl rfl, trivial⟩
set_option maxHeartbeats 4000000 in
set_option maxRecDepth 20000 in
theorem e_L_law_900 (m n N : Nat) (xs : Nat → Int32) (hmn : m ≤ 10 ∧ n ≤ 4) (hN : (N : Int) ≤ 2147483647) (σ : M2) (x7 : Int)  {q : (Int × M2)} (h : f_L_law_900 m n N xs σ x7 = some q) : El (xsh m n) (M_L_law N xs) (false, false) (0, 0) (181, nX m n) (some (0, q.1), lm m n q.2) 900 (lm m n σ) [(9, 0), (9, 0), (9, 0), (9, 0), (9, 0), (9, 0), (2, (0 : Int)), (1, x7), (9, 0), (9, 0), (9, 0), (9, 0), (9, 0), (9, 0), (9, 0), (9, 0), (9, 0)] [] := by
  unfold f_L_law_900 at h
  refine el_aload dL_law_900 rfl (by decide) ?_
  obtain ⟨v117, hc118, h⟩ := bind_of h
  refine el_call (av := [(2, (0 : Int))]) (st := []) (z2 := (181, nX m n)) (r2 := (some (1, v117.1), lm m n v117.2)) dL_law_902 rfl ml_L_102 mt_L_looks rfl ⟨Nat.le_of_ble_eq_true rfl, Nat.le_of_ble_eq_true rfl⟩ (Nat.le_of_ble_eq_true rfl) (c_L_looks hmn hN  hc118) ⟨Nat.le_refl _, Nat.le_refl _, Nat.le_refl _, Nat.le_refl _⟩ ⟨rfl, rfl⟩ (Or.inl rfl) (fun z => by cases z) ?_
  show El _ _ _ _ _ _ 905 (lm m n v117.2) _ ((1, v117.1) :: [])
  refine el_lload dL_law_905 rfl ?_
  refine el_lc_ne (tgt := 915) dL_law_907 dL_law_908 rfl h (fun cb h => ?_) (fun cb h => ?_)
  · refine el_iconst dL_law_915 (by decide) ?_
    obtain rfl := Option.some.inj h
    exact el_zret dL_law_916 rfl (fun z => by cases z) ⟨rfl, rfl⟩ (chk_pos (.inl rfl))
  refine el_iconst dL_law_911 (by decide) ?_
  refine el_goto (tgt := 916) dL_law_912 rfl ?_
  obtain rfl := Option.some.inj h
  exact el_zret dL_law_916 rfl (fun z => by cases z) ⟨rfl, rfl⟩ (chk_pos (.inr rfl))
set_option maxHeartbeats 4000000 in
set_option maxRecDepth 20000 in
theorem b_L_law_857 (m n N : Nat) (xs : Nat → Int32) (hmn : m ≤ 10 ∧ n ≤ 4) (hN : (N : Int) ≤ 2147483647) (x7 : Int)  {r : Option V × LM} : ∀ a x, f_L_law_857B m n N xs x7 a = some x → K_L_law_857 m n N xs x7 r x → K_L_law_857 m n N xs x7 r (.inl a) := by
  intro a x h K
  obtain ⟨x12, σ⟩ := a
  have h : f_L_law_857C m n N xs x7 x12 σ = some x := h
  unfold f_L_law_857C at h
  show El (xsh m n) (M_L_law N xs) (false, false) (0, 0) (181, nX m n) r 857 (lm m n σ) [(9, 0), (9, 0), (9, 0), (9, 0), (9, 0), (9, 0), (2, (0 : Int)), (1, x7), (9, 0), (9, 0), (9, 0), (9, 0), (0, x12), (9, 0), (9, 0), (9, 0), (9, 0)] []
  refine el_iload dL_law_857 rfl ?_
  refine el_bipush dL_law_859 (by decide) (by decide) ?_
  refine el_icmp_ge (tgt := 900) dL_law_861 rfl h (fun cb h => ?_) (fun cb h => ?_)
  · obtain rfl := Option.some.inj h
    exact el_sub (L2 := [(9, 0), (9, 0), (9, 0), (9, 0), (9, 0), (9, 0), (2, (0 : Int)), (1, x7), (9, 0), (9, 0), (9, 0), (9, 0), (9, 0), (9, 0), (9, 0), (9, 0), (9, 0)]) K ⟨.inl rfl, .inl rfl, .inl rfl, .inl rfl, .inl rfl, .inl rfl, .inr rfl, .inr rfl, .inl rfl, .inl rfl, .inl rfl, .inl rfl, .inl rfl, .inl rfl, .inl rfl, .inl rfl, .inl rfl, trivial⟩
  refine el_iconst dL_law_864 (by decide) ?_
  refine el_istore dL_law_865 rfl (Nat.le_of_ble_eq_true rfl) ?_
  show El _ _ _ _ _ _ 867 _ [(9, 0), (9, 0), (9, 0), (9, 0), (9, 0), (9, 0), (2, (0 : Int)), (1, x7), (9, 0), (9, 0), (9, 0), (9, 0), (0, x12), (0, (0 : Int)), (9, 0), (9, 0), (9, 0)] _
  exact el_sub (L2 := [(9, 0), (9, 0), (9, 0), (9, 0), (9, 0), (9, 0), (2, (0 : Int)), (1, x7), (9, 0), (9, 0), (9, 0), (9, 0), (0, x12), (0, (0 : Int)), (9, 0), (9, 0), (9, 0)]) (e_L_law_867 m n N xs hmn hN σ x7 x12 (0 : Int) h K) ⟨.inl rfl, .inl rfl, .inl rfl, .inl rfl, .inl rfl, .inl rfl, .inr rfl, .inr rfl, .inl rfl, .inl rfl, .inl rfl, .inl rfl, .inr rfl, .inr rfl, .inl rfl, .inl rfl, .inl rfl, trivial⟩
set_option maxHeartbeats 4000000 in
set_option maxRecDepth 20000 in
theorem e_L_law_857 (m n N : Nat) (xs : Nat → Int32) (hmn : m ≤ 10 ∧ n ≤ 4) (hN : (N : Int) ≤ 2147483647) (σ : M2) (x7 x12 : Int)  {q : (Int × M2)} (h : f_L_law_857 m n N xs σ x7 x12 = some q) : El (xsh m n) (M_L_law N xs) (false, false) (0, 0) (181, nX m n) (some (0, q.1), lm m n q.2) 857 (lm m n σ) [(9, 0), (9, 0), (9, 0), (9, 0), (9, 0), (9, 0), (2, (0 : Int)), (1, x7), (9, 0), (9, 0), (9, 0), (9, 0), (0, x12), (9, 0), (9, 0), (9, 0), (9, 0)] [] := by
  unfold f_L_law_857 at h
  obtain ⟨e, hl, h⟩ := bind_of h
  refine loop_ev (K := K_L_law_857 m n N xs x7 (some (0, q.1), lm m n q.2)) (b_L_law_857 m n N xs hmn hN x7) FU (x12, σ) e hl ?_
  rcases e with e | e
  · show El (xsh m n) (M_L_law N xs) (false, false) (0, 0) (181, nX m n) _ 886 (lm m n e) [(9, 0), (9, 0), (9, 0), (9, 0), (9, 0), (9, 0), (9, 0), (9, 0), (9, 0), (9, 0), (9, 0), (9, 0), (9, 0), (9, 0), (9, 0), (9, 0), (9, 0)] []
    replace h : some ((0 : Int), e) = some q := h
    refine el_iconst dL_law_886 (by decide) ?_
    obtain rfl := Option.some.inj h
    exact el_zret dL_law_887 rfl (fun z => by cases z) ⟨rfl, rfl⟩ (chk_pos (.inl rfl))
  · show El (xsh m n) (M_L_law N xs) (false, false) (0, 0) (181, nX m n) _ 900 (lm m n e) [(9, 0), (9, 0), (9, 0), (9, 0), (9, 0), (9, 0), (2, (0 : Int)), (1, x7), (9, 0), (9, 0), (9, 0), (9, 0), (9, 0), (9, 0), (9, 0), (9, 0), (9, 0)] []
    replace h : f_L_law_900 m n N xs e x7 = some q := h
    exact el_sub (L2 := [(9, 0), (9, 0), (9, 0), (9, 0), (9, 0), (9, 0), (2, (0 : Int)), (1, x7), (9, 0), (9, 0), (9, 0), (9, 0), (9, 0), (9, 0), (9, 0), (9, 0), (9, 0)]) (e_L_law_900 m n N xs hmn hN e x7 h) ⟨.inl rfl, .inl rfl, .inl rfl, .inl rfl, .inl rfl, .inl rfl, .inr rfl, .inr rfl, .inl rfl, .inl rfl, .inl rfl, .inl rfl, .inl rfl, .inl rfl, .inl rfl, .inl rfl, .inl rfl, trivial⟩
set_option maxHeartbeats 4000000 in
set_option maxRecDepth 20000 in
theorem e_L_law_854 (m n N : Nat) (xs : Nat → Int32) (hmn : m ≤ 10 ∧ n ≤ 4) (hN : (N : Int) ≤ 2147483647) (σ : M2) (x7 : Int)  {q : (Int × M2)} (h : f_L_law_854 m n N xs σ x7 = some q) : El (xsh m n) (M_L_law N xs) (false, false) (0, 0) (181, nX m n) (some (0, q.1), lm m n q.2) 854 (lm m n σ) [(9, 0), (9, 0), (9, 0), (9, 0), (9, 0), (9, 0), (2, (0 : Int)), (1, x7), (9, 0), (9, 0), (9, 0), (9, 0), (9, 0), (9, 0), (9, 0), (9, 0), (9, 0)] [] := by
  unfold f_L_law_854 at h
  refine el_iconst dL_law_854 (by decide) ?_
  refine el_istore dL_law_855 rfl (Nat.le_of_ble_eq_true rfl) ?_
  show El _ _ _ _ _ _ 857 _ [(9, 0), (9, 0), (9, 0), (9, 0), (9, 0), (9, 0), (2, (0 : Int)), (1, x7), (9, 0), (9, 0), (9, 0), (9, 0), (0, (0 : Int)), (9, 0), (9, 0), (9, 0), (9, 0)] _
  exact el_sub (L2 := [(9, 0), (9, 0), (9, 0), (9, 0), (9, 0), (9, 0), (2, (0 : Int)), (1, x7), (9, 0), (9, 0), (9, 0), (9, 0), (0, (0 : Int)), (9, 0), (9, 0), (9, 0), (9, 0)]) (e_L_law_857 m n N xs hmn hN σ x7 (0 : Int) h) ⟨.inl rfl, .inl rfl, .inl rfl, .inl rfl, .inl rfl, .inl rfl, .inr rfl, .inr rfl, .inl rfl, .inl rfl, .inl rfl, .inl rfl, .inr rfl, .inl rfl, .inl rfl, .inl rfl, .inl rfl, trivial⟩
set_option maxHeartbeats 4000000 in
set_option maxRecDepth 20000 in
theorem b_L_law_731 (m n N : Nat) (xs : Nat → Int32) (hmn : m ≤ 10 ∧ n ≤ 4) (hN : (N : Int) ≤ 2147483647) (x2 x7 : Int)  {r : Option V × LM} : ∀ a x, f_L_law_731B m n N xs x2 x7 a = some x → K_L_law_731 m n N xs x2 x7 r x → K_L_law_731 m n N xs x2 x7 r (.inl a) := by
  intro a x h K
  obtain ⟨x12, σ⟩ := a
  have h : f_L_law_731C m n N xs x2 x7 x12 σ = some x := h
  unfold f_L_law_731C at h
  show El (xsh m n) (M_L_law N xs) (false, false) (0, 0) (181, nX m n) r 731 (lm m n σ) [(3, (200000 : Int)), (9, 0), (0, x2), (9, 0), (9, 0), (9, 0), (2, (0 : Int)), (1, x7), (9, 0), (9, 0), (9, 0), (9, 0), (0, x12), (9, 0), (9, 0), (9, 0), (9, 0)] []
  refine el_iload dL_law_731 rfl ?_
  refine el_iload_n dL_law_733 rfl ?_
  refine el_icmp_ge (tgt := 854) dL_law_734 rfl h (fun cb h => ?_) (fun cb h => ?_)
  · obtain rfl := Option.some.inj h
    exact el_sub (L2 := [(9, 0), (9, 0), (9, 0), (9, 0), (9, 0), (9, 0), (2, (0 : Int)), (1, x7), (9, 0), (9, 0), (9, 0), (9, 0), (9, 0), (9, 0), (9, 0), (9, 0), (9, 0)]) K ⟨.inl rfl, .inl rfl, .inl rfl, .inl rfl, .inl rfl, .inl rfl, .inr rfl, .inr rfl, .inl rfl, .inl rfl, .inl rfl, .inl rfl, .inl rfl, .inl rfl, .inl rfl, .inl rfl, .inl rfl, trivial⟩
  refine el_aloadS dL_law_737 rfl ?_
  refine el_sipush dL_law_738 (by decide) (by decide) ?_
  refine el_iload dL_law_741 rfl ?_
  refine el_iadd dL_law_743 ?_
  refine el_iconst dL_law_744 (by decide) ?_
  obtain ⟨v97, hc98, h⟩ := bind_of h
  refine el_call (av := [(3, (200000 : Int)), (0, (jadd (250 : Int) x12)), (0, (2 : Int))]) (st := []) (z2 := (181, nX m n)) (r2 := (some (0, v97), lm m n σ)) dL_law_745 rfl ml_L_17 mt_L_pick rfl ⟨Nat.le_of_ble_eq_true rfl, Nat.le_of_ble_eq_true rfl⟩ (Nat.le_of_ble_eq_true rfl) (c_L_pick hN  hc98) ⟨Nat.le_refl _, Nat.le_refl _, Nat.le_refl _, Nat.le_refl _⟩ ⟨rfl, rfl⟩ (Or.inl rfl) (fun z => by cases z) ?_
  show El _ _ _ _ _ _ 748 (lm m n σ) _ ((0, v97) :: [])
  refine el_istore dL_law_748 rfl (Nat.le_of_ble_eq_true rfl) ?_
  show El _ _ _ _ _ _ 750 _ [(3, (200000 : Int)), (9, 0), (0, x2), (9, 0), (9, 0), (9, 0), (2, (0 : Int)), (1, x7), (9, 0), (9, 0), (9, 0), (9, 0), (0, x12), (0, v97), (9, 0), (9, 0), (9, 0)] _
  refine el_aload dL_law_750 rfl (by decide) ?_
  refine el_iload dL_law_752 rfl ?_
  refine el_iload dL_law_754 rfl ?_
  refine el_iconst dL_law_756 (by decide) ?_
  show El _ _ _ _ _ _ 757 _ _ _
  obtain ⟨v99, hc100, h⟩ := bind_of h
  refine el_invV (k := (0 : Int)) (av := [(0, x12), (0, v97), (0, (0 : Int))]) (st := []) (r2 := (some (0, v99.1), rho, v99.2)) dL_law_757 ml_L_134 mv_X10_pieces (T := TX10) (ci := 9) rfl sp0 (by decide) (by decide) rfl ⟨Nat.le_of_ble_eq_true rfl, Nat.le_of_ble_eq_true rfl⟩ (Nat.le_of_ble_eq_true rfl) (c_X10_pieces hc100) ⟨Nat.le_refl _, Nat.le_refl _⟩ ?_
  show El _ _ _ _ _ _ 760 (lm m n (v99.2, σ.2)) _ ((0, v99.1) :: [])
  refine el_istoreG dL_law_760 h rfl (Nat.le_of_ble_eq_true rfl) (fun v101 h => ?_)
  show El _ _ _ _ _ _ 762 _ [(3, (200000 : Int)), (9, 0), (0, x2), (9, 0), (9, 0), (9, 0), (2, (0 : Int)), (1, x7), (9, 0), (9, 0), (9, 0), (9, 0), (0, x12), (0, v97), (0, v101), (9, 0), (9, 0)] _
  refine el_iconst dL_law_762 (by decide) ?_
  refine el_istore dL_law_763 rfl (Nat.le_of_ble_eq_true rfl) ?_
  show El _ _ _ _ _ _ 765 _ [(3, (200000 : Int)), (9, 0), (0, x2), (9, 0), (9, 0), (9, 0), (2, (0 : Int)), (1, x7), (9, 0), (9, 0), (9, 0), (9, 0), (0, x12), (0, v97), (0, v101), (0, (0 : Int)), (9, 0)] _
  refine el_iconst dL_law_765 (by decide) ?_
  refine el_istore dL_law_766 rfl (Nat.le_of_ble_eq_true rfl) ?_
  show El _ _ _ _ _ _ 768 _ [(3, (200000 : Int)), (9, 0), (0, x2), (9, 0), (9, 0), (9, 0), (2, (0 : Int)), (1, x7), (9, 0), (9, 0), (9, 0), (9, 0), (0, x12), (0, v97), (0, v101), (0, (0 : Int)), (0, (1 : Int))] _
  exact el_sub (L2 := [(3, (200000 : Int)), (9, 0), (0, x2), (9, 0), (9, 0), (9, 0), (2, (0 : Int)), (1, x7), (9, 0), (9, 0), (9, 0), (9, 0), (0, x12), (0, v97), (0, v101), (0, (0 : Int)), (0, (1 : Int))]) (e_L_law_768 m n N xs hmn hN (v99.2, σ.2) x2 x7 x12 v97 v101 (0 : Int) (1 : Int) h K) ⟨.inr rfl, .inl rfl, .inr rfl, .inl rfl, .inl rfl, .inl rfl, .inr rfl, .inr rfl, .inl rfl, .inl rfl, .inl rfl, .inl rfl, .inr rfl, .inr rfl, .inr rfl, .inr rfl, .inr rfl, trivial⟩
set_option maxHeartbeats 4000000 in
set_option maxRecDepth 20000 in
theorem e_L_law_731 (m n N : Nat) (xs : Nat → Int32) (hmn : m ≤ 10 ∧ n ≤ 4) (hN : (N : Int) ≤ 2147483647) (σ : M2) (x2 x7 x12 : Int)  {q : (Int × M2)} (h : f_L_law_731 m n N xs σ x2 x7 x12 = some q) : El (xsh m n) (M_L_law N xs) (false, false) (0, 0) (181, nX m n) (some (0, q.1), lm m n q.2) 731 (lm m n σ) [(3, (200000 : Int)), (9, 0), (0, x2), (9, 0), (9, 0), (9, 0), (2, (0 : Int)), (1, x7), (9, 0), (9, 0), (9, 0), (9, 0), (0, x12), (9, 0), (9, 0), (9, 0), (9, 0)] [] := by
  unfold f_L_law_731 at h
  obtain ⟨e, hl, h⟩ := bind_of h
  refine loop_ev (K := K_L_law_731 m n N xs x2 x7 (some (0, q.1), lm m n q.2)) (b_L_law_731 m n N xs hmn hN x2 x7) FU (x12, σ) e hl ?_
  rcases e with e | e
  · show El (xsh m n) (M_L_law N xs) (false, false) (0, 0) (181, nX m n) _ 846 (lm m n e) [(9, 0), (9, 0), (9, 0), (9, 0), (9, 0), (9, 0), (9, 0), (9, 0), (9, 0), (9, 0), (9, 0), (9, 0), (9, 0), (9, 0), (9, 0), (9, 0), (9, 0)] []
    replace h : some ((0 : Int), e) = some q := h
    refine el_iconst dL_law_846 (by decide) ?_
    obtain rfl := Option.some.inj h
    exact el_zret dL_law_847 rfl (fun z => by cases z) ⟨rfl, rfl⟩ (chk_pos (.inl rfl))
  · show El (xsh m n) (M_L_law N xs) (false, false) (0, 0) (181, nX m n) _ 854 (lm m n e) [(9, 0), (9, 0), (9, 0), (9, 0), (9, 0), (9, 0), (2, (0 : Int)), (1, x7), (9, 0), (9, 0), (9, 0), (9, 0), (9, 0), (9, 0), (9, 0), (9, 0), (9, 0)] []
    replace h : f_L_law_854 m n N xs e x7 = some q := h
    exact el_sub (L2 := [(9, 0), (9, 0), (9, 0), (9, 0), (9, 0), (9, 0), (2, (0 : Int)), (1, x7), (9, 0), (9, 0), (9, 0), (9, 0), (9, 0), (9, 0), (9, 0), (9, 0), (9, 0)]) (e_L_law_854 m n N xs hmn hN e x7 h) ⟨.inl rfl, .inl rfl, .inl rfl, .inl rfl, .inl rfl, .inl rfl, .inr rfl, .inr rfl, .inl rfl, .inl rfl, .inl rfl, .inl rfl, .inl rfl, .inl rfl, .inl rfl, .inl rfl, .inl rfl, trivial⟩
set_option maxHeartbeats 4000000 in
set_option maxRecDepth 20000 in
theorem e_L_law_704 (m n N : Nat) (xs : Nat → Int32) (hmn : m ≤ 10 ∧ n ≤ 4) (hN : (N : Int) ≤ 2147483647) (σ : M2) (x2 x7 x9 x11 : Int)  {q : (Int × M2)} (h : f_L_law_704 m n N xs σ x2 x7 x9 x11 = some q) : El (xsh m n) (M_L_law N xs) (false, false) (0, 0) (181, nX m n) (some (0, q.1), lm m n q.2) 704 (lm m n σ) [(3, (200000 : Int)), (9, 0), (0, x2), (9, 0), (9, 0), (9, 0), (2, (0 : Int)), (1, x7), (9, 0), (0, x9), (9, 0), (0, x11), (9, 0), (9, 0), (9, 0), (9, 0), (9, 0)] [] := by
  unfold f_L_law_704 at h
  refine el_iload dL_law_704 rfl ?_
  refine el_iload dL_law_706 rfl ?_
  refine el_icmp_ne (tgt := 726) dL_law_708 rfl h (fun cb h => ?_) (fun cb h => ?_)
  · refine el_iconst dL_law_726 (by decide) ?_
    obtain rfl := Option.some.inj h
    exact el_zret dL_law_727 rfl (fun z => by cases z) ⟨rfl, rfl⟩ (chk_pos (.inl rfl))
  refine el_aload dL_law_711 rfl (by decide) ?_
  refine el_iconst dL_law_713 (by decide) ?_
  obtain ⟨v93, hc94, h⟩ := bind_of h
  refine el_invV (k := (0 : Int)) (av := [(0, (1 : Int))]) (st := []) (r2 := (some (0, v93.1), rho, v93.2)) dL_law_714 ml_L_128 mv_X10_watch (T := TX10) (ci := 9) rfl sp0 (by decide) (by decide) rfl ⟨Nat.le_of_ble_eq_true rfl, Nat.le_of_ble_eq_true rfl⟩ (Nat.le_of_ble_eq_true rfl) (c_X10_watch hc94) ⟨Nat.le_refl _, Nat.le_refl _⟩ ?_
  show El _ _ _ _ _ _ 717 (lm m n (v93.2, σ.2)) _ ((0, v93.1) :: [])
  refine el_aload dL_law_717 rfl (by decide) ?_
  refine el_iconst dL_law_719 (by decide) ?_
  obtain ⟨v95, hc96, h⟩ := bind_of h
  refine el_invV (k := (0 : Int)) (av := [(0, (2 : Int))]) (st := [(0, v93.1)]) (r2 := (some (0, v95.1), rho, v95.2)) dL_law_720 ml_L_128 mv_X10_watch (T := TX10) (ci := 9) rfl sp0 (by decide) (by decide) rfl ⟨Nat.le_of_ble_eq_true rfl, Nat.le_of_ble_eq_true rfl⟩ (Nat.le_of_ble_eq_true rfl) (c_X10_watch hc96) ⟨Nat.le_refl _, Nat.le_refl _⟩ ?_
  show El _ _ _ _ _ _ 723 (lm m n (v95.2, (v93.2, σ.2).2)) _ ((0, v95.1) :: [(0, v93.1)])
  refine el_icmp_eq (tgt := 728) dL_law_723 rfl h (fun cb h => ?_) (fun cb h => ?_)
  · refine el_iconst dL_law_728 (by decide) ?_
    refine el_istore dL_law_729 rfl (Nat.le_of_ble_eq_true rfl) ?_
    show El _ _ _ _ _ _ 731 _ [(3, (200000 : Int)), (9, 0), (0, x2), (9, 0), (9, 0), (9, 0), (2, (0 : Int)), (1, x7), (9, 0), (0, x9), (9, 0), (0, x11), (0, (0 : Int)), (9, 0), (9, 0), (9, 0), (9, 0)] _
    exact el_sub (L2 := [(3, (200000 : Int)), (9, 0), (0, x2), (9, 0), (9, 0), (9, 0), (2, (0 : Int)), (1, x7), (9, 0), (9, 0), (9, 0), (9, 0), (0, (0 : Int)), (9, 0), (9, 0), (9, 0), (9, 0)]) (e_L_law_731 m n N xs hmn hN (v95.2, (v93.2, σ.2).2) x2 x7 (0 : Int) h) ⟨.inr rfl, .inl rfl, .inr rfl, .inl rfl, .inl rfl, .inl rfl, .inr rfl, .inr rfl, .inl rfl, .inl rfl, .inl rfl, .inl rfl, .inr rfl, .inl rfl, .inl rfl, .inl rfl, .inl rfl, trivial⟩
  refine el_iconst dL_law_726 (by decide) ?_
  obtain rfl := Option.some.inj h
  exact el_zret dL_law_727 rfl (fun z => by cases z) ⟨rfl, rfl⟩ (chk_pos (.inl rfl))
set_option maxHeartbeats 4000000 in
set_option maxRecDepth 20000 in
theorem b_L_law_581 (m n N : Nat) (xs : Nat → Int32) (hmn : m ≤ 10 ∧ n ≤ 4) (hN : (N : Int) ≤ 2147483647) (x2 x7 x9 x10 : Int)  {r : Option V × LM} : ∀ a x, f_L_law_581B m n N xs x2 x7 x9 x10 a = some x → K_L_law_581 m n N xs x2 x7 x9 x10 r x → K_L_law_581 m n N xs x2 x7 x9 x10 r (.inl a) := by
  intro a x h K
  obtain ⟨x11, x12, σ⟩ := a
  have h : f_L_law_581C m n N xs x2 x7 x9 x10 x11 x12 σ = some x := h
  unfold f_L_law_581C at h
  show El (xsh m n) (M_L_law N xs) (false, false) (0, 0) (181, nX m n) r 581 (lm m n σ) [(3, (200000 : Int)), (3, (0 : Int)), (0, x2), (9, 0), (9, 0), (9, 0), (2, (0 : Int)), (1, x7), (9, 0), (0, x9), (0, x10), (0, x11), (0, x12), (9, 0), (9, 0), (9, 0), (9, 0)] []
  refine el_iload dL_law_581 rfl ?_
  refine el_iload dL_law_583 rfl ?_
  refine el_icmp_ge (tgt := 704) dL_law_585 rfl h (fun cb h => ?_) (fun cb h => ?_)
  · obtain rfl := Option.some.inj h
    exact el_sub (L2 := [(3, (200000 : Int)), (9, 0), (0, x2), (9, 0), (9, 0), (9, 0), (2, (0 : Int)), (1, x7), (9, 0), (0, x9), (9, 0), (0, x11), (9, 0), (9, 0), (9, 0), (9, 0), (9, 0)]) K ⟨.inr rfl, .inl rfl, .inr rfl, .inl rfl, .inl rfl, .inl rfl, .inr rfl, .inr rfl, .inl rfl, .inr rfl, .inl rfl, .inr rfl, .inl rfl, .inl rfl, .inl rfl, .inl rfl, .inl rfl, trivial⟩
  refine el_iload dL_law_588 rfl ?_
  refine el_aload dL_law_590 rfl (by decide) ?_
  refine el_iload dL_law_592 rfl ?_
  refine el_iconst dL_law_594 (by decide) ?_
  obtain ⟨v73, hc74, h⟩ := bind_of h
  refine el_invV (k := (0 : Int)) (av := [(0, x12), (0, (3 : Int))]) (st := [(0, x11)]) (r2 := (some (0, v73.1), rho, v73.2)) dL_law_595 ml_L_131 mv_X10_duty (T := TX10) (ci := 9) rfl sp0 (by decide) (by decide) rfl ⟨Nat.le_of_ble_eq_true rfl, Nat.le_of_ble_eq_true rfl⟩ (Nat.le_of_ble_eq_true rfl) (c_X10_duty hc74) ⟨Nat.le_refl _, Nat.le_refl _⟩ ?_
  show El _ _ _ _ _ _ 598 (lm m n (v73.2, σ.2)) _ ((0, v73.1) :: [(0, x11)])
  refine el_iadd dL_law_598 ?_
  refine el_istoreG dL_law_599 h rfl (Nat.le_of_ble_eq_true rfl) (fun v75 h => ?_)
  show El _ _ _ _ _ _ 601 _ [(3, (200000 : Int)), (3, (0 : Int)), (0, x2), (9, 0), (9, 0), (9, 0), (2, (0 : Int)), (1, x7), (9, 0), (0, x9), (0, x10), (0, v75), (0, x12), (9, 0), (9, 0), (9, 0), (9, 0)] _
  refine el_iconst dL_law_601 (by decide) ?_
  refine el_istore dL_law_602 rfl (Nat.le_of_ble_eq_true rfl) ?_
  show El _ _ _ _ _ _ 604 _ [(3, (200000 : Int)), (3, (0 : Int)), (0, x2), (9, 0), (9, 0), (9, 0), (2, (0 : Int)), (1, x7), (9, 0), (0, x9), (0, x10), (0, v75), (0, x12), (0, (0 : Int)), (9, 0), (9, 0), (9, 0)] _
  exact el_sub (L2 := [(3, (200000 : Int)), (3, (0 : Int)), (0, x2), (9, 0), (9, 0), (9, 0), (2, (0 : Int)), (1, x7), (9, 0), (0, x9), (0, x10), (0, v75), (0, x12), (0, (0 : Int)), (9, 0), (9, 0), (9, 0)]) (e_L_law_604 m n N xs hmn hN (v73.2, σ.2) x2 x7 x9 x10 v75 x12 (0 : Int) h K) ⟨.inr rfl, .inr rfl, .inr rfl, .inl rfl, .inl rfl, .inl rfl, .inr rfl, .inr rfl, .inl rfl, .inr rfl, .inr rfl, .inr rfl, .inr rfl, .inr rfl, .inl rfl, .inl rfl, .inl rfl, trivial⟩
set_option maxHeartbeats 4000000 in
set_option maxRecDepth 20000 in
theorem e_L_law_581 (m n N : Nat) (xs : Nat → Int32) (hmn : m ≤ 10 ∧ n ≤ 4) (hN : (N : Int) ≤ 2147483647) (σ : M2) (x2 x7 x9 x10 x11 x12 : Int)  {q : (Int × M2)} (h : f_L_law_581 m n N xs σ x2 x7 x9 x10 x11 x12 = some q) : El (xsh m n) (M_L_law N xs) (false, false) (0, 0) (181, nX m n) (some (0, q.1), lm m n q.2) 581 (lm m n σ) [(3, (200000 : Int)), (3, (0 : Int)), (0, x2), (9, 0), (9, 0), (9, 0), (2, (0 : Int)), (1, x7), (9, 0), (0, x9), (0, x10), (0, x11), (0, x12), (9, 0), (9, 0), (9, 0), (9, 0)] [] := by
  unfold f_L_law_581 at h
  obtain ⟨e, hl, h⟩ := bind_of h
  refine loop_ev (K := K_L_law_581 m n N xs x2 x7 x9 x10 (some (0, q.1), lm m n q.2)) (b_L_law_581 m n N xs hmn hN x2 x7 x9 x10) FU (x11, x12, σ) e hl ?_
  rcases e with e | e
  · show El (xsh m n) (M_L_law N xs) (false, false) (0, 0) (181, nX m n) _ 690 (lm m n e) [(9, 0), (9, 0), (9, 0), (9, 0), (9, 0), (9, 0), (9, 0), (9, 0), (9, 0), (9, 0), (9, 0), (9, 0), (9, 0), (9, 0), (9, 0), (9, 0), (9, 0)] []
    replace h : some ((0 : Int), e) = some q := h
    refine el_iconst dL_law_690 (by decide) ?_
    obtain rfl := Option.some.inj h
    exact el_zret dL_law_691 rfl (fun z => by cases z) ⟨rfl, rfl⟩ (chk_pos (.inl rfl))
  · show El (xsh m n) (M_L_law N xs) (false, false) (0, 0) (181, nX m n) _ 704 (lm m n e.2) [(3, (200000 : Int)), (9, 0), (0, x2), (9, 0), (9, 0), (9, 0), (2, (0 : Int)), (1, x7), (9, 0), (0, x9), (9, 0), (0, e.1), (9, 0), (9, 0), (9, 0), (9, 0), (9, 0)] []
    replace h : f_L_law_704 m n N xs e.2 x2 x7 x9 e.1 = some q := h
    exact el_sub (L2 := [(3, (200000 : Int)), (9, 0), (0, x2), (9, 0), (9, 0), (9, 0), (2, (0 : Int)), (1, x7), (9, 0), (0, x9), (9, 0), (0, e.1), (9, 0), (9, 0), (9, 0), (9, 0), (9, 0)]) (e_L_law_704 m n N xs hmn hN e.2 x2 x7 x9 e.1 h) ⟨.inr rfl, .inl rfl, .inr rfl, .inl rfl, .inl rfl, .inl rfl, .inr rfl, .inr rfl, .inl rfl, .inr rfl, .inl rfl, .inr rfl, .inl rfl, .inl rfl, .inl rfl, .inl rfl, .inl rfl, trivial⟩
set_option maxHeartbeats 4000000 in
set_option maxRecDepth 20000 in
theorem e_L_law_567 (m n N : Nat) (xs : Nat → Int32) (hmn : m ≤ 10 ∧ n ≤ 4) (hN : (N : Int) ≤ 2147483647) (σ : M2) (x2 x7 x9 : Int)  {q : (Int × M2)} (h : f_L_law_567 m n N xs σ x2 x7 x9 = some q) : El (xsh m n) (M_L_law N xs) (false, false) (0, 0) (181, nX m n) (some (0, q.1), lm m n q.2) 567 (lm m n σ) [(3, (200000 : Int)), (3, (0 : Int)), (0, x2), (9, 0), (9, 0), (9, 0), (2, (0 : Int)), (1, x7), (9, 0), (0, x9), (9, 0), (9, 0), (9, 0), (9, 0), (9, 0), (9, 0), (9, 0)] [] := by
  unfold f_L_law_567 at h
  refine el_aload dL_law_567 rfl (by decide) ?_
  refine el_iconst dL_law_569 (by decide) ?_
  obtain ⟨v70, hc71, h⟩ := bind_of h
  refine el_invV (k := (0 : Int)) (av := [(0, (0 : Int))]) (st := []) (r2 := (some (0, v70.1), rho, v70.2)) dL_law_570 ml_L_128 mv_X10_watch (T := TX10) (ci := 9) rfl sp0 (by decide) (by decide) rfl ⟨Nat.le_of_ble_eq_true rfl, Nat.le_of_ble_eq_true rfl⟩ (Nat.le_of_ble_eq_true rfl) (c_X10_watch hc71) ⟨Nat.le_refl _, Nat.le_refl _⟩ ?_
  show El _ _ _ _ _ _ 573 (lm m n (v70.2, σ.2)) _ ((0, v70.1) :: [])
  refine el_istoreG dL_law_573 h rfl (Nat.le_of_ble_eq_true rfl) (fun v72 h => ?_)
  show El _ _ _ _ _ _ 575 _ [(3, (200000 : Int)), (3, (0 : Int)), (0, x2), (9, 0), (9, 0), (9, 0), (2, (0 : Int)), (1, x7), (9, 0), (0, x9), (0, v72), (9, 0), (9, 0), (9, 0), (9, 0), (9, 0), (9, 0)] _
  refine el_iconst dL_law_575 (by decide) ?_
  refine el_istore dL_law_576 rfl (Nat.le_of_ble_eq_true rfl) ?_
  show El _ _ _ _ _ _ 578 _ [(3, (200000 : Int)), (3, (0 : Int)), (0, x2), (9, 0), (9, 0), (9, 0), (2, (0 : Int)), (1, x7), (9, 0), (0, x9), (0, v72), (0, (0 : Int)), (9, 0), (9, 0), (9, 0), (9, 0), (9, 0)] _
  refine el_iconst dL_law_578 (by decide) ?_
  refine el_istore dL_law_579 rfl (Nat.le_of_ble_eq_true rfl) ?_
  show El _ _ _ _ _ _ 581 _ [(3, (200000 : Int)), (3, (0 : Int)), (0, x2), (9, 0), (9, 0), (9, 0), (2, (0 : Int)), (1, x7), (9, 0), (0, x9), (0, v72), (0, (0 : Int)), (0, (0 : Int)), (9, 0), (9, 0), (9, 0), (9, 0)] _
  exact el_sub (L2 := [(3, (200000 : Int)), (3, (0 : Int)), (0, x2), (9, 0), (9, 0), (9, 0), (2, (0 : Int)), (1, x7), (9, 0), (0, x9), (0, v72), (0, (0 : Int)), (0, (0 : Int)), (9, 0), (9, 0), (9, 0), (9, 0)]) (e_L_law_581 m n N xs hmn hN (v70.2, σ.2) x2 x7 x9 v72 (0 : Int) (0 : Int) h) ⟨.inr rfl, .inr rfl, .inr rfl, .inl rfl, .inl rfl, .inl rfl, .inr rfl, .inr rfl, .inl rfl, .inr rfl, .inr rfl, .inr rfl, .inr rfl, .inl rfl, .inl rfl, .inl rfl, .inl rfl, trivial⟩
set_option maxHeartbeats 4000000 in
set_option maxRecDepth 20000 in
theorem b_L_law_140 (m n N : Nat) (xs : Nat → Int32) (hmn : m ≤ 10 ∧ n ≤ 4) (hN : (N : Int) ≤ 2147483647) (x2 x3 x7 : Int)  {r : Option V × LM} : ∀ a x, f_L_law_140B m n N xs x2 x3 x7 a = some x → K_L_law_140 m n N xs x2 x3 x7 r x → K_L_law_140 m n N xs x2 x3 x7 r (.inl a) := by
  intro a x h K
  obtain ⟨x9, x10, σ⟩ := a
  have h : f_L_law_140C m n N xs x2 x3 x7 x9 x10 σ = some x := h
  unfold f_L_law_140C at h
  show El (xsh m n) (M_L_law N xs) (false, false) (0, 0) (181, nX m n) r 140 (lm m n σ) [(3, (200000 : Int)), (3, (0 : Int)), (0, x2), (0, x3), (3, (1 : Int)), (3, (2 + (m : Int))), (2, (0 : Int)), (1, x7), (9, 0), (0, x9), (0, x10), (9, 0), (9, 0), (9, 0), (9, 0), (9, 0), (9, 0)] []
  refine el_iload dL_law_140 rfl ?_
  refine el_iload_n dL_law_142 rfl ?_
  refine el_icmp_ge (tgt := 567) dL_law_143 rfl h (fun cb h => ?_) (fun cb h => ?_)
  · obtain rfl := Option.some.inj h
    exact el_sub (L2 := [(3, (200000 : Int)), (3, (0 : Int)), (0, x2), (9, 0), (9, 0), (9, 0), (2, (0 : Int)), (1, x7), (9, 0), (0, x9), (9, 0), (9, 0), (9, 0), (9, 0), (9, 0), (9, 0), (9, 0)]) K ⟨.inr rfl, .inr rfl, .inr rfl, .inl rfl, .inl rfl, .inl rfl, .inr rfl, .inr rfl, .inl rfl, .inr rfl, .inl rfl, .inl rfl, .inl rfl, .inl rfl, .inl rfl, .inl rfl, .inl rfl, trivial⟩
  refine el_iconst dL_law_146 (by decide) ?_
  refine el_istore dL_law_147 rfl (Nat.le_of_ble_eq_true rfl) ?_
  show El _ _ _ _ _ _ 149 _ [(3, (200000 : Int)), (3, (0 : Int)), (0, x2), (0, x3), (3, (1 : Int)), (3, (2 + (m : Int))), (2, (0 : Int)), (1, x7), (9, 0), (0, x9), (0, x10), (0, (0 : Int)), (9, 0), (9, 0), (9, 0), (9, 0), (9, 0)] _
  refine el_iconst dL_law_149 (by decide) ?_
  refine el_istore dL_law_150 rfl (Nat.le_of_ble_eq_true rfl) ?_
  show El _ _ _ _ _ _ 152 _ [(3, (200000 : Int)), (3, (0 : Int)), (0, x2), (0, x3), (3, (1 : Int)), (3, (2 + (m : Int))), (2, (0 : Int)), (1, x7), (9, 0), (0, x9), (0, x10), (0, (0 : Int)), (0, (0 : Int)), (9, 0), (9, 0), (9, 0), (9, 0)] _
  exact el_sub (L2 := [(3, (200000 : Int)), (3, (0 : Int)), (0, x2), (0, x3), (3, (1 : Int)), (3, (2 + (m : Int))), (2, (0 : Int)), (1, x7), (9, 0), (0, x9), (0, x10), (0, (0 : Int)), (0, (0 : Int)), (9, 0), (9, 0), (9, 0), (9, 0)]) (e_L_law_152 m n N xs hmn hN σ x2 x3 x7 x9 x10 (0 : Int) (0 : Int) h K) ⟨.inr rfl, .inr rfl, .inr rfl, .inr rfl, .inr rfl, .inr rfl, .inr rfl, .inr rfl, .inl rfl, .inr rfl, .inr rfl, .inr rfl, .inr rfl, .inl rfl, .inl rfl, .inl rfl, .inl rfl, trivial⟩
set_option maxHeartbeats 4000000 in
set_option maxRecDepth 20000 in
theorem e_L_law_140 (m n N : Nat) (xs : Nat → Int32) (hmn : m ≤ 10 ∧ n ≤ 4) (hN : (N : Int) ≤ 2147483647) (σ : M2) (x2 x3 x7 x9 x10 : Int)  {q : (Int × M2)} (h : f_L_law_140 m n N xs σ x2 x3 x7 x9 x10 = some q) : El (xsh m n) (M_L_law N xs) (false, false) (0, 0) (181, nX m n) (some (0, q.1), lm m n q.2) 140 (lm m n σ) [(3, (200000 : Int)), (3, (0 : Int)), (0, x2), (0, x3), (3, (1 : Int)), (3, (2 + (m : Int))), (2, (0 : Int)), (1, x7), (9, 0), (0, x9), (0, x10), (9, 0), (9, 0), (9, 0), (9, 0), (9, 0), (9, 0)] [] := by
  unfold f_L_law_140 at h
  obtain ⟨e, hl, h⟩ := bind_of h
  refine loop_ev (K := K_L_law_140 m n N xs x2 x3 x7 (some (0, q.1), lm m n q.2)) (b_L_law_140 m n N xs hmn hN x2 x3 x7) FU (x9, x10, σ) e hl ?_
  rcases e with e | e
  · show El (xsh m n) (M_L_law N xs) (false, false) (0, 0) (181, nX m n) _ 209 (lm m n e) [(9, 0), (9, 0), (9, 0), (9, 0), (9, 0), (9, 0), (9, 0), (9, 0), (9, 0), (9, 0), (9, 0), (9, 0), (9, 0), (9, 0), (9, 0), (9, 0), (9, 0)] []
    replace h : some ((0 : Int), e) = some q := h
    refine el_iconst dL_law_209 (by decide) ?_
    obtain rfl := Option.some.inj h
    exact el_zret dL_law_210 rfl (fun z => by cases z) ⟨rfl, rfl⟩ (chk_pos (.inl rfl))
  rcases e with e | e
  · show El (xsh m n) (M_L_law N xs) (false, false) (0, 0) (181, nX m n) _ 348 (lm m n e) [(9, 0), (9, 0), (9, 0), (9, 0), (9, 0), (9, 0), (9, 0), (9, 0), (9, 0), (9, 0), (9, 0), (9, 0), (9, 0), (9, 0), (9, 0), (9, 0), (9, 0)] []
    replace h : some ((0 : Int), e) = some q := h
    refine el_iconst dL_law_348 (by decide) ?_
    obtain rfl := Option.some.inj h
    exact el_zret dL_law_349 rfl (fun z => by cases z) ⟨rfl, rfl⟩ (chk_pos (.inl rfl))
  rcases e with e | e
  · show El (xsh m n) (M_L_law N xs) (false, false) (0, 0) (181, nX m n) _ 377 (lm m n e) [(9, 0), (9, 0), (9, 0), (9, 0), (9, 0), (9, 0), (9, 0), (9, 0), (9, 0), (9, 0), (9, 0), (9, 0), (9, 0), (9, 0), (9, 0), (9, 0), (9, 0)] []
    replace h : some ((0 : Int), e) = some q := h
    refine el_iconst dL_law_377 (by decide) ?_
    obtain rfl := Option.some.inj h
    exact el_zret dL_law_378 rfl (fun z => by cases z) ⟨rfl, rfl⟩ (chk_pos (.inl rfl))
  rcases e with e | e
  · show El (xsh m n) (M_L_law N xs) (false, false) (0, 0) (181, nX m n) _ 459 (lm m n e) [(9, 0), (9, 0), (9, 0), (9, 0), (9, 0), (9, 0), (9, 0), (9, 0), (9, 0), (9, 0), (9, 0), (9, 0), (9, 0), (9, 0), (9, 0), (9, 0), (9, 0)] []
    replace h : some ((0 : Int), e) = some q := h
    refine el_iconst dL_law_459 (by decide) ?_
    obtain rfl := Option.some.inj h
    exact el_zret dL_law_460 rfl (fun z => by cases z) ⟨rfl, rfl⟩ (chk_pos (.inl rfl))
  rcases e with e | e
  · show El (xsh m n) (M_L_law N xs) (false, false) (0, 0) (181, nX m n) _ 523 (lm m n e) [(9, 0), (9, 0), (9, 0), (9, 0), (9, 0), (9, 0), (9, 0), (9, 0), (9, 0), (9, 0), (9, 0), (9, 0), (9, 0), (9, 0), (9, 0), (9, 0), (9, 0)] []
    replace h : some ((0 : Int), e) = some q := h
    refine el_iconst dL_law_523 (by decide) ?_
    obtain rfl := Option.some.inj h
    exact el_zret dL_law_524 rfl (fun z => by cases z) ⟨rfl, rfl⟩ (chk_pos (.inl rfl))
  rcases e with e | e
  · show El (xsh m n) (M_L_law N xs) (false, false) (0, 0) (181, nX m n) _ 553 (lm m n e) [(9, 0), (9, 0), (9, 0), (9, 0), (9, 0), (9, 0), (9, 0), (9, 0), (9, 0), (9, 0), (9, 0), (9, 0), (9, 0), (9, 0), (9, 0), (9, 0), (9, 0)] []
    replace h : some ((0 : Int), e) = some q := h
    refine el_iconst dL_law_553 (by decide) ?_
    obtain rfl := Option.some.inj h
    exact el_zret dL_law_554 rfl (fun z => by cases z) ⟨rfl, rfl⟩ (chk_pos (.inl rfl))
  · show El (xsh m n) (M_L_law N xs) (false, false) (0, 0) (181, nX m n) _ 567 (lm m n e.2) [(3, (200000 : Int)), (3, (0 : Int)), (0, x2), (9, 0), (9, 0), (9, 0), (2, (0 : Int)), (1, x7), (9, 0), (0, e.1), (9, 0), (9, 0), (9, 0), (9, 0), (9, 0), (9, 0), (9, 0)] []
    replace h : f_L_law_567 m n N xs e.2 x2 x7 e.1 = some q := h
    exact el_sub (L2 := [(3, (200000 : Int)), (3, (0 : Int)), (0, x2), (9, 0), (9, 0), (9, 0), (2, (0 : Int)), (1, x7), (9, 0), (0, e.1), (9, 0), (9, 0), (9, 0), (9, 0), (9, 0), (9, 0), (9, 0)]) (e_L_law_567 m n N xs hmn hN e.2 x2 x7 e.1 h) ⟨.inr rfl, .inr rfl, .inr rfl, .inl rfl, .inl rfl, .inl rfl, .inr rfl, .inr rfl, .inl rfl, .inr rfl, .inl rfl, .inl rfl, .inl rfl, .inl rfl, .inl rfl, .inl rfl, .inl rfl, trivial⟩
set_option maxHeartbeats 4000000 in
set_option maxRecDepth 20000 in
theorem e_L_law_121 (m n N : Nat) (xs : Nat → Int32) (hmn : m ≤ 10 ∧ n ≤ 4) (hN : (N : Int) ≤ 2147483647) (σ : M2) (x2 x3 : Int)  {q : (Int × M2)} (h : f_L_law_121 m n N xs σ x2 x3 = some q) : El (xsh m n) (M_L_law N xs) (false, false) (0, 0) (181, nX m n) (some (0, q.1), lm m n q.2) 121 (lm m n σ) [(3, (200000 : Int)), (3, (0 : Int)), (0, x2), (0, x3), (3, (1 : Int)), (3, (2 + (m : Int))), (2, (0 : Int)), (9, 0), (9, 0), (9, 0), (9, 0), (9, 0), (9, 0), (9, 0), (9, 0), (9, 0), (9, 0)] [] := by
  unfold f_L_law_121 at h
  refine el_aload dL_law_121 rfl (by decide) ?_
  obtain ⟨v8, hc9, h⟩ := bind_of h
  refine el_call (av := [(2, (0 : Int))]) (st := []) (z2 := (181, nX m n)) (r2 := (some (1, v8.1), lm m n v8.2)) dL_law_123 rfl ml_L_102 mt_L_looks rfl ⟨Nat.le_of_ble_eq_true rfl, Nat.le_of_ble_eq_true rfl⟩ (Nat.le_of_ble_eq_true rfl) (c_L_looks hmn hN  hc9) ⟨Nat.le_refl _, Nat.le_refl _, Nat.le_refl _, Nat.le_refl _⟩ ⟨rfl, rfl⟩ (Or.inl rfl) (fun z => by cases z) ?_
  show El _ _ _ _ _ _ 126 (lm m n v8.2) _ ((1, v8.1) :: [])
  refine el_lstoreG dL_law_126 h rfl (Nat.le_of_ble_eq_true rfl) (fun v10 h => ?_)
  show El _ _ _ _ _ _ 128 _ [(3, (200000 : Int)), (3, (0 : Int)), (0, x2), (0, x3), (3, (1 : Int)), (3, (2 + (m : Int))), (2, (0 : Int)), (1, v10), (9, 0), (9, 0), (9, 0), (9, 0), (9, 0), (9, 0), (9, 0), (9, 0), (9, 0)] _
  refine el_aload dL_law_128 rfl (by decide) ?_
  obtain ⟨v11, hc12, h⟩ := bind_of h
  refine el_invV (k := (0 : Int)) (av := []) (st := []) (r2 := (some (0, v11.1), rho, v11.2)) dL_law_130 ml_L_106 mv_X10_image (T := TX10) (ci := 9) rfl sp0 (by decide) (by decide) rfl ⟨Nat.le_of_ble_eq_true rfl, Nat.le_of_ble_eq_true rfl⟩ (Nat.le_of_ble_eq_true rfl) (c_X10_image hc12) ⟨Nat.le_refl _, Nat.le_refl _⟩ ?_
  show El _ _ _ _ _ _ 133 (lm m n (v11.2, v8.2.2)) _ ((0, v11.1) :: [])
  refine el_pop dL_law_133 (show (0 : Nat) ≠ 1 by decide) ?_
  refine el_iconst dL_law_134 (by decide) ?_
  refine el_istore dL_law_135 rfl (Nat.le_of_ble_eq_true rfl) ?_
  show El _ _ _ _ _ _ 137 _ [(3, (200000 : Int)), (3, (0 : Int)), (0, x2), (0, x3), (3, (1 : Int)), (3, (2 + (m : Int))), (2, (0 : Int)), (1, v10), (9, 0), (0, (0 : Int)), (9, 0), (9, 0), (9, 0), (9, 0), (9, 0), (9, 0), (9, 0)] _
  refine el_iconst dL_law_137 (by decide) ?_
  refine el_istore dL_law_138 rfl (Nat.le_of_ble_eq_true rfl) ?_
  show El _ _ _ _ _ _ 140 _ [(3, (200000 : Int)), (3, (0 : Int)), (0, x2), (0, x3), (3, (1 : Int)), (3, (2 + (m : Int))), (2, (0 : Int)), (1, v10), (9, 0), (0, (0 : Int)), (0, (0 : Int)), (9, 0), (9, 0), (9, 0), (9, 0), (9, 0), (9, 0)] _
  exact el_sub (L2 := [(3, (200000 : Int)), (3, (0 : Int)), (0, x2), (0, x3), (3, (1 : Int)), (3, (2 + (m : Int))), (2, (0 : Int)), (1, v10), (9, 0), (0, (0 : Int)), (0, (0 : Int)), (9, 0), (9, 0), (9, 0), (9, 0), (9, 0), (9, 0)]) (e_L_law_140 m n N xs hmn hN (v11.2, v8.2.2) x2 x3 v10 (0 : Int) (0 : Int) h) ⟨.inr rfl, .inr rfl, .inr rfl, .inr rfl, .inr rfl, .inr rfl, .inr rfl, .inr rfl, .inl rfl, .inr rfl, .inr rfl, .inl rfl, .inl rfl, .inl rfl, .inl rfl, .inl rfl, .inl rfl, trivial⟩
set_option maxHeartbeats 4000000 in
set_option maxRecDepth 20000 in
theorem b_L_law_90 (m n N : Nat) (xs : Nat → Int32) (hmn : m ≤ 10 ∧ n ≤ 4) (hN : (N : Int) ≤ 2147483647) (x2 x3 : Int)  {r : Option V × LM} : ∀ a x, f_L_law_90B m n N xs x2 x3 a = some x → K_L_law_90 m n N xs x2 x3 r x → K_L_law_90 m n N xs x2 x3 r (.inl a) := by
  intro a x h K
  obtain ⟨x7, σ⟩ := a
  have h : f_L_law_90C m n N xs x2 x3 x7 σ = some x := h
  unfold f_L_law_90C at h
  show El (xsh m n) (M_L_law N xs) (false, false) (0, 0) (181, nX m n) r 90 (lm m n σ) [(3, (200000 : Int)), (3, (0 : Int)), (0, x2), (0, x3), (3, (1 : Int)), (3, (2 + (m : Int))), (2, (0 : Int)), (0, x7), (9, 0), (9, 0), (9, 0), (9, 0), (9, 0), (9, 0), (9, 0), (9, 0), (9, 0)] []
  refine el_iload dL_law_90 rfl ?_
  refine el_iconst dL_law_92 (by decide) ?_
  refine el_icmp_ge (tgt := 121) dL_law_93 rfl h (fun cb h => ?_) (fun cb h => ?_)
  · obtain rfl := Option.some.inj h
    exact el_sub (L2 := [(3, (200000 : Int)), (3, (0 : Int)), (0, x2), (0, x3), (3, (1 : Int)), (3, (2 + (m : Int))), (2, (0 : Int)), (9, 0), (9, 0), (9, 0), (9, 0), (9, 0), (9, 0), (9, 0), (9, 0), (9, 0), (9, 0)]) K ⟨.inr rfl, .inr rfl, .inr rfl, .inr rfl, .inr rfl, .inr rfl, .inr rfl, .inl rfl, .inl rfl, .inl rfl, .inl rfl, .inl rfl, .inl rfl, .inl rfl, .inl rfl, .inl rfl, .inl rfl, trivial⟩
  refine el_aload dL_law_96 rfl (by decide) ?_
  refine el_iconst dL_law_98 (by decide) ?_
  refine el_aloadS dL_law_99 rfl ?_
  refine el_sipush dL_law_100 (by decide) (by decide) ?_
  refine el_iload dL_law_103 rfl ?_
  refine el_iadd dL_law_105 ?_
  refine el_iconst dL_law_106 (by decide) ?_
  obtain ⟨v3, hc4, h⟩ := bind_of h
  refine el_call (av := [(3, (200000 : Int)), (0, (jadd (240 : Int) x7)), (0, (3 : Int))]) (st := [(0, (1 : Int)), (2, (0 : Int))]) (z2 := (181, nX m n)) (r2 := (some (0, v3), lm m n σ)) dL_law_107 rfl ml_L_17 mt_L_pick rfl ⟨Nat.le_of_ble_eq_true rfl, Nat.le_of_ble_eq_true rfl⟩ (Nat.le_of_ble_eq_true rfl) (c_L_pick hN  hc4) ⟨Nat.le_refl _, Nat.le_refl _, Nat.le_refl _, Nat.le_refl _⟩ ⟨rfl, rfl⟩ (Or.inl rfl) (fun z => by cases z) ?_
  show El _ _ _ _ _ _ 110 (lm m n σ) _ ((0, v3) :: [(0, (1 : Int)), (2, (0 : Int))])
  refine el_iadd dL_law_110 ?_
  obtain ⟨v5, hc6, h⟩ := bind_of h
  refine el_invV (k := (0 : Int)) (av := [(0, (jadd (1 : Int) v3))]) (st := []) (r2 := (some (0, v5.1), rho, v5.2)) dL_law_111 ml_L_99 mv_X10_room (T := TX10) (ci := 9) rfl sp0 (by decide) (by decide) rfl ⟨Nat.le_of_ble_eq_true rfl, Nat.le_of_ble_eq_true rfl⟩ (Nat.le_of_ble_eq_true rfl) (c_X10_room hc6) ⟨Nat.le_refl _, Nat.le_refl _⟩ ?_
  show El _ _ _ _ _ _ 114 (lm m n (v5.2, σ.2)) _ ((0, v5.1) :: [])
  refine el_pop dL_law_114 (show (0 : Nat) ≠ 1 by decide) ?_
  show El _ _ _ _ _ _ 115 _ _ _
  refine el_iincG dL_law_115 rfl h rfl (fun v7 h => ?_)
  show El _ _ _ _ _ _ 118 _ [(3, (200000 : Int)), (3, (0 : Int)), (0, x2), (0, x3), (3, (1 : Int)), (3, (2 + (m : Int))), (2, (0 : Int)), (0, v7), (9, 0), (9, 0), (9, 0), (9, 0), (9, 0), (9, 0), (9, 0), (9, 0), (9, 0)] _
  refine el_goto (tgt := 90) dL_law_118 rfl ?_
  obtain rfl := Option.some.inj h
  exact el_sub (L2 := [(3, (200000 : Int)), (3, (0 : Int)), (0, x2), (0, x3), (3, (1 : Int)), (3, (2 + (m : Int))), (2, (0 : Int)), (0, v7), (9, 0), (9, 0), (9, 0), (9, 0), (9, 0), (9, 0), (9, 0), (9, 0), (9, 0)]) K ⟨.inr rfl, .inr rfl, .inr rfl, .inr rfl, .inr rfl, .inr rfl, .inr rfl, .inr rfl, .inl rfl, .inl rfl, .inl rfl, .inl rfl, .inl rfl, .inl rfl, .inl rfl, .inl rfl, .inl rfl, trivial⟩
set_option maxHeartbeats 4000000 in
set_option maxRecDepth 20000 in
theorem e_L_law_90 (m n N : Nat) (xs : Nat → Int32) (hmn : m ≤ 10 ∧ n ≤ 4) (hN : (N : Int) ≤ 2147483647) (σ : M2) (x2 x3 x7 : Int)  {q : (Int × M2)} (h : f_L_law_90 m n N xs σ x2 x3 x7 = some q) : El (xsh m n) (M_L_law N xs) (false, false) (0, 0) (181, nX m n) (some (0, q.1), lm m n q.2) 90 (lm m n σ) [(3, (200000 : Int)), (3, (0 : Int)), (0, x2), (0, x3), (3, (1 : Int)), (3, (2 + (m : Int))), (2, (0 : Int)), (0, x7), (9, 0), (9, 0), (9, 0), (9, 0), (9, 0), (9, 0), (9, 0), (9, 0), (9, 0)] [] := by
  unfold f_L_law_90 at h
  obtain ⟨e, hl, h⟩ := bind_of h
  refine loop_ev (K := K_L_law_90 m n N xs x2 x3 (some (0, q.1), lm m n q.2)) (b_L_law_90 m n N xs hmn hN x2 x3) FU (x7, σ) e hl ?_
  show El (xsh m n) (M_L_law N xs) (false, false) (0, 0) (181, nX m n) _ 121 (lm m n e) [(3, (200000 : Int)), (3, (0 : Int)), (0, x2), (0, x3), (3, (1 : Int)), (3, (2 + (m : Int))), (2, (0 : Int)), (9, 0), (9, 0), (9, 0), (9, 0), (9, 0), (9, 0), (9, 0), (9, 0), (9, 0), (9, 0)] []
  replace h : f_L_law_121 m n N xs e x2 x3 = some q := h
  exact el_sub (L2 := [(3, (200000 : Int)), (3, (0 : Int)), (0, x2), (0, x3), (3, (1 : Int)), (3, (2 + (m : Int))), (2, (0 : Int)), (9, 0), (9, 0), (9, 0), (9, 0), (9, 0), (9, 0), (9, 0), (9, 0), (9, 0), (9, 0)]) (e_L_law_121 m n N xs hmn hN e x2 x3 h) ⟨.inr rfl, .inr rfl, .inr rfl, .inr rfl, .inr rfl, .inr rfl, .inr rfl, .inl rfl, .inl rfl, .inl rfl, .inl rfl, .inl rfl, .inl rfl, .inl rfl, .inl rfl, .inl rfl, .inl rfl, trivial⟩
set_option maxHeartbeats 4000000 in
set_option maxRecDepth 20000 in
theorem e_L_law (m n N : Nat) (xs : Nat → Int32) (hmn : m ≤ 10 ∧ n ≤ 4) (hN : (N : Int) ≤ 2147483647) (σ : M2) {q : Int × M2} (h : f_L_law m n N xs σ = some q) : El (xsh m n) (M_L_law N xs) (false, false) (0, 0) (181, nX m n) (some (0, q.1), lm m n q.2) 69 (lm m n σ) [(3, (200000 : Int)), (3, (0 : Int)), (0, (n : Int)), (0, (m : Int)), (3, (1 : Int)), (3, (2 + (m : Int))), (2, (0 : Int)), (9, 0), (9, 0), (9, 0), (9, 0), (9, 0), (9, 0), (9, 0), (9, 0), (9, 0), (9, 0)] [] := by
  unfold f_L_law at h
  refine el_aload dL_law_69 rfl (by decide) ?_
  refine el_aloadS dL_law_71 rfl ?_
  refine el_bipush dL_law_72 (by decide) (by decide) ?_
  refine el_aloadS dL_law_74 rfl ?_
  refine el_aloadS2 dL_law_75 rfl ?_
  refine el_aloadS2 dL_law_77 rfl ?_
  obtain ⟨v1, hc2, h⟩ := bind_of h
  refine el_call (av := [(2, (0 : Int)), (3, (200000 : Int)), (0, (110 : Int)), (3, (0 : Int)), (3, (1 : Int)), (3, (2 + (m : Int)))]) (st := []) (z2 := (181, nX m n)) (r2 := (some (0, v1.1), lm m n v1.2)) dL_law_79 rfl ml_L_95 mt_L_tell rfl ⟨Nat.le_of_ble_eq_true rfl, Nat.le_of_ble_eq_true rfl⟩ (Nat.le_of_ble_eq_true rfl) (c_L_tell hmn hN  hc2) ⟨Nat.le_refl _, Nat.le_refl _, Nat.le_refl _, Nat.le_refl _⟩ ⟨rfl, rfl⟩ (Or.inl rfl) (fun z => by cases z) ?_
  show El _ _ _ _ _ _ 82 (lm m n v1.2) _ ((0, v1.1) :: [])
  refine el_if_ne (tgt := 87) dL_law_82 rfl h (fun cb h => ?_) (fun cb h => ?_)
  · refine el_iconst dL_law_87 (by decide) ?_
    refine el_istore dL_law_88 rfl (Nat.le_of_ble_eq_true rfl) ?_
    show El _ _ _ _ _ _ 90 _ [(3, (200000 : Int)), (3, (0 : Int)), (0, (n : Int)), (0, (m : Int)), (3, (1 : Int)), (3, (2 + (m : Int))), (2, (0 : Int)), (0, (0 : Int)), (9, 0), (9, 0), (9, 0), (9, 0), (9, 0), (9, 0), (9, 0), (9, 0), (9, 0)] _
    exact el_sub (L2 := [(3, (200000 : Int)), (3, (0 : Int)), (0, (n : Int)), (0, (m : Int)), (3, (1 : Int)), (3, (2 + (m : Int))), (2, (0 : Int)), (0, (0 : Int)), (9, 0), (9, 0), (9, 0), (9, 0), (9, 0), (9, 0), (9, 0), (9, 0), (9, 0)]) (e_L_law_90 m n N xs hmn hN v1.2 (n : Int) (m : Int) (0 : Int) h) ⟨.inr rfl, .inr rfl, .inr rfl, .inr rfl, .inr rfl, .inr rfl, .inr rfl, .inr rfl, .inl rfl, .inl rfl, .inl rfl, .inl rfl, .inl rfl, .inl rfl, .inl rfl, .inl rfl, .inl rfl, trivial⟩
  refine el_iconst dL_law_85 (by decide) ?_
  obtain rfl := Option.some.inj h
  exact el_zret dL_law_86 rfl (fun z => by cases z) ⟨rfl, rfl⟩ (chk_pos (.inl rfl))
