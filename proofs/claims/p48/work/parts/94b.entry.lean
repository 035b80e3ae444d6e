/-! FROM THE ENTRY: the prologue, the machine at the law's start (by mkentry.py) -/
def sg0 : Mem := sc_X10_init_1 (fun _ _ => 0)
set_option maxRecDepth 20000 in
theorem rho_made : rc_X10_init_1 (fun _ _ => -1) = rho := rfl
/-- how many papers, how many candidates -/
def nM (N : Nat) (xs : Nat → Int32) : Nat := (pkv N xs 3 11).toNat
def nN (N : Nat) (xs : Nat → Int32) : Nat := (pkv N xs 2 5).toNat
theorem nM_is {N : Nat} {xs : Nat → Int32} : pkv N xs 3 11 = ((nM N xs : Nat) : Int) := by
  have := pk_b (N := N) (xs := xs) (i := 3) (k := 11) (by decide) ⟨by decide, by decide⟩
  unfold nM
  omega
theorem nN_is {N : Nat} {xs : Nat → Int32} : pkv N xs 2 5 = ((nN N xs : Nat) : Int) := by
  have := pk_b (N := N) (xs := xs) (i := 2) (k := 5) (by decide) ⟨by decide, by decide⟩
  unfold nN
  omega
theorem nMN {N : Nat} {xs : Nat → Int32} : nM N xs ≤ 10 ∧ nN N xs ≤ 4 := by
  have h1 := pk_b (N := N) (xs := xs) (i := 3) (k := 11) (by decide) ⟨by decide, by decide⟩
  have h2 := pk_b (N := N) (xs := xs) (i := 2) (k := 5) (by decide) ⟨by decide, by decide⟩
  unfold nM nN
  omega
theorem xiP_0 {N : Nat} {xs : Nat → Int32} : mup (mup (fun _ _ => 0) 0 0 (8 + pkv N xs 0 33)) 0 1 (pkv N xs 1 9) = xiP N xs 0 := by
  funext x j
  unfold xiP mup
  by_cases e : x = 0
  · rw [if_pos e]
    by_cases j1 : j = 1
    · rw [if_pos ⟨e, j1⟩, if_neg (by omega), if_pos j1]
    · rw [if_neg (fun z => j1 z.2)]
      by_cases j0 : j = 0
      · rw [if_pos ⟨e, j0⟩, if_pos j0]
      · rw [if_neg (fun z => j0 z.2), if_neg j0, if_neg j1]
  · rw [if_neg (fun z => e z.1), if_neg (fun z => e z.1), if_neg e, if_neg (by omega)]
set_option maxHeartbeats 4000000 in
set_option maxRecDepth 20000 in
theorem e_L_start {m n N : Nat} {xs : Nat → Int32} (hm : m = nM N xs) (hn : n = nN N xs) (hN : (N : Int) ≤ 2147483647) {q : Int × M2} (h : f_L_law m n N xs (sg0, xiQ N xs m n) = some q) : El (xsh m n) (M_L_law N xs) (false, true) (0, 0) (181, nX m n) (some (0, q.1), lm m n q.2) 0 (0, (fun _ _ => -1), (fun _ _ => 0), 0, (fun _ _ => -1), fun _ _ => 0) [(3, (200000 : Int)), (9, 0), (9, 0), (9, 0), (9, 0), (9, 0), (9, 0), (9, 0), (9, 0), (9, 0), (9, 0), (9, 0), (9, 0), (9, 0), (9, 0), (9, 0), (9, 0)] [] := by
  have hmn : m ≤ 10 ∧ n ≤ 4 := by rw [hm, hn]; exact nMN
  have eM : pkv N xs (3 : Int) (11 : Int) = ((m : Nat) : Int) := by rw [hm]; exact nM_is
  have eN : pkv N xs (2 : Int) (5 : Int) = ((n : Nat) : Int) := by rw [hn]; exact nN_is
  refine el_iconst dL_law_0 (by decide) ?_
  refine el_newi (N := 2) dL_law_1 wyint (show xsh m n 0 = (0, 2) from rfl) (by decide) rfl (by show 0 < nX m n; unfold nX; omega) ?_
  show El _ _ _ _ _ _ 3 (0, (fun _ _ => -1), (fun _ _ => 0), 1, (fun _ _ => -1), fun _ _ => 0) [(3, (200000 : Int)), (9, 0), (9, 0), (9, 0), (9, 0), (9, 0), (9, 0), (9, 0), (9, 0), (9, 0), (9, 0), (9, 0), (9, 0), (9, 0), (9, 0), (9, 0), (9, 0)] [(3, (0 : Int))]
  refine el_dup dL_law_3 (show (3 : Nat) ≠ 1 by decide) ?_
  refine el_iconst dL_law_4 (by decide) ?_
  show El _ _ _ _ _ _ 5 (0, (fun _ _ => -1), (fun _ _ => 0), 1, (fun _ _ => -1), fun _ _ => 0) [(3, (200000 : Int)), (9, 0), (9, 0), (9, 0), (9, 0), (9, 0), (9, 0), (9, 0), (9, 0), (9, 0), (9, 0), (9, 0), (9, 0), (9, 0), (9, 0), (9, 0), (9, 0)] [(0, (0 : Int)), (3, (0 : Int)), (3, (0 : Int))]
  refine el_bipush dL_law_5 (by decide) (by decide) ?_
  show El _ _ _ _ _ _ 7 (0, (fun _ _ => -1), (fun _ _ => 0), 1, (fun _ _ => -1), fun _ _ => 0) [(3, (200000 : Int)), (9, 0), (9, 0), (9, 0), (9, 0), (9, 0), (9, 0), (9, 0), (9, 0), (9, 0), (9, 0), (9, 0), (9, 0), (9, 0), (9, 0), (9, 0), (9, 0)] [(0, (8 : Int)), (0, (0 : Int)), (3, (0 : Int)), (3, (0 : Int))]
  refine el_aloadS dL_law_7 rfl ?_
  refine el_iconst dL_law_8 (by decide) ?_
  show El _ _ _ _ _ _ 9 (0, (fun _ _ => -1), (fun _ _ => 0), 1, (fun _ _ => -1), fun _ _ => 0) [(3, (200000 : Int)), (9, 0), (9, 0), (9, 0), (9, 0), (9, 0), (9, 0), (9, 0), (9, 0), (9, 0), (9, 0), (9, 0), (9, 0), (9, 0), (9, 0), (9, 0), (9, 0)] [(0, (0 : Int)), (3, (200000 : Int)), (0, (8 : Int)), (0, (0 : Int)), (3, (0 : Int)), (3, (0 : Int))]
  refine el_bipush dL_law_9 (by decide) (by decide) ?_
  show El _ _ _ _ _ _ 11 (0, (fun _ _ => -1), (fun _ _ => 0), 1, (fun _ _ => -1), fun _ _ => 0) [(3, (200000 : Int)), (9, 0), (9, 0), (9, 0), (9, 0), (9, 0), (9, 0), (9, 0), (9, 0), (9, 0), (9, 0), (9, 0), (9, 0), (9, 0), (9, 0), (9, 0), (9, 0)] [(0, (33 : Int)), (0, (0 : Int)), (3, (200000 : Int)), (0, (8 : Int)), (0, (0 : Int)), (3, (0 : Int)), (3, (0 : Int))]
  refine el_call (av := [(3, (200000 : Int)), (0, (0 : Int)), (0, (33 : Int))]) (st := [(0, (8 : Int)), (0, (0 : Int)), (3, (0 : Int)), (3, (0 : Int))]) (z2 := (0, 1)) (r2 := (some (0, (pkv N xs (0 : Int) (33 : Int))), (0, (fun _ _ => -1), (fun _ _ => 0), 1, (fun _ _ => -1), fun _ _ => 0))) dL_law_11 rfl ml_L_17 mt_L_pick rfl ⟨Nat.le_of_ble_eq_true rfl, Nat.le_of_ble_eq_true rfl⟩ (Nat.le_of_ble_eq_true rfl) (c_L_pick hN (pk_is (by decide) (by decide))) ⟨Nat.le_refl _, Nat.zero_le _, Nat.le_refl _, by unfold nX; omega⟩ ⟨rfl, rfl⟩ (Or.inl rfl) (fun _ => rfl) ?_
  show El _ _ _ _ _ _ 14 (0, (fun _ _ => -1), (fun _ _ => 0), 1, (fun _ _ => -1), fun _ _ => 0) [(3, (200000 : Int)), (9, 0), (9, 0), (9, 0), (9, 0), (9, 0), (9, 0), (9, 0), (9, 0), (9, 0), (9, 0), (9, 0), (9, 0), (9, 0), (9, 0), (9, 0), (9, 0)] [(0, (pkv N xs (0 : Int) (33 : Int))), (0, (8 : Int)), (0, (0 : Int)), (3, (0 : Int)), (3, (0 : Int))]
  refine el_iadd dL_law_14 ?_
  rw [show jadd (8 : Int) (pkv N xs (0 : Int) (33 : Int)) = (8 + pkv N xs 0 33) from by have := pk_b (N := N) (xs := xs) (i := 0) (k := 33) (by decide) ⟨by decide, by decide⟩; exact jadd_ok (by omega) (by omega)]
  refine el_xast (X := some ()) (q := ()) dL_law_15 xs_g x0_g (by decide) (chk_u ⟨by decide, by decide⟩) (fun _ => ?_)
  show El _ _ _ _ _ _ 16 (0, (fun _ _ => -1), (fun _ _ => 0), 1, (fun _ _ => -1), mup (fun _ _ => 0) (0 : Int) (0 : Int) (8 + pkv N xs 0 33)) [(3, (200000 : Int)), (9, 0), (9, 0), (9, 0), (9, 0), (9, 0), (9, 0), (9, 0), (9, 0), (9, 0), (9, 0), (9, 0), (9, 0), (9, 0), (9, 0), (9, 0), (9, 0)] [(3, (0 : Int))]
  refine el_dup dL_law_16 (show (3 : Nat) ≠ 1 by decide) ?_
  refine el_iconst dL_law_17 (by decide) ?_
  show El _ _ _ _ _ _ 18 (0, (fun _ _ => -1), (fun _ _ => 0), 1, (fun _ _ => -1), mup (fun _ _ => 0) (0 : Int) (0 : Int) (8 + pkv N xs 0 33)) [(3, (200000 : Int)), (9, 0), (9, 0), (9, 0), (9, 0), (9, 0), (9, 0), (9, 0), (9, 0), (9, 0), (9, 0), (9, 0), (9, 0), (9, 0), (9, 0), (9, 0), (9, 0)] [(0, (1 : Int)), (3, (0 : Int)), (3, (0 : Int))]
  refine el_aloadS dL_law_18 rfl ?_
  refine el_iconst dL_law_19 (by decide) ?_
  show El _ _ _ _ _ _ 20 (0, (fun _ _ => -1), (fun _ _ => 0), 1, (fun _ _ => -1), mup (fun _ _ => 0) (0 : Int) (0 : Int) (8 + pkv N xs 0 33)) [(3, (200000 : Int)), (9, 0), (9, 0), (9, 0), (9, 0), (9, 0), (9, 0), (9, 0), (9, 0), (9, 0), (9, 0), (9, 0), (9, 0), (9, 0), (9, 0), (9, 0), (9, 0)] [(0, (1 : Int)), (3, (200000 : Int)), (0, (1 : Int)), (3, (0 : Int)), (3, (0 : Int))]
  refine el_bipush dL_law_20 (by decide) (by decide) ?_
  show El _ _ _ _ _ _ 22 (0, (fun _ _ => -1), (fun _ _ => 0), 1, (fun _ _ => -1), mup (fun _ _ => 0) (0 : Int) (0 : Int) (8 + pkv N xs 0 33)) [(3, (200000 : Int)), (9, 0), (9, 0), (9, 0), (9, 0), (9, 0), (9, 0), (9, 0), (9, 0), (9, 0), (9, 0), (9, 0), (9, 0), (9, 0), (9, 0), (9, 0), (9, 0)] [(0, (9 : Int)), (0, (1 : Int)), (3, (200000 : Int)), (0, (1 : Int)), (3, (0 : Int)), (3, (0 : Int))]
  refine el_call (av := [(3, (200000 : Int)), (0, (1 : Int)), (0, (9 : Int))]) (st := [(0, (1 : Int)), (3, (0 : Int)), (3, (0 : Int))]) (z2 := (0, 1)) (r2 := (some (0, (pkv N xs (1 : Int) (9 : Int))), (0, (fun _ _ => -1), (fun _ _ => 0), 1, (fun _ _ => -1), mup (fun _ _ => 0) (0 : Int) (0 : Int) (8 + pkv N xs 0 33)))) dL_law_22 rfl ml_L_17 mt_L_pick rfl ⟨Nat.le_of_ble_eq_true rfl, Nat.le_of_ble_eq_true rfl⟩ (Nat.le_of_ble_eq_true rfl) (c_L_pick hN (pk_is (by decide) (by decide))) ⟨Nat.le_refl _, Nat.zero_le _, Nat.le_refl _, by unfold nX; omega⟩ ⟨rfl, rfl⟩ (Or.inl rfl) (fun _ => rfl) ?_
  show El _ _ _ _ _ _ 25 (0, (fun _ _ => -1), (fun _ _ => 0), 1, (fun _ _ => -1), mup (fun _ _ => 0) (0 : Int) (0 : Int) (8 + pkv N xs 0 33)) [(3, (200000 : Int)), (9, 0), (9, 0), (9, 0), (9, 0), (9, 0), (9, 0), (9, 0), (9, 0), (9, 0), (9, 0), (9, 0), (9, 0), (9, 0), (9, 0), (9, 0), (9, 0)] [(0, (pkv N xs (1 : Int) (9 : Int))), (0, (1 : Int)), (3, (0 : Int)), (3, (0 : Int))]
  refine el_xast (X := some ()) (q := ()) dL_law_25 xs_g x0_g (by decide) (chk_u ⟨by decide, by decide⟩) (fun _ => ?_)
  show El _ _ _ _ _ _ 26 (0, (fun _ _ => -1), (fun _ _ => 0), 1, (fun _ _ => -1), mup (mup (fun _ _ => 0) (0 : Int) (0 : Int) (8 + pkv N xs 0 33)) (0 : Int) (1 : Int) (pkv N xs (1 : Int) (9 : Int))) [(3, (200000 : Int)), (9, 0), (9, 0), (9, 0), (9, 0), (9, 0), (9, 0), (9, 0), (9, 0), (9, 0), (9, 0), (9, 0), (9, 0), (9, 0), (9, 0), (9, 0), (9, 0)] [(3, (0 : Int))]
  rw [show mup (mup (fun _ _ => 0) (0 : Int) (0 : Int) (8 + pkv N xs 0 33)) (0 : Int) (1 : Int) (pkv N xs (1 : Int) (9 : Int)) = xiP N xs 0 from xiP_0]
  refine el_astoreS_n dL_law_26 rfl (Nat.le_of_ble_eq_true rfl) ?_
  show El _ _ _ _ _ _ 27 (0, (fun _ _ => -1), (fun _ _ => 0), 1, (fun _ _ => -1), xiP N xs 0) [(3, (200000 : Int)), (3, (0 : Int)), (9, 0), (9, 0), (9, 0), (9, 0), (9, 0), (9, 0), (9, 0), (9, 0), (9, 0), (9, 0), (9, 0), (9, 0), (9, 0), (9, 0), (9, 0)] []
  refine el_aloadS dL_law_27 rfl ?_
  refine el_iconst dL_law_28 (by decide) ?_
  show El _ _ _ _ _ _ 29 (0, (fun _ _ => -1), (fun _ _ => 0), 1, (fun _ _ => -1), xiP N xs 0) [(3, (200000 : Int)), (3, (0 : Int)), (9, 0), (9, 0), (9, 0), (9, 0), (9, 0), (9, 0), (9, 0), (9, 0), (9, 0), (9, 0), (9, 0), (9, 0), (9, 0), (9, 0), (9, 0)] [(0, (2 : Int)), (3, (200000 : Int))]
  refine el_iconst dL_law_29 (by decide) ?_
  show El _ _ _ _ _ _ 30 (0, (fun _ _ => -1), (fun _ _ => 0), 1, (fun _ _ => -1), xiP N xs 0) [(3, (200000 : Int)), (3, (0 : Int)), (9, 0), (9, 0), (9, 0), (9, 0), (9, 0), (9, 0), (9, 0), (9, 0), (9, 0), (9, 0), (9, 0), (9, 0), (9, 0), (9, 0), (9, 0)] [(0, (5 : Int)), (0, (2 : Int)), (3, (200000 : Int))]
  refine el_call (av := [(3, (200000 : Int)), (0, (2 : Int)), (0, (5 : Int))]) (st := []) (z2 := (0, 1)) (r2 := (some (0, (pkv N xs (2 : Int) (5 : Int))), (0, (fun _ _ => -1), (fun _ _ => 0), 1, (fun _ _ => -1), xiP N xs 0))) dL_law_30 rfl ml_L_17 mt_L_pick rfl ⟨Nat.le_of_ble_eq_true rfl, Nat.le_of_ble_eq_true rfl⟩ (Nat.le_of_ble_eq_true rfl) (c_L_pick hN (pk_is (by decide) (by decide))) ⟨Nat.le_refl _, Nat.zero_le _, Nat.le_refl _, by unfold nX; omega⟩ ⟨rfl, rfl⟩ (Or.inl rfl) (fun _ => rfl) ?_
  show El _ _ _ _ _ _ 33 (0, (fun _ _ => -1), (fun _ _ => 0), 1, (fun _ _ => -1), xiP N xs 0) [(3, (200000 : Int)), (3, (0 : Int)), (9, 0), (9, 0), (9, 0), (9, 0), (9, 0), (9, 0), (9, 0), (9, 0), (9, 0), (9, 0), (9, 0), (9, 0), (9, 0), (9, 0), (9, 0)] [(0, (pkv N xs (2 : Int) (5 : Int)))]
  rw [eN]
  refine el_istore_n dL_law_33 rfl (Nat.le_of_ble_eq_true rfl) ?_
  show El _ _ _ _ _ _ 34 (0, (fun _ _ => -1), (fun _ _ => 0), 1, (fun _ _ => -1), xiP N xs 0) [(3, (200000 : Int)), (3, (0 : Int)), (0, (n : Int)), (9, 0), (9, 0), (9, 0), (9, 0), (9, 0), (9, 0), (9, 0), (9, 0), (9, 0), (9, 0), (9, 0), (9, 0), (9, 0), (9, 0)] []
  refine el_aloadS dL_law_34 rfl ?_
  refine el_iconst dL_law_35 (by decide) ?_
  show El _ _ _ _ _ _ 36 (0, (fun _ _ => -1), (fun _ _ => 0), 1, (fun _ _ => -1), xiP N xs 0) [(3, (200000 : Int)), (3, (0 : Int)), (0, (n : Int)), (9, 0), (9, 0), (9, 0), (9, 0), (9, 0), (9, 0), (9, 0), (9, 0), (9, 0), (9, 0), (9, 0), (9, 0), (9, 0), (9, 0)] [(0, (3 : Int)), (3, (200000 : Int))]
  refine el_bipush dL_law_36 (by decide) (by decide) ?_
  show El _ _ _ _ _ _ 38 (0, (fun _ _ => -1), (fun _ _ => 0), 1, (fun _ _ => -1), xiP N xs 0) [(3, (200000 : Int)), (3, (0 : Int)), (0, (n : Int)), (9, 0), (9, 0), (9, 0), (9, 0), (9, 0), (9, 0), (9, 0), (9, 0), (9, 0), (9, 0), (9, 0), (9, 0), (9, 0), (9, 0)] [(0, (11 : Int)), (0, (3 : Int)), (3, (200000 : Int))]
  refine el_call (av := [(3, (200000 : Int)), (0, (3 : Int)), (0, (11 : Int))]) (st := []) (z2 := (0, 1)) (r2 := (some (0, (pkv N xs (3 : Int) (11 : Int))), (0, (fun _ _ => -1), (fun _ _ => 0), 1, (fun _ _ => -1), xiP N xs 0))) dL_law_38 rfl ml_L_17 mt_L_pick rfl ⟨Nat.le_of_ble_eq_true rfl, Nat.le_of_ble_eq_true rfl⟩ (Nat.le_of_ble_eq_true rfl) (c_L_pick hN (pk_is (by decide) (by decide))) ⟨Nat.le_refl _, Nat.zero_le _, Nat.le_refl _, by unfold nX; omega⟩ ⟨rfl, rfl⟩ (Or.inl rfl) (fun _ => rfl) ?_
  show El _ _ _ _ _ _ 41 (0, (fun _ _ => -1), (fun _ _ => 0), 1, (fun _ _ => -1), xiP N xs 0) [(3, (200000 : Int)), (3, (0 : Int)), (0, (n : Int)), (9, 0), (9, 0), (9, 0), (9, 0), (9, 0), (9, 0), (9, 0), (9, 0), (9, 0), (9, 0), (9, 0), (9, 0), (9, 0), (9, 0)] [(0, (pkv N xs (3 : Int) (11 : Int)))]
  rw [eM]
  refine el_istore_n dL_law_41 rfl (Nat.le_of_ble_eq_true rfl) ?_
  show El _ _ _ _ _ _ 42 (0, (fun _ _ => -1), (fun _ _ => 0), 1, (fun _ _ => -1), xiP N xs 0) [(3, (200000 : Int)), (3, (0 : Int)), (0, (n : Int)), (0, (m : Int)), (9, 0), (9, 0), (9, 0), (9, 0), (9, 0), (9, 0), (9, 0), (9, 0), (9, 0), (9, 0), (9, 0), (9, 0), (9, 0)] []
  refine el_aloadS dL_law_42 rfl ?_
  refine el_bipush dL_law_43 (by decide) (by decide) ?_
  show El _ _ _ _ _ _ 45 (0, (fun _ _ => -1), (fun _ _ => 0), 1, (fun _ _ => -1), xiP N xs 0) [(3, (200000 : Int)), (3, (0 : Int)), (0, (n : Int)), (0, (m : Int)), (9, 0), (9, 0), (9, 0), (9, 0), (9, 0), (9, 0), (9, 0), (9, 0), (9, 0), (9, 0), (9, 0), (9, 0), (9, 0)] [(0, (10 : Int)), (3, (200000 : Int))]
  refine el_iload_n dL_law_45 rfl ?_
  refine el_call (av := [(3, (200000 : Int)), (0, (10 : Int)), (0, (m : Int))]) (st := []) (z2 := (0, 2 + m)) (r2 := (some (3, (1 : Int)), (0, (fun _ _ => -1), (fun _ _ => 0), 2 + m, etP m, xiP N xs m))) dL_law_46 rfl ml_L_87 mt_L_papers rfl ⟨Nat.le_of_ble_eq_true rfl, Nat.le_of_ble_eq_true rfl⟩ (Nat.le_of_ble_eq_true rfl) (c_L_papers hmn hN) ⟨Nat.le_refl _, Nat.zero_le _, by show 1 ≤ 2 + m; omega, by show 2 + m ≤ nX m n; unfold nX; omega⟩ ⟨rfl, rfl⟩ (Or.inr ⟨rfl, rfl⟩) (fun _ => rfl) ?_
  show El _ _ _ _ _ _ 49 (0, (fun _ _ => -1), (fun _ _ => 0), 2 + m, etP m, xiP N xs m) [(3, (200000 : Int)), (3, (0 : Int)), (0, (n : Int)), (0, (m : Int)), (9, 0), (9, 0), (9, 0), (9, 0), (9, 0), (9, 0), (9, 0), (9, 0), (9, 0), (9, 0), (9, 0), (9, 0), (9, 0)] [(3, (1 : Int))]
  refine el_astoreS dL_law_49 rfl (Nat.le_of_ble_eq_true rfl) ?_
  show El _ _ _ _ _ _ 51 (0, (fun _ _ => -1), (fun _ _ => 0), 2 + m, etP m, xiP N xs m) [(3, (200000 : Int)), (3, (0 : Int)), (0, (n : Int)), (0, (m : Int)), (3, (1 : Int)), (9, 0), (9, 0), (9, 0), (9, 0), (9, 0), (9, 0), (9, 0), (9, 0), (9, 0), (9, 0), (9, 0), (9, 0)] []
  refine el_aloadS dL_law_51 rfl ?_
  refine el_bipush dL_law_52 (by decide) (by decide) ?_
  show El _ _ _ _ _ _ 54 (0, (fun _ _ => -1), (fun _ _ => 0), 2 + m, etP m, xiP N xs m) [(3, (200000 : Int)), (3, (0 : Int)), (0, (n : Int)), (0, (m : Int)), (3, (1 : Int)), (9, 0), (9, 0), (9, 0), (9, 0), (9, 0), (9, 0), (9, 0), (9, 0), (9, 0), (9, 0), (9, 0), (9, 0)] [(0, (70 : Int)), (3, (200000 : Int))]
  refine el_iload_n dL_law_54 rfl ?_
  refine el_call (av := [(3, (200000 : Int)), (0, (70 : Int)), (0, (n : Int))]) (st := []) (z2 := (0, 3 + m + n)) (r2 := (some (3, 2 + (m : Int)), (0, (fun _ _ => -1), (fun _ _ => 0), 3 + m + n, etQ m n, xiQ N xs m n))) dL_law_55 rfl ml_L_91 mt_L_cands rfl ⟨Nat.le_of_ble_eq_true rfl, Nat.le_of_ble_eq_true rfl⟩ (Nat.le_of_ble_eq_true rfl) (c_L_cands hmn hN) ⟨Nat.le_refl _, Nat.zero_le _, by show 2 + m ≤ 3 + m + n; omega, by show 3 + m + n ≤ nX m n; unfold nX; omega⟩ ⟨rfl, rfl⟩ (Or.inr ⟨rfl, rfl⟩) (fun _ => rfl) ?_
  show El _ _ _ _ _ _ 58 (0, (fun _ _ => -1), (fun _ _ => 0), 3 + m + n, etQ m n, xiQ N xs m n) [(3, (200000 : Int)), (3, (0 : Int)), (0, (n : Int)), (0, (m : Int)), (3, (1 : Int)), (9, 0), (9, 0), (9, 0), (9, 0), (9, 0), (9, 0), (9, 0), (9, 0), (9, 0), (9, 0), (9, 0), (9, 0)] [(3, 2 + (m : Int))]
  refine el_astoreS dL_law_58 rfl (Nat.le_of_ble_eq_true rfl) ?_
  show El _ _ _ _ _ _ 60 (0, (fun _ _ => -1), (fun _ _ => 0), 3 + m + n, etQ m n, xiQ N xs m n) [(3, (200000 : Int)), (3, (0 : Int)), (0, (n : Int)), (0, (m : Int)), (3, (1 : Int)), (3, 2 + (m : Int)), (9, 0), (9, 0), (9, 0), (9, 0), (9, 0), (9, 0), (9, 0), (9, 0), (9, 0), (9, 0), (9, 0)] []
  refine el_loose ?_
  refine el_new dL_law_60 cf_X10 wk_L_22 wi_X10 wz_X10 sp0 (Nat.le_of_ble_eq_true rfl) ?_
  show El _ _ _ _ _ _ 63 (1, (fun _ _ => -1), (fun _ _ => 0), 3 + m + n, etQ m n, xiQ N xs m n) [(3, (200000 : Int)), (3, (0 : Int)), (0, (n : Int)), (0, (m : Int)), (3, (1 : Int)), (3, 2 + (m : Int)), (9, 0), (9, 0), (9, 0), (9, 0), (9, 0), (9, 0), (9, 0), (9, 0), (9, 0), (9, 0), (9, 0)] [(2, (0 : Int))]
  refine el_dup dL_law_63 (show (2 : Nat) ≠ 1 by decide) ?_
  refine el_invI (k := 0) (av := []) (st := [(2, (0 : Int))]) dL_law_64 ml_L_94 mi_X10_init rfl (by decide) rfl rfl ⟨Nat.le_of_ble_eq_true rfl, Nat.le_of_ble_eq_true rfl⟩ (Nat.le_of_ble_eq_true rfl) (c_X10_init_1 _ _) ⟨Nat.le_of_ble_eq_true rfl, Nat.le_refl _⟩ ?_
  show El _ _ _ _ _ _ 67 (181, rc_X10_init_1 (fun _ _ => -1), sc_X10_init_1 (fun _ _ => 0), 3 + m + n, etQ m n, xiQ N xs m n) [(3, (200000 : Int)), (3, (0 : Int)), (0, (n : Int)), (0, (m : Int)), (3, (1 : Int)), (3, 2 + (m : Int)), (9, 0), (9, 0), (9, 0), (9, 0), (9, 0), (9, 0), (9, 0), (9, 0), (9, 0), (9, 0), (9, 0)] [(2, (0 : Int))]
  rw [rho_made]
  refine el_astore dL_law_67 rfl (Nat.le_of_ble_eq_true rfl) (by decide) ?_
  exact e_L_law m n N xs hmn hN (sg0, xiQ N xs m n) h
theorem sbn_forget {s t : State} {L : List Loc} {k n k2 n2 : Nat} (h : s.sameButNew t L k n) (hL : ∀ q ∈ L, s.heap.size ≤ q.base) (h1 : k ≤ k2) (h2 : n ≤ n2) : s.sameButNew t [] k2 n2 := by
  obtain ⟨g1, g2, g3, g4, g5, g6⟩ := h
  refine ⟨g1, g2, by omega, g4, by omega, fun a c hc => ?_⟩
  obtain ⟨c', e1, e2, e3, e4⟩ := g6 a c hc
  refine ⟨c', e1, e2, e3, fun i _ => e4 i fun hm => ?_⟩
  have h3 := hL _ hm
  have h4 : a < s.heap.size := (Array.getElem?_eq_some_iff.mp hc).1
  exact absurd h4 (Nat.not_lt.mpr h3)
theorem inN {c : Cond} (h : c ∈ flatC (Jvm.Cond.and given_1 narrow_1)) {args : Array Value} {s : State} (hg : (Jvm.Cond.and given_1 narrow_1).before args s = true) : c.before args s = true := flat_of_before _ hg _ h
theorem prim_at {args : Array Value} {s : State} (ty : FieldType) (hty : ty = .int ∨ ty = .long ∨ ty = .boolean ∨ ty = .char) (h : (Cond.arrayClass ty).before args s = true) : ∃ cA : ClassId, ArrOfT s cA ty ∧ va_RA s cA ty := by
  obtain ⟨c, k, comp, h1, h2, h3⟩ := Cond.arrayClass_spec h
  refine ⟨c, fun n z => ⟨(fun k h => by cases h), k, h2, comp, h3⟩, ?_⟩
  rcases hty with q | q | q | q <;> subst q <;> exact h1
theorem wkA_at {args : Array Value} {s : State} (h : (Cond.arrayOver (.object "ClashDays$Week")).before args s = true) : ∃ cA : ClassId, ArrOfT s cA (.object "ClashDays$Week") ∧ va_RA s cA (.object "ClashDays$Week") := by
  obtain ⟨comp, c, k, h1, h2, h3, h4, h5⟩ := Cond.arrayOver_spec h
  exact ⟨c, fun n z => ⟨(fun k h => by cases h), k, h3, comp, h4⟩, k, comp, h3, h4, h1, h5⟩
theorem arrA_at {args : Array Value} {s : State} (h : (Cond.arrayOver (.array .int)).before args s = true) : ∃ cA : ClassId, ArrOfT s cA (.array .int) ∧ va_RA s cA (.array .int) := by
  obtain ⟨comp, c, k, h1, h2, h3, h4, h5⟩ := arrayOverA_spec h
  exact ⟨c, fun n z => ⟨(fun k h => by cases h), k, h3, comp, h4⟩, h5⟩
def pick {α : Type} (d : α) (l : List α) (k : Nat) : α := l.getD k d
/-! THE CLAIM OUT OF ONE WALK OF THE LAW'S BODY. Your part is whole_start (and what it stands on); all else here is the same for every law, but numbers. -/
def R_law : String := "ClashDaysLaw"
def lw_P (b : Addr) (xs : List Int32) (args : Array Value) (s : State) : Prop := args = #[.ref b] ∧ s.IntsAt b xs ∧ xs.length ≤ 260 ∧ (Jvm.Cond.and given_1 narrow_1).before args s = true
def lw_Q (_ : Array Value) (s : State) (o : Outcome) (t : State) : Prop := o = .returned (some (.int 1)) ∧ Framed s o t [] 600000 7302250
def lw_Z (below : List Frame) (a : Array Value) (s : State) : State → Prop := fun t => ∃ o, t.status = .running ∧ Ended t below o ∧ lw_Q a s o t
/-- the law's own end, with 1 on the stack, nothing written that was there before, its room as the claim has it -/
theorem lw_ret {p : Program} {l : Launch} {e : Env} {s : State} {m : MethodId} {below : List Frame} {meth : Method} {c : Code} {b : Nat} (hx : p.tables.exec = Jvm.exec) (hb : c.code = code) (hr : meth.sig.returnType = ret) (hlocks : meth.locks = false) {pc : Nat} {H : Heap} {ls : Array Slot} (hdg : decode code pc = .ok (.ireturn, 1)) : W p l e room_1 s m #[Value.ref b] below meth c H [] 600000 7302250 (lw_Z below #[Value.ref b] s) (F0 m pc ls [.int 1]) := by
  intro T hT X
  obtain ⟨fs, hret, hrun, hended, hW, hframe⟩ := X.leave (v := some (.int 1)) (hlocks := hlocks) (fun h => by rw [hr] at h; cases h)
  have hmeth' : T.vm.method? m = some meth := X.method'
  refine ⟨T.setFrames fs, ?_, .returned (some (.int 1)), hrun, hended, rfl, ⟨_, rfl⟩, hW, hframe⟩
  jvm_step X.here [X.here.top, hx, hb, hdg, hmeth', hr, ret, narrow_b1]
  (try refine ⟨rfl, ?_⟩); (try refine ⟨rfl, ?_⟩)
  first | (intro acts; rw [hret _ acts rfl rfl rfl]) | rw [hret _ _ rfl rfl rfl]
  exact Steps.refl _
/-- what holds at the law's entry: the machine, the code, the tables' words (any of lw_tbl by 'hts w (by decide +kernel)'), the script of L ints xs at the cell b, what the Statement gives of the start (any of its parts by flat_of_before) -/
def lw_At (p : Program) (s : State) (m : MethodId) (meth : Method) (c : Code) (b L : Nat) (xs : Nat → Int32) : Prop :=
  p.tables.exec = Jvm.exec ∧ c.code = code ∧ meth.sig.returnType = ret ∧ c.maxLocals = 17 ∧ s.vm.findClass R_law = some m.cls ∧ (∀ w ∈ lw_tbl, w.before #[Value.ref b] s = true) ∧ va_X b L xs s s.heap ∧ b < s.heap.size ∧ meth.locks = false ∧ (Jvm.Cond.and given_1 narrow_1).before #[Value.ref b] s = true
set_option maxHeartbeats 4000000 in
set_option maxRecDepth 20000 in
theorem law_start {p : Program} {e : Env} {s : State} {m : MethodId} {below : List Frame} {meth : Method} {c : Code} (l : Launch) {b L : Nat} {xs : Nat → Int32} (hL : L ≤ 260) (C0 : lw_At p s m meth c b L xs) {τ : M2} (hf : f_L_law (nM L xs) (nN L xs) L xs (sg0, xiQ L xs (nM L xs) (nN L xs)) = some (1, τ)) : W p l e room_1 s m #[Value.ref b] below meth c s.heap [] 0 0 (lw_Z below #[Value.ref b] s) (entryFrame m ([Value.ref b] : List Value).toArray 17) := by
  obtain ⟨hx, hb, hr, hml, hown, hts, hX, hbl, hlocks, hgv⟩ := id C0
  have hA : ∀ a : Nat, a < s.heap.size → ¬ (fun q => s.heap.size ≤ q) a := fun a h1 h2 => by omega
  obtain ⟨c0, i0, k0⟩ := u_known (C := RX0) (T := TX0) (N := 14) (n := 14) (ws := lw_tbl) hts (fun w hw => WS_tbl (cf_X0.2.1 w hw)) (hts _ (List.mem_of_getElem? (i := 46) (by decide +kernel)))
  obtain ⟨c1, i1, k1⟩ := u_known (C := RX1) (T := TX1) (N := 10) (n := 10) (ws := lw_tbl) hts (fun w hw => WS_tbl (cf_X1.2.1 w hw)) (hts _ (List.mem_of_getElem? (i := 292) (by decide +kernel)))
  obtain ⟨c2, i2, k2⟩ := u_known (C := RX3) (T := TX3) (N := 14) (n := 14) (ws := lw_tbl) hts (fun w hw => WS_tbl (cf_X3.2.1 w hw)) (hts _ (List.mem_of_getElem? (i := 167) (by decide +kernel)))
  obtain ⟨c3, i3, k3⟩ := u_known (C := RX4) (T := TX4) (N := 1) (n := 1) (ws := lw_tbl) hts (fun w hw => WS_tbl (cf_X4.2.1 w hw)) (hts _ (List.mem_of_getElem? (i := 161) (by decide +kernel)))
  obtain ⟨c4, i4, k4⟩ := u_known (C := RX5) (T := TX5) (N := 9) (n := 9) (ws := lw_tbl) hts (fun w hw => WS_tbl (cf_X5.2.1 w hw)) (hts _ (List.mem_of_getElem? (i := 329) (by decide +kernel)))
  obtain ⟨c5, i5, k5⟩ := u_known (C := RX6) (T := TX6) (N := 3) (n := 3) (ws := lw_tbl) hts (fun w hw => WS_tbl (cf_X6.2.1 w hw)) (hts _ (List.mem_of_getElem? (i := 144) (by decide +kernel)))
  obtain ⟨c6, i6, k6⟩ := u_known (C := RX7) (T := TX7) (N := 5) (n := 5) (ws := lw_tbl) hts (fun w hw => WS_tbl (cf_X7.2.1 w hw)) (hts _ (List.mem_of_getElem? (i := 125) (by decide +kernel)))
  obtain ⟨c7, i7, k7⟩ := u_known (C := RX8) (T := TX8) (N := 9) (n := 9) (ws := lw_tbl) hts (fun w hw => WS_tbl (cf_X8.2.1 w hw)) (hts _ (List.mem_of_getElem? (i := 229) (by decide +kernel)))
  obtain ⟨c8, i8, k8⟩ := u_known (C := RX9) (T := TX9) (N := 4) (n := 4) (ws := lw_tbl) hts (fun w hw => WS_tbl (cf_X9.2.1 w hw)) (hts _ (List.mem_of_getElem? (i := 220) (by decide +kernel)))
  obtain ⟨c9, i9, k9⟩ := u_known (C := RX10) (T := TX10) (N := 14) (n := 14) (ws := lw_tbl) hts (fun w hw => WS_tbl (cf_X10.2.1 w hw)) (hts _ (List.mem_of_getElem? (i := 38) (by decide +kernel)))
  obtain ⟨a0, ha0⟩ := prim_at .int (.inl rfl) (hts _ (List.mem_of_getElem? (i := 123) (by decide +kernel)))
  obtain ⟨a1, ha1⟩ := prim_at .long (.inr (.inl rfl)) (hts _ (List.mem_of_getElem? (i := 159) (by decide +kernel)))
  obtain ⟨a2, ha2⟩ := prim_at .boolean (.inr (.inr (.inl rfl))) (hts _ (List.mem_of_getElem? (i := 275) (by decide +kernel)))
  obtain ⟨a3, ha3⟩ := arrA_at (hts _ (List.mem_of_getElem? (i := 823) (by decide +kernel)))
  obtain ⟨a4, ha4⟩ := wkA_at (hts _ (List.mem_of_getElem? (i := 228) (by decide +kernel)))
  have hK : va_K (pick c0 [c0, c1, c2, c3, c4, c5, c6, c7, c8, c9], pick i0 [i0, i1, i2, i3, i4, i5, i6, i7, i8, i9]) vwCl (TY (pick a0 [a0, a1, a2, a3, a4])) s := by
    refine ⟨fun k q hq => ?_, fun k q hq => ?_⟩
    · match k, hq with
      | 0, hq => cases hq; exact k0
      | 1, hq => cases hq; exact k1
      | 2, hq => cases hq; exact k2
      | 3, hq => cases hq; exact k3
      | 4, hq => cases hq; exact k4
      | 5, hq => cases hq; exact k5
      | 6, hq => cases hq; exact k6
      | 7, hq => cases hq; exact k7
      | 8, hq => cases hq; exact k8
      | 9, hq => cases hq; exact k9
      | k + 10, hq => simp [vwCl] at hq
    · match k, hq with
      | 0, hq => cases hq; exact ha0
      | 1, hq => cases hq; exact ha1
      | 2, hq => cases hq; exact ha2
      | 3, hq => cases hq; exact ha3
      | 4, hq => cases hq; exact ha4
      | k + 5, hq => simp [TY] at hq
  obtain ⟨ad0, had⟩ : ∃ ad0 : Nat → Nat, ad0 = fun k => if k = 300000 then b else s.heap.size + (k - 100000) := ⟨_, rfl⟩
  have hSk : Sk ad0 (fun q => s.heap.size ≤ q) s s.heap := by
    refine ⟨va_AO.of (hts _ (List.mem_of_getElem? (i := 228) (by decide +kernel))), fun q hq => ?_⟩
    exact va_Nw.of rfl (hts _ ((by decide +kernel : ∀ q ∈ nwL, Cond.methodLinkNest q.1 q.2.1 q.2.2.1 q.2.2.2 ∈ lw_tbl) q hq))
  have hai : va_AI s := va_AI.of (hts _ (List.mem_of_getElem? (i := 823) (by decide +kernel)))
  have hb3 : ad0 300000 = b := by rw [had]; rfl
  have hl := lv_entry ([.ref b]) (n := 17) (Nat.le_of_ble_eq_true rfl)
  rw [lg_entry_eq]
  generalize (lg_sl ([.ref b]) ++ List.replicate (17 - (lg_sl ([.ref b])).length) Slot.unset).toArray = ls at hl ⊢
  have hN : (L : Int) ≤ 2147483647 := by omega
  obtain ⟨nm, hnm⟩ : ∃ nm, nm = nM L xs := ⟨_, rfl⟩
  obtain ⟨nn, hnn⟩ : ∃ nn, nn = nN L xs := ⟨_, rfl⟩
  rw [← hnm, ← hnn] at hf
  have hmn : nm ≤ 10 ∧ nn ≤ 4 := by rw [hnm, hnn]; exact nMN
  have hxz : ∀ a, xz (xsh nm nn) a ≤ 10 * a := fun a => by
    induction a with
    | zero => exact Nat.le_refl _
    | succ a ih =>
      have : (xsh nm nn a).2 ≤ 10 := by
        unfold xsh
        split
        · decide
        · split
          · omega
          · split
            · decide
            · split
              · omega
              · decide
      show xz (xsh nm nn) a + (xsh nm nn a).2 ≤ _
      omega
  have hx17 := hxz (nX nm nn)
  have hX17 : nX nm nn ≤ 17 := by unfold nX; omega
  have hs1 : szL 181 - szL 0 + 170 ≤ 7302250 := by decide +kernel
  have key := e_L_start hnm hnn hN hf p l e room_1 s m #[Value.ref b] below meth c (fun q => s.heap.size ≤ q) s.heap [] (pick c0 [c0, c1, c2, c3, c4, c5, c6, c7, c8, c9], pick i0 [i0, i1, i2, i3, i4, i5, i6, i7, i8, i9]) (pick a0 [a0, a1, a2, a3, a4]) ad0 ad0 ls
    ⟨hx, hb, hr, hml, hown, fun w hw => hts w (WS_tbl hw), hlocks, Nat.le_of_ble_eq_true rfl, Nat.le_of_ble_eq_true rfl, by show 181 - 0 + (nX nm nn - 0) ≤ 600000; omega, by show szL 181 - szL 0 + (xz (xsh nm nn) (nX nm nn) - xz (xsh nm nn) 0) ≤ 7302250; omega, fun h => by cases h⟩
    ⟨hK, hSk, fun q hq => hq, by rw [show (M_L_law L xs).2.2.2.2.2.2.2 = scrX L xs from rfl]; unfold scrX; rw [hb3]; exact ⟨hX, hbl, Nat.not_le.mpr hbl⟩, fun x x1 x2 => by
      have x2 : x < nX nm nn := x2
      rw [had]
      show (if 100000 + x = 300000 then b else s.heap.size + (100000 + x - 100000)) = s.heap.size + (x - 0)
      rw [if_neg (by omega)]
      omega, hai⟩
    ⟨fun k q h => by simp [ww, wl, xl] at h, ⟨fun i j p q h => by simp [ww, wl, xl] at h, fun k q h => by simp [ww, wl, xl] at h⟩, va_S.rf, fun _ _ => rfl, fun _ _ => rfl, ⟨(fun k j => by split; exact (show in64 0 by decide); exact (show in32 0 by decide)), fun k j => ⟨(show (-1 : Int) ≤ -1 by decide), (show (-1 : Int) < ((0 : Nat) : Int) by decide)⟩, fun k j _ => ⟨rfl, rfl⟩⟩, Nat.le_refl _, Nat.zero_le _, (show 181 ≤ 90000 by decide), ⟨fun _ _ => (show in32 0 by decide), fun _ _ => ⟨(show (-1 : Int) ≤ -1 by decide), (show (-1 : Int) < ((0 : Nat) : Int) by decide)⟩, fun _ _ _ => ⟨rfl, rfl⟩⟩, Nat.le_refl _, Nat.zero_le _, by show nX nm nn ≤ 90000; omega, fun _ => rfl⟩
    (by rw [show lz ad0 0 [(3, (200000 : Int)), (9, 0), (9, 0), (9, 0), (9, 0), (9, 0), (9, 0), (9, 0), (9, 0), (9, 0), (9, 0), (9, 0), (9, 0), (9, 0), (9, 0), (9, 0), (9, 0)] = [(0, .ref (ad0 300000))] from rfl, hb3]; exact hl)
    (fun v hv => by
      rcases List.mem_cons.mp hv with q | q
      · rw [q]; trivial
      · have : v = (9, 0) := by simpa using q
        rw [this]; trivial) rfl (fun v hv => by cases hv)
  intro T hT X
  obtain ⟨t, a1, o, b1, b2, ⟨⟨ad, _, _, ho, _⟩, _⟩, Lo, ⟨hv, hW, hsb⟩, hLo⟩ := key T hT X
  refine ⟨t, a1, o, b1, b2, ho, hv, hW, sbn_forget hsb hLo (by show 181 - 0 + (nX nm nn - 0) ≤ 600000; omega) (by show szL 181 - szL 0 + (xz (xsh nm nn) (nX nm nn) - xz (xsh nm nn) 0) ≤ 7302250; omega)⟩
