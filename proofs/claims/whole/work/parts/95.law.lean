/-! THE LAW'S LOOP, call by call (by mk95.py) -/
def tl_45 (N : Nat) (xs : Nat → Int32) (σ : Mem) (x3 : Int) : Option ((Int × Mem) ⊕ ((Mem) ⊕ (Mem) ⊕ (Mem) ⊕ (Mem) ⊕ (Mem) ⊕ (Mem) ⊕ (Mem) ⊕ (Mem) ⊕ (Mem) ⊕ (Mem) ⊕ (Mem) ⊕ (Mem) ⊕ (Mem) ⊕ (Mem) ⊕ (Mem) ⊕ (Mem) ⊕ (Mem) ⊕ (Mem) ⊕ (Mem) ⊕ (Mem) ⊕ (Mem) ⊕ (Mem) ⊕ (Mem) ⊕ (Mem) ⊕ (Mem) ⊕ (Mem) ⊕ (Mem) ⊕ (Mem) ⊕ (Mem) ⊕ (Mem) ⊕ (Mem) ⊕ (Mem) ⊕ (Mem) ⊕ (Mem) ⊕ (Mem) ⊕ (Mem) ⊕ (Mem) ⊕ (Mem) ⊕ (Mem) ⊕ (Mem) ⊕ (Mem) ⊕ (Mem) ⊕ (Mem) ⊕ (Mem) ⊕ (Mem) ⊕ (Mem))) := f_L_law_1774 N xs σ x3
def tl_44 (N : Nat) (xs : Nat → Int32) (σ : Mem) (x3 : Int) : Option ((Int × Mem) ⊕ ((Mem) ⊕ (Mem) ⊕ (Mem) ⊕ (Mem) ⊕ (Mem) ⊕ (Mem) ⊕ (Mem) ⊕ (Mem) ⊕ (Mem) ⊕ (Mem) ⊕ (Mem) ⊕ (Mem) ⊕ (Mem) ⊕ (Mem) ⊕ (Mem) ⊕ (Mem) ⊕ (Mem) ⊕ (Mem) ⊕ (Mem) ⊕ (Mem) ⊕ (Mem) ⊕ (Mem) ⊕ (Mem) ⊕ (Mem) ⊕ (Mem) ⊕ (Mem) ⊕ (Mem) ⊕ (Mem) ⊕ (Mem) ⊕ (Mem) ⊕ (Mem) ⊕ (Mem) ⊕ (Mem) ⊕ (Mem) ⊕ (Mem) ⊕ (Mem) ⊕ (Mem) ⊕ (Mem) ⊕ (Mem) ⊕ (Mem) ⊕ (Mem) ⊕ (Mem) ⊕ (Mem) ⊕ (Mem) ⊕ (Mem) ⊕ (Mem))) := if (jand ((xs (x3).toNat).toInt) (63 : Int)) = (44 : Int) then (chk (0 ≤ (jadd x3 (1 : Int)) ∧ (jadd x3 (1 : Int)) < ((N : Nat) : Int)) ((f_X10_status σ ((xs ((jadd x3 (1 : Int))).toNat).toInt)).bind fun v177 => (chk (0 ≤ (jadd x3 (1 : Int)) ∧ (jadd x3 (1 : Int)) < ((N : Nat) : Int)) ((f_X11_status v177.2 ((xs ((jadd x3 (1 : Int))).toNat).toInt)).bind fun v179 => (if v177.1 = v179.1 then (f_L_law_1774 N xs v179.2 x3) else (some (.inr (.inr (.inr (.inr (.inr (.inr (.inr (.inr (.inr (.inr (.inr (.inr (.inr (.inr (.inr (.inr (.inr (.inr (.inr (.inr (.inr (.inr (.inr (.inr (.inr (.inr (.inr (.inr (.inr (.inr (.inr (.inr (.inr (.inr (.inr (.inr (.inr (.inr (.inr (.inr (.inr (.inr (.inr (.inr (.inr (.inl v179.2)))))))))))))))))))))))))))))))))))))))))))))))))))) else tl_45 N xs σ x3
def tl_43 (N : Nat) (xs : Nat → Int32) (σ : Mem) (x3 : Int) : Option ((Int × Mem) ⊕ ((Mem) ⊕ (Mem) ⊕ (Mem) ⊕ (Mem) ⊕ (Mem) ⊕ (Mem) ⊕ (Mem) ⊕ (Mem) ⊕ (Mem) ⊕ (Mem) ⊕ (Mem) ⊕ (Mem) ⊕ (Mem) ⊕ (Mem) ⊕ (Mem) ⊕ (Mem) ⊕ (Mem) ⊕ (Mem) ⊕ (Mem) ⊕ (Mem) ⊕ (Mem) ⊕ (Mem) ⊕ (Mem) ⊕ (Mem) ⊕ (Mem) ⊕ (Mem) ⊕ (Mem) ⊕ (Mem) ⊕ (Mem) ⊕ (Mem) ⊕ (Mem) ⊕ (Mem) ⊕ (Mem) ⊕ (Mem) ⊕ (Mem) ⊕ (Mem) ⊕ (Mem) ⊕ (Mem) ⊕ (Mem) ⊕ (Mem) ⊕ (Mem) ⊕ (Mem) ⊕ (Mem) ⊕ (Mem) ⊕ (Mem) ⊕ (Mem))) := if (jand ((xs (x3).toNat).toInt) (63 : Int)) = (43 : Int) then ((f_X10_back σ).bind fun v173 => ((f_X11_back v173.2).bind fun v175 => (if v173.1 = v175.1 then (f_L_law_1774 N xs v175.2 x3) else (some (.inr (.inr (.inr (.inr (.inr (.inr (.inr (.inr (.inr (.inr (.inr (.inr (.inr (.inr (.inr (.inr (.inr (.inr (.inr (.inr (.inr (.inr (.inr (.inr (.inr (.inr (.inr (.inr (.inr (.inr (.inr (.inr (.inr (.inr (.inr (.inr (.inr (.inr (.inr (.inr (.inr (.inr (.inr (.inr (.inl v175.2))))))))))))))))))))))))))))))))))))))))))))))))) else tl_44 N xs σ x3
def tl_42 (N : Nat) (xs : Nat → Int32) (σ : Mem) (x3 : Int) : Option ((Int × Mem) ⊕ ((Mem) ⊕ (Mem) ⊕ (Mem) ⊕ (Mem) ⊕ (Mem) ⊕ (Mem) ⊕ (Mem) ⊕ (Mem) ⊕ (Mem) ⊕ (Mem) ⊕ (Mem) ⊕ (Mem) ⊕ (Mem) ⊕ (Mem) ⊕ (Mem) ⊕ (Mem) ⊕ (Mem) ⊕ (Mem) ⊕ (Mem) ⊕ (Mem) ⊕ (Mem) ⊕ (Mem) ⊕ (Mem) ⊕ (Mem) ⊕ (Mem) ⊕ (Mem) ⊕ (Mem) ⊕ (Mem) ⊕ (Mem) ⊕ (Mem) ⊕ (Mem) ⊕ (Mem) ⊕ (Mem) ⊕ (Mem) ⊕ (Mem) ⊕ (Mem) ⊕ (Mem) ⊕ (Mem) ⊕ (Mem) ⊕ (Mem) ⊕ (Mem) ⊕ (Mem) ⊕ (Mem) ⊕ (Mem) ⊕ (Mem) ⊕ (Mem))) := if (jand ((xs (x3).toNat).toInt) (63 : Int)) = (42 : Int) then ((f_X10_image σ).bind fun v169 => ((f_X11_image v169.2).bind fun v171 => (if v169.1 = v171.1 then (f_L_law_1774 N xs v171.2 x3) else (some (.inr (.inr (.inr (.inr (.inr (.inr (.inr (.inr (.inr (.inr (.inr (.inr (.inr (.inr (.inr (.inr (.inr (.inr (.inr (.inr (.inr (.inr (.inr (.inr (.inr (.inr (.inr (.inr (.inr (.inr (.inr (.inr (.inr (.inr (.inr (.inr (.inr (.inr (.inr (.inr (.inr (.inr (.inr (.inl v171.2)))))))))))))))))))))))))))))))))))))))))))))))) else tl_43 N xs σ x3
def tl_41 (N : Nat) (xs : Nat → Int32) (σ : Mem) (x3 : Int) : Option ((Int × Mem) ⊕ ((Mem) ⊕ (Mem) ⊕ (Mem) ⊕ (Mem) ⊕ (Mem) ⊕ (Mem) ⊕ (Mem) ⊕ (Mem) ⊕ (Mem) ⊕ (Mem) ⊕ (Mem) ⊕ (Mem) ⊕ (Mem) ⊕ (Mem) ⊕ (Mem) ⊕ (Mem) ⊕ (Mem) ⊕ (Mem) ⊕ (Mem) ⊕ (Mem) ⊕ (Mem) ⊕ (Mem) ⊕ (Mem) ⊕ (Mem) ⊕ (Mem) ⊕ (Mem) ⊕ (Mem) ⊕ (Mem) ⊕ (Mem) ⊕ (Mem) ⊕ (Mem) ⊕ (Mem) ⊕ (Mem) ⊕ (Mem) ⊕ (Mem) ⊕ (Mem) ⊕ (Mem) ⊕ (Mem) ⊕ (Mem) ⊕ (Mem) ⊕ (Mem) ⊕ (Mem) ⊕ (Mem) ⊕ (Mem) ⊕ (Mem) ⊕ (Mem))) := if (jand ((xs (x3).toNat).toInt) (63 : Int)) = (41 : Int) then (chk (0 ≤ (jadd x3 (1 : Int)) ∧ (jadd x3 (1 : Int)) < ((N : Nat) : Int)) ((f_X10_seed σ ((xs ((jadd x3 (1 : Int))).toNat).toInt)).bind fun v165 => (chk (0 ≤ (jadd x3 (1 : Int)) ∧ (jadd x3 (1 : Int)) < ((N : Nat) : Int)) ((f_X11_seed v165.2 ((xs ((jadd x3 (1 : Int))).toNat).toInt)).bind fun v167 => (if v165.1 = v167.1 then (f_L_law_1774 N xs v167.2 x3) else (some (.inr (.inr (.inr (.inr (.inr (.inr (.inr (.inr (.inr (.inr (.inr (.inr (.inr (.inr (.inr (.inr (.inr (.inr (.inr (.inr (.inr (.inr (.inr (.inr (.inr (.inr (.inr (.inr (.inr (.inr (.inr (.inr (.inr (.inr (.inr (.inr (.inr (.inr (.inr (.inr (.inr (.inr (.inl v167.2))))))))))))))))))))))))))))))))))))))))))))))))) else tl_42 N xs σ x3
def tl_40 (N : Nat) (xs : Nat → Int32) (σ : Mem) (x3 : Int) : Option ((Int × Mem) ⊕ ((Mem) ⊕ (Mem) ⊕ (Mem) ⊕ (Mem) ⊕ (Mem) ⊕ (Mem) ⊕ (Mem) ⊕ (Mem) ⊕ (Mem) ⊕ (Mem) ⊕ (Mem) ⊕ (Mem) ⊕ (Mem) ⊕ (Mem) ⊕ (Mem) ⊕ (Mem) ⊕ (Mem) ⊕ (Mem) ⊕ (Mem) ⊕ (Mem) ⊕ (Mem) ⊕ (Mem) ⊕ (Mem) ⊕ (Mem) ⊕ (Mem) ⊕ (Mem) ⊕ (Mem) ⊕ (Mem) ⊕ (Mem) ⊕ (Mem) ⊕ (Mem) ⊕ (Mem) ⊕ (Mem) ⊕ (Mem) ⊕ (Mem) ⊕ (Mem) ⊕ (Mem) ⊕ (Mem) ⊕ (Mem) ⊕ (Mem) ⊕ (Mem) ⊕ (Mem) ⊕ (Mem) ⊕ (Mem) ⊕ (Mem) ⊕ (Mem))) := if (jand ((xs (x3).toNat).toInt) (63 : Int)) = (40 : Int) then (chk (0 ≤ (jadd x3 (1 : Int)) ∧ (jadd x3 (1 : Int)) < ((N : Nat) : Int)) ((f_X10_changes σ ((xs ((jadd x3 (1 : Int))).toNat).toInt)).bind fun v161 => (chk (0 ≤ (jadd x3 (1 : Int)) ∧ (jadd x3 (1 : Int)) < ((N : Nat) : Int)) ((f_X11_changes v161.2 ((xs ((jadd x3 (1 : Int))).toNat).toInt)).bind fun v163 => (if v161.1 = v163.1 then (f_L_law_1774 N xs v163.2 x3) else (some (.inr (.inr (.inr (.inr (.inr (.inr (.inr (.inr (.inr (.inr (.inr (.inr (.inr (.inr (.inr (.inr (.inr (.inr (.inr (.inr (.inr (.inr (.inr (.inr (.inr (.inr (.inr (.inr (.inr (.inr (.inr (.inr (.inr (.inr (.inr (.inr (.inr (.inr (.inr (.inr (.inr (.inl v163.2)))))))))))))))))))))))))))))))))))))))))))))))) else tl_41 N xs σ x3
def tl_39 (N : Nat) (xs : Nat → Int32) (σ : Mem) (x3 : Int) : Option ((Int × Mem) ⊕ ((Mem) ⊕ (Mem) ⊕ (Mem) ⊕ (Mem) ⊕ (Mem) ⊕ (Mem) ⊕ (Mem) ⊕ (Mem) ⊕ (Mem) ⊕ (Mem) ⊕ (Mem) ⊕ (Mem) ⊕ (Mem) ⊕ (Mem) ⊕ (Mem) ⊕ (Mem) ⊕ (Mem) ⊕ (Mem) ⊕ (Mem) ⊕ (Mem) ⊕ (Mem) ⊕ (Mem) ⊕ (Mem) ⊕ (Mem) ⊕ (Mem) ⊕ (Mem) ⊕ (Mem) ⊕ (Mem) ⊕ (Mem) ⊕ (Mem) ⊕ (Mem) ⊕ (Mem) ⊕ (Mem) ⊕ (Mem) ⊕ (Mem) ⊕ (Mem) ⊕ (Mem) ⊕ (Mem) ⊕ (Mem) ⊕ (Mem) ⊕ (Mem) ⊕ (Mem) ⊕ (Mem) ⊕ (Mem) ⊕ (Mem) ⊕ (Mem))) := if (jand ((xs (x3).toNat).toInt) (63 : Int)) = (39 : Int) then (chk (0 ≤ (jadd x3 (1 : Int)) ∧ (jadd x3 (1 : Int)) < ((N : Nat) : Int)) (chk (0 ≤ (jadd x3 (2 : Int)) ∧ (jadd x3 (2 : Int)) < ((N : Nat) : Int)) (chk (0 ≤ (jadd x3 (3 : Int)) ∧ (jadd x3 (3 : Int)) < ((N : Nat) : Int)) ((f_X10_together σ ((xs ((jadd x3 (1 : Int))).toNat).toInt) ((xs ((jadd x3 (2 : Int))).toNat).toInt) ((xs ((jadd x3 (3 : Int))).toNat).toInt)).bind fun v157 => (chk (0 ≤ (jadd x3 (1 : Int)) ∧ (jadd x3 (1 : Int)) < ((N : Nat) : Int)) (chk (0 ≤ (jadd x3 (2 : Int)) ∧ (jadd x3 (2 : Int)) < ((N : Nat) : Int)) (chk (0 ≤ (jadd x3 (3 : Int)) ∧ (jadd x3 (3 : Int)) < ((N : Nat) : Int)) ((f_X11_together v157.2 ((xs ((jadd x3 (1 : Int))).toNat).toInt) ((xs ((jadd x3 (2 : Int))).toNat).toInt) ((xs ((jadd x3 (3 : Int))).toNat).toInt)).bind fun v159 => (if v157.1 = v159.1 then (f_L_law_1774 N xs v159.2 x3) else (some (.inr (.inr (.inr (.inr (.inr (.inr (.inr (.inr (.inr (.inr (.inr (.inr (.inr (.inr (.inr (.inr (.inr (.inr (.inr (.inr (.inr (.inr (.inr (.inr (.inr (.inr (.inr (.inr (.inr (.inr (.inr (.inr (.inr (.inr (.inr (.inr (.inr (.inr (.inr (.inr (.inl v159.2))))))))))))))))))))))))))))))))))))))))))))))))))) else tl_40 N xs σ x3
def tl_38 (N : Nat) (xs : Nat → Int32) (σ : Mem) (x3 : Int) : Option ((Int × Mem) ⊕ ((Mem) ⊕ (Mem) ⊕ (Mem) ⊕ (Mem) ⊕ (Mem) ⊕ (Mem) ⊕ (Mem) ⊕ (Mem) ⊕ (Mem) ⊕ (Mem) ⊕ (Mem) ⊕ (Mem) ⊕ (Mem) ⊕ (Mem) ⊕ (Mem) ⊕ (Mem) ⊕ (Mem) ⊕ (Mem) ⊕ (Mem) ⊕ (Mem) ⊕ (Mem) ⊕ (Mem) ⊕ (Mem) ⊕ (Mem) ⊕ (Mem) ⊕ (Mem) ⊕ (Mem) ⊕ (Mem) ⊕ (Mem) ⊕ (Mem) ⊕ (Mem) ⊕ (Mem) ⊕ (Mem) ⊕ (Mem) ⊕ (Mem) ⊕ (Mem) ⊕ (Mem) ⊕ (Mem) ⊕ (Mem) ⊕ (Mem) ⊕ (Mem) ⊕ (Mem) ⊕ (Mem) ⊕ (Mem) ⊕ (Mem) ⊕ (Mem))) := if (jand ((xs (x3).toNat).toInt) (63 : Int)) = (38 : Int) then (chk (0 ≤ (jadd x3 (1 : Int)) ∧ (jadd x3 (1 : Int)) < ((N : Nat) : Int)) (chk (0 ≤ (jadd x3 (2 : Int)) ∧ (jadd x3 (2 : Int)) < ((N : Nat) : Int)) (chk (0 ≤ (jadd x3 (3 : Int)) ∧ (jadd x3 (3 : Int)) < ((N : Nat) : Int)) (chk (0 ≤ (jadd x3 (4 : Int)) ∧ (jadd x3 (4 : Int)) < ((N : Nat) : Int)) ((f_X10_judge σ ((xs ((jadd x3 (1 : Int))).toNat).toInt) ((xs ((jadd x3 (2 : Int))).toNat).toInt) ((xs ((jadd x3 (3 : Int))).toNat).toInt) ((xs ((jadd x3 (4 : Int))).toNat).toInt)).bind fun v153 => (chk (0 ≤ (jadd x3 (1 : Int)) ∧ (jadd x3 (1 : Int)) < ((N : Nat) : Int)) (chk (0 ≤ (jadd x3 (2 : Int)) ∧ (jadd x3 (2 : Int)) < ((N : Nat) : Int)) (chk (0 ≤ (jadd x3 (3 : Int)) ∧ (jadd x3 (3 : Int)) < ((N : Nat) : Int)) (chk (0 ≤ (jadd x3 (4 : Int)) ∧ (jadd x3 (4 : Int)) < ((N : Nat) : Int)) ((f_X11_judge v153.2 ((xs ((jadd x3 (1 : Int))).toNat).toInt) ((xs ((jadd x3 (2 : Int))).toNat).toInt) ((xs ((jadd x3 (3 : Int))).toNat).toInt) ((xs ((jadd x3 (4 : Int))).toNat).toInt)).bind fun v155 => (if v153.1 = v155.1 then (f_L_law_1774 N xs v155.2 x3) else (some (.inr (.inr (.inr (.inr (.inr (.inr (.inr (.inr (.inr (.inr (.inr (.inr (.inr (.inr (.inr (.inr (.inr (.inr (.inr (.inr (.inr (.inr (.inr (.inr (.inr (.inr (.inr (.inr (.inr (.inr (.inr (.inr (.inr (.inr (.inr (.inr (.inr (.inr (.inr (.inl v155.2)))))))))))))))))))))))))))))))))))))))))))))))))))) else tl_39 N xs σ x3
def tl_37 (N : Nat) (xs : Nat → Int32) (σ : Mem) (x3 : Int) : Option ((Int × Mem) ⊕ ((Mem) ⊕ (Mem) ⊕ (Mem) ⊕ (Mem) ⊕ (Mem) ⊕ (Mem) ⊕ (Mem) ⊕ (Mem) ⊕ (Mem) ⊕ (Mem) ⊕ (Mem) ⊕ (Mem) ⊕ (Mem) ⊕ (Mem) ⊕ (Mem) ⊕ (Mem) ⊕ (Mem) ⊕ (Mem) ⊕ (Mem) ⊕ (Mem) ⊕ (Mem) ⊕ (Mem) ⊕ (Mem) ⊕ (Mem) ⊕ (Mem) ⊕ (Mem) ⊕ (Mem) ⊕ (Mem) ⊕ (Mem) ⊕ (Mem) ⊕ (Mem) ⊕ (Mem) ⊕ (Mem) ⊕ (Mem) ⊕ (Mem) ⊕ (Mem) ⊕ (Mem) ⊕ (Mem) ⊕ (Mem) ⊕ (Mem) ⊕ (Mem) ⊕ (Mem) ⊕ (Mem) ⊕ (Mem) ⊕ (Mem) ⊕ (Mem))) := if (jand ((xs (x3).toNat).toInt) (63 : Int)) = (37 : Int) then (chk (0 ≤ (jadd x3 (1 : Int)) ∧ (jadd x3 (1 : Int)) < ((N : Nat) : Int)) (chk (0 ≤ (jadd x3 (2 : Int)) ∧ (jadd x3 (2 : Int)) < ((N : Nat) : Int)) (chk (0 ≤ (jadd x3 (3 : Int)) ∧ (jadd x3 (3 : Int)) < ((N : Nat) : Int)) ((f_X10_kinds σ ((xs ((jadd x3 (1 : Int))).toNat).toInt) ((xs ((jadd x3 (2 : Int))).toNat).toInt) ((xs ((jadd x3 (3 : Int))).toNat).toInt)).bind fun v149 => (chk (0 ≤ (jadd x3 (1 : Int)) ∧ (jadd x3 (1 : Int)) < ((N : Nat) : Int)) (chk (0 ≤ (jadd x3 (2 : Int)) ∧ (jadd x3 (2 : Int)) < ((N : Nat) : Int)) (chk (0 ≤ (jadd x3 (3 : Int)) ∧ (jadd x3 (3 : Int)) < ((N : Nat) : Int)) ((f_X11_kinds v149.2 ((xs ((jadd x3 (1 : Int))).toNat).toInt) ((xs ((jadd x3 (2 : Int))).toNat).toInt) ((xs ((jadd x3 (3 : Int))).toNat).toInt)).bind fun v151 => (if v149.1 = v151.1 then (f_L_law_1774 N xs v151.2 x3) else (some (.inr (.inr (.inr (.inr (.inr (.inr (.inr (.inr (.inr (.inr (.inr (.inr (.inr (.inr (.inr (.inr (.inr (.inr (.inr (.inr (.inr (.inr (.inr (.inr (.inr (.inr (.inr (.inr (.inr (.inr (.inr (.inr (.inr (.inr (.inr (.inr (.inr (.inr (.inl v151.2))))))))))))))))))))))))))))))))))))))))))))))))) else tl_38 N xs σ x3
def tl_36 (N : Nat) (xs : Nat → Int32) (σ : Mem) (x3 : Int) : Option ((Int × Mem) ⊕ ((Mem) ⊕ (Mem) ⊕ (Mem) ⊕ (Mem) ⊕ (Mem) ⊕ (Mem) ⊕ (Mem) ⊕ (Mem) ⊕ (Mem) ⊕ (Mem) ⊕ (Mem) ⊕ (Mem) ⊕ (Mem) ⊕ (Mem) ⊕ (Mem) ⊕ (Mem) ⊕ (Mem) ⊕ (Mem) ⊕ (Mem) ⊕ (Mem) ⊕ (Mem) ⊕ (Mem) ⊕ (Mem) ⊕ (Mem) ⊕ (Mem) ⊕ (Mem) ⊕ (Mem) ⊕ (Mem) ⊕ (Mem) ⊕ (Mem) ⊕ (Mem) ⊕ (Mem) ⊕ (Mem) ⊕ (Mem) ⊕ (Mem) ⊕ (Mem) ⊕ (Mem) ⊕ (Mem) ⊕ (Mem) ⊕ (Mem) ⊕ (Mem) ⊕ (Mem) ⊕ (Mem) ⊕ (Mem) ⊕ (Mem) ⊕ (Mem))) := if (jand ((xs (x3).toNat).toInt) (63 : Int)) = (36 : Int) then (chk (0 ≤ (jadd x3 (1 : Int)) ∧ (jadd x3 (1 : Int)) < ((N : Nat) : Int)) ((f_X10_hoursFor σ ((xs ((jadd x3 (1 : Int))).toNat).toInt)).bind fun v145 => (chk (0 ≤ (jadd x3 (1 : Int)) ∧ (jadd x3 (1 : Int)) < ((N : Nat) : Int)) ((f_X11_hoursFor v145.2 ((xs ((jadd x3 (1 : Int))).toNat).toInt)).bind fun v147 => (if v145.1 = v147.1 then (f_L_law_1774 N xs v147.2 x3) else (some (.inr (.inr (.inr (.inr (.inr (.inr (.inr (.inr (.inr (.inr (.inr (.inr (.inr (.inr (.inr (.inr (.inr (.inr (.inr (.inr (.inr (.inr (.inr (.inr (.inr (.inr (.inr (.inr (.inr (.inr (.inr (.inr (.inr (.inr (.inr (.inr (.inr (.inl v147.2)))))))))))))))))))))))))))))))))))))))))))) else tl_37 N xs σ x3
def tl_35 (N : Nat) (xs : Nat → Int32) (σ : Mem) (x3 : Int) : Option ((Int × Mem) ⊕ ((Mem) ⊕ (Mem) ⊕ (Mem) ⊕ (Mem) ⊕ (Mem) ⊕ (Mem) ⊕ (Mem) ⊕ (Mem) ⊕ (Mem) ⊕ (Mem) ⊕ (Mem) ⊕ (Mem) ⊕ (Mem) ⊕ (Mem) ⊕ (Mem) ⊕ (Mem) ⊕ (Mem) ⊕ (Mem) ⊕ (Mem) ⊕ (Mem) ⊕ (Mem) ⊕ (Mem) ⊕ (Mem) ⊕ (Mem) ⊕ (Mem) ⊕ (Mem) ⊕ (Mem) ⊕ (Mem) ⊕ (Mem) ⊕ (Mem) ⊕ (Mem) ⊕ (Mem) ⊕ (Mem) ⊕ (Mem) ⊕ (Mem) ⊕ (Mem) ⊕ (Mem) ⊕ (Mem) ⊕ (Mem) ⊕ (Mem) ⊕ (Mem) ⊕ (Mem) ⊕ (Mem) ⊕ (Mem) ⊕ (Mem) ⊕ (Mem))) := if (jand ((xs (x3).toNat).toInt) (63 : Int)) = (35 : Int) then (chk (0 ≤ (jadd x3 (1 : Int)) ∧ (jadd x3 (1 : Int)) < ((N : Nat) : Int)) ((f_X10_retime σ ((xs ((jadd x3 (1 : Int))).toNat).toInt)).bind fun v141 => (chk (0 ≤ (jadd x3 (1 : Int)) ∧ (jadd x3 (1 : Int)) < ((N : Nat) : Int)) ((f_X11_retime v141.2 ((xs ((jadd x3 (1 : Int))).toNat).toInt)).bind fun v143 => (if v141.1 = v143.1 then (f_L_law_1774 N xs v143.2 x3) else (some (.inr (.inr (.inr (.inr (.inr (.inr (.inr (.inr (.inr (.inr (.inr (.inr (.inr (.inr (.inr (.inr (.inr (.inr (.inr (.inr (.inr (.inr (.inr (.inr (.inr (.inr (.inr (.inr (.inr (.inr (.inr (.inr (.inr (.inr (.inr (.inr (.inl v143.2))))))))))))))))))))))))))))))))))))))))))) else tl_36 N xs σ x3
def tl_34 (N : Nat) (xs : Nat → Int32) (σ : Mem) (x3 : Int) : Option ((Int × Mem) ⊕ ((Mem) ⊕ (Mem) ⊕ (Mem) ⊕ (Mem) ⊕ (Mem) ⊕ (Mem) ⊕ (Mem) ⊕ (Mem) ⊕ (Mem) ⊕ (Mem) ⊕ (Mem) ⊕ (Mem) ⊕ (Mem) ⊕ (Mem) ⊕ (Mem) ⊕ (Mem) ⊕ (Mem) ⊕ (Mem) ⊕ (Mem) ⊕ (Mem) ⊕ (Mem) ⊕ (Mem) ⊕ (Mem) ⊕ (Mem) ⊕ (Mem) ⊕ (Mem) ⊕ (Mem) ⊕ (Mem) ⊕ (Mem) ⊕ (Mem) ⊕ (Mem) ⊕ (Mem) ⊕ (Mem) ⊕ (Mem) ⊕ (Mem) ⊕ (Mem) ⊕ (Mem) ⊕ (Mem) ⊕ (Mem) ⊕ (Mem) ⊕ (Mem) ⊕ (Mem) ⊕ (Mem) ⊕ (Mem) ⊕ (Mem) ⊕ (Mem))) := if (jand ((xs (x3).toNat).toInt) (63 : Int)) = (34 : Int) then (chk (0 ≤ (jadd x3 (1 : Int)) ∧ (jadd x3 (1 : Int)) < ((N : Nat) : Int)) ((f_X10_relief σ ((xs ((jadd x3 (1 : Int))).toNat).toInt)).bind fun v137 => (chk (0 ≤ (jadd x3 (1 : Int)) ∧ (jadd x3 (1 : Int)) < ((N : Nat) : Int)) ((f_X11_relief v137.2 ((xs ((jadd x3 (1 : Int))).toNat).toInt)).bind fun v139 => (if v137.1 = v139.1 then (f_L_law_1774 N xs v139.2 x3) else (some (.inr (.inr (.inr (.inr (.inr (.inr (.inr (.inr (.inr (.inr (.inr (.inr (.inr (.inr (.inr (.inr (.inr (.inr (.inr (.inr (.inr (.inr (.inr (.inr (.inr (.inr (.inr (.inr (.inr (.inr (.inr (.inr (.inr (.inr (.inr (.inl v139.2)))))))))))))))))))))))))))))))))))))))))) else tl_35 N xs σ x3
def tl_33 (N : Nat) (xs : Nat → Int32) (σ : Mem) (x3 : Int) : Option ((Int × Mem) ⊕ ((Mem) ⊕ (Mem) ⊕ (Mem) ⊕ (Mem) ⊕ (Mem) ⊕ (Mem) ⊕ (Mem) ⊕ (Mem) ⊕ (Mem) ⊕ (Mem) ⊕ (Mem) ⊕ (Mem) ⊕ (Mem) ⊕ (Mem) ⊕ (Mem) ⊕ (Mem) ⊕ (Mem) ⊕ (Mem) ⊕ (Mem) ⊕ (Mem) ⊕ (Mem) ⊕ (Mem) ⊕ (Mem) ⊕ (Mem) ⊕ (Mem) ⊕ (Mem) ⊕ (Mem) ⊕ (Mem) ⊕ (Mem) ⊕ (Mem) ⊕ (Mem) ⊕ (Mem) ⊕ (Mem) ⊕ (Mem) ⊕ (Mem) ⊕ (Mem) ⊕ (Mem) ⊕ (Mem) ⊕ (Mem) ⊕ (Mem) ⊕ (Mem) ⊕ (Mem) ⊕ (Mem) ⊕ (Mem) ⊕ (Mem) ⊕ (Mem))) := if (jand ((xs (x3).toNat).toInt) (63 : Int)) = (33 : Int) then (chk (0 ≤ (jadd x3 (1 : Int)) ∧ (jadd x3 (1 : Int)) < ((N : Nat) : Int)) (chk (0 ≤ (jadd x3 (2 : Int)) ∧ (jadd x3 (2 : Int)) < ((N : Nat) : Int)) (chk (0 ≤ (jadd x3 (3 : Int)) ∧ (jadd x3 (3 : Int)) < ((N : Nat) : Int)) ((f_X10_both σ ((xs ((jadd x3 (1 : Int))).toNat).toInt) ((xs ((jadd x3 (2 : Int))).toNat).toInt) ((xs ((jadd x3 (3 : Int))).toNat).toInt)).bind fun v133 => (chk (0 ≤ (jadd x3 (1 : Int)) ∧ (jadd x3 (1 : Int)) < ((N : Nat) : Int)) (chk (0 ≤ (jadd x3 (2 : Int)) ∧ (jadd x3 (2 : Int)) < ((N : Nat) : Int)) (chk (0 ≤ (jadd x3 (3 : Int)) ∧ (jadd x3 (3 : Int)) < ((N : Nat) : Int)) ((f_X11_both v133.2 ((xs ((jadd x3 (1 : Int))).toNat).toInt) ((xs ((jadd x3 (2 : Int))).toNat).toInt) ((xs ((jadd x3 (3 : Int))).toNat).toInt)).bind fun v135 => (if v133.1 = v135.1 then (f_L_law_1774 N xs v135.2 x3) else (some (.inr (.inr (.inr (.inr (.inr (.inr (.inr (.inr (.inr (.inr (.inr (.inr (.inr (.inr (.inr (.inr (.inr (.inr (.inr (.inr (.inr (.inr (.inr (.inr (.inr (.inr (.inr (.inr (.inr (.inr (.inr (.inr (.inr (.inr (.inl v135.2))))))))))))))))))))))))))))))))))))))))))))) else tl_34 N xs σ x3
def tl_32 (N : Nat) (xs : Nat → Int32) (σ : Mem) (x3 : Int) : Option ((Int × Mem) ⊕ ((Mem) ⊕ (Mem) ⊕ (Mem) ⊕ (Mem) ⊕ (Mem) ⊕ (Mem) ⊕ (Mem) ⊕ (Mem) ⊕ (Mem) ⊕ (Mem) ⊕ (Mem) ⊕ (Mem) ⊕ (Mem) ⊕ (Mem) ⊕ (Mem) ⊕ (Mem) ⊕ (Mem) ⊕ (Mem) ⊕ (Mem) ⊕ (Mem) ⊕ (Mem) ⊕ (Mem) ⊕ (Mem) ⊕ (Mem) ⊕ (Mem) ⊕ (Mem) ⊕ (Mem) ⊕ (Mem) ⊕ (Mem) ⊕ (Mem) ⊕ (Mem) ⊕ (Mem) ⊕ (Mem) ⊕ (Mem) ⊕ (Mem) ⊕ (Mem) ⊕ (Mem) ⊕ (Mem) ⊕ (Mem) ⊕ (Mem) ⊕ (Mem) ⊕ (Mem) ⊕ (Mem) ⊕ (Mem) ⊕ (Mem) ⊕ (Mem))) := if (jand ((xs (x3).toNat).toInt) (63 : Int)) = (32 : Int) then (chk (0 ≤ (jadd x3 (1 : Int)) ∧ (jadd x3 (1 : Int)) < ((N : Nat) : Int)) (chk (0 ≤ (jadd x3 (2 : Int)) ∧ (jadd x3 (2 : Int)) < ((N : Nat) : Int)) ((f_X10_whatIf σ ((xs ((jadd x3 (1 : Int))).toNat).toInt) ((xs ((jadd x3 (2 : Int))).toNat).toInt)).bind fun v129 => (chk (0 ≤ (jadd x3 (1 : Int)) ∧ (jadd x3 (1 : Int)) < ((N : Nat) : Int)) (chk (0 ≤ (jadd x3 (2 : Int)) ∧ (jadd x3 (2 : Int)) < ((N : Nat) : Int)) ((f_X11_whatIf v129.2 ((xs ((jadd x3 (1 : Int))).toNat).toInt) ((xs ((jadd x3 (2 : Int))).toNat).toInt)).bind fun v131 => (if v129.1 = v131.1 then (f_L_law_1774 N xs v131.2 x3) else (some (.inr (.inr (.inr (.inr (.inr (.inr (.inr (.inr (.inr (.inr (.inr (.inr (.inr (.inr (.inr (.inr (.inr (.inr (.inr (.inr (.inr (.inr (.inr (.inr (.inr (.inr (.inr (.inr (.inr (.inr (.inr (.inr (.inr (.inl v131.2)))))))))))))))))))))))))))))))))))))))))) else tl_33 N xs σ x3
def tl_31 (N : Nat) (xs : Nat → Int32) (σ : Mem) (x3 : Int) : Option ((Int × Mem) ⊕ ((Mem) ⊕ (Mem) ⊕ (Mem) ⊕ (Mem) ⊕ (Mem) ⊕ (Mem) ⊕ (Mem) ⊕ (Mem) ⊕ (Mem) ⊕ (Mem) ⊕ (Mem) ⊕ (Mem) ⊕ (Mem) ⊕ (Mem) ⊕ (Mem) ⊕ (Mem) ⊕ (Mem) ⊕ (Mem) ⊕ (Mem) ⊕ (Mem) ⊕ (Mem) ⊕ (Mem) ⊕ (Mem) ⊕ (Mem) ⊕ (Mem) ⊕ (Mem) ⊕ (Mem) ⊕ (Mem) ⊕ (Mem) ⊕ (Mem) ⊕ (Mem) ⊕ (Mem) ⊕ (Mem) ⊕ (Mem) ⊕ (Mem) ⊕ (Mem) ⊕ (Mem) ⊕ (Mem) ⊕ (Mem) ⊕ (Mem) ⊕ (Mem) ⊕ (Mem) ⊕ (Mem) ⊕ (Mem) ⊕ (Mem) ⊕ (Mem))) := if (jand ((xs (x3).toNat).toInt) (63 : Int)) = (31 : Int) then (chk (0 ≤ (jadd x3 (1 : Int)) ∧ (jadd x3 (1 : Int)) < ((N : Nat) : Int)) (chk (0 ≤ (jadd x3 (2 : Int)) ∧ (jadd x3 (2 : Int)) < ((N : Nat) : Int)) (chk (0 ≤ (jadd x3 (3 : Int)) ∧ (jadd x3 (3 : Int)) < ((N : Nat) : Int)) ((f_X10_left σ ((xs ((jadd x3 (1 : Int))).toNat).toInt) ((xs ((jadd x3 (2 : Int))).toNat).toInt) ((xs ((jadd x3 (3 : Int))).toNat).toInt)).bind fun v125 => (chk (0 ≤ (jadd x3 (1 : Int)) ∧ (jadd x3 (1 : Int)) < ((N : Nat) : Int)) (chk (0 ≤ (jadd x3 (2 : Int)) ∧ (jadd x3 (2 : Int)) < ((N : Nat) : Int)) (chk (0 ≤ (jadd x3 (3 : Int)) ∧ (jadd x3 (3 : Int)) < ((N : Nat) : Int)) ((f_X11_left v125.2 ((xs ((jadd x3 (1 : Int))).toNat).toInt) ((xs ((jadd x3 (2 : Int))).toNat).toInt) ((xs ((jadd x3 (3 : Int))).toNat).toInt)).bind fun v127 => (if v125.1 = v127.1 then (f_L_law_1774 N xs v127.2 x3) else (some (.inr (.inr (.inr (.inr (.inr (.inr (.inr (.inr (.inr (.inr (.inr (.inr (.inr (.inr (.inr (.inr (.inr (.inr (.inr (.inr (.inr (.inr (.inr (.inr (.inr (.inr (.inr (.inr (.inr (.inr (.inr (.inr (.inl v127.2))))))))))))))))))))))))))))))))))))))))))) else tl_32 N xs σ x3
def tl_30 (N : Nat) (xs : Nat → Int32) (σ : Mem) (x3 : Int) : Option ((Int × Mem) ⊕ ((Mem) ⊕ (Mem) ⊕ (Mem) ⊕ (Mem) ⊕ (Mem) ⊕ (Mem) ⊕ (Mem) ⊕ (Mem) ⊕ (Mem) ⊕ (Mem) ⊕ (Mem) ⊕ (Mem) ⊕ (Mem) ⊕ (Mem) ⊕ (Mem) ⊕ (Mem) ⊕ (Mem) ⊕ (Mem) ⊕ (Mem) ⊕ (Mem) ⊕ (Mem) ⊕ (Mem) ⊕ (Mem) ⊕ (Mem) ⊕ (Mem) ⊕ (Mem) ⊕ (Mem) ⊕ (Mem) ⊕ (Mem) ⊕ (Mem) ⊕ (Mem) ⊕ (Mem) ⊕ (Mem) ⊕ (Mem) ⊕ (Mem) ⊕ (Mem) ⊕ (Mem) ⊕ (Mem) ⊕ (Mem) ⊕ (Mem) ⊕ (Mem) ⊕ (Mem) ⊕ (Mem) ⊕ (Mem) ⊕ (Mem) ⊕ (Mem))) := if (jand ((xs (x3).toNat).toInt) (63 : Int)) = (30 : Int) then (chk (0 ≤ (jadd x3 (1 : Int)) ∧ (jadd x3 (1 : Int)) < ((N : Nat) : Int)) (chk (0 ≤ (jadd x3 (2 : Int)) ∧ (jadd x3 (2 : Int)) < ((N : Nat) : Int)) (chk (0 ≤ (jadd x3 (3 : Int)) ∧ (jadd x3 (3 : Int)) < ((N : Nat) : Int)) ((f_X10_roomOf σ ((xs ((jadd x3 (1 : Int))).toNat).toInt) ((xs ((jadd x3 (2 : Int))).toNat).toInt) ((xs ((jadd x3 (3 : Int))).toNat).toInt)).bind fun v121 => (chk (0 ≤ (jadd x3 (1 : Int)) ∧ (jadd x3 (1 : Int)) < ((N : Nat) : Int)) (chk (0 ≤ (jadd x3 (2 : Int)) ∧ (jadd x3 (2 : Int)) < ((N : Nat) : Int)) (chk (0 ≤ (jadd x3 (3 : Int)) ∧ (jadd x3 (3 : Int)) < ((N : Nat) : Int)) ((f_X11_roomOf v121.2 ((xs ((jadd x3 (1 : Int))).toNat).toInt) ((xs ((jadd x3 (2 : Int))).toNat).toInt) ((xs ((jadd x3 (3 : Int))).toNat).toInt)).bind fun v123 => (if v121.1 = v123.1 then (f_L_law_1774 N xs v123.2 x3) else (some (.inr (.inr (.inr (.inr (.inr (.inr (.inr (.inr (.inr (.inr (.inr (.inr (.inr (.inr (.inr (.inr (.inr (.inr (.inr (.inr (.inr (.inr (.inr (.inr (.inr (.inr (.inr (.inr (.inr (.inr (.inr (.inl v123.2)))))))))))))))))))))))))))))))))))))))))) else tl_31 N xs σ x3
def tl_29 (N : Nat) (xs : Nat → Int32) (σ : Mem) (x3 : Int) : Option ((Int × Mem) ⊕ ((Mem) ⊕ (Mem) ⊕ (Mem) ⊕ (Mem) ⊕ (Mem) ⊕ (Mem) ⊕ (Mem) ⊕ (Mem) ⊕ (Mem) ⊕ (Mem) ⊕ (Mem) ⊕ (Mem) ⊕ (Mem) ⊕ (Mem) ⊕ (Mem) ⊕ (Mem) ⊕ (Mem) ⊕ (Mem) ⊕ (Mem) ⊕ (Mem) ⊕ (Mem) ⊕ (Mem) ⊕ (Mem) ⊕ (Mem) ⊕ (Mem) ⊕ (Mem) ⊕ (Mem) ⊕ (Mem) ⊕ (Mem) ⊕ (Mem) ⊕ (Mem) ⊕ (Mem) ⊕ (Mem) ⊕ (Mem) ⊕ (Mem) ⊕ (Mem) ⊕ (Mem) ⊕ (Mem) ⊕ (Mem) ⊕ (Mem) ⊕ (Mem) ⊕ (Mem) ⊕ (Mem) ⊕ (Mem) ⊕ (Mem) ⊕ (Mem))) := if (jand ((xs (x3).toNat).toInt) (63 : Int)) = (29 : Int) then (chk (0 ≤ (jadd x3 (1 : Int)) ∧ (jadd x3 (1 : Int)) < ((N : Nat) : Int)) (chk (0 ≤ (jadd x3 (2 : Int)) ∧ (jadd x3 (2 : Int)) < ((N : Nat) : Int)) (chk (0 ≤ (jadd x3 (3 : Int)) ∧ (jadd x3 (3 : Int)) < ((N : Nat) : Int)) ((f_X10_pieces σ ((xs ((jadd x3 (1 : Int))).toNat).toInt) ((xs ((jadd x3 (2 : Int))).toNat).toInt) ((xs ((jadd x3 (3 : Int))).toNat).toInt)).bind fun v117 => (chk (0 ≤ (jadd x3 (1 : Int)) ∧ (jadd x3 (1 : Int)) < ((N : Nat) : Int)) (chk (0 ≤ (jadd x3 (2 : Int)) ∧ (jadd x3 (2 : Int)) < ((N : Nat) : Int)) (chk (0 ≤ (jadd x3 (3 : Int)) ∧ (jadd x3 (3 : Int)) < ((N : Nat) : Int)) ((f_X11_pieces v117.2 ((xs ((jadd x3 (1 : Int))).toNat).toInt) ((xs ((jadd x3 (2 : Int))).toNat).toInt) ((xs ((jadd x3 (3 : Int))).toNat).toInt)).bind fun v119 => (if v117.1 = v119.1 then (f_L_law_1774 N xs v119.2 x3) else (some (.inr (.inr (.inr (.inr (.inr (.inr (.inr (.inr (.inr (.inr (.inr (.inr (.inr (.inr (.inr (.inr (.inr (.inr (.inr (.inr (.inr (.inr (.inr (.inr (.inr (.inr (.inr (.inr (.inr (.inr (.inl v119.2))))))))))))))))))))))))))))))))))))))))) else tl_30 N xs σ x3
def tl_28 (N : Nat) (xs : Nat → Int32) (σ : Mem) (x3 : Int) : Option ((Int × Mem) ⊕ ((Mem) ⊕ (Mem) ⊕ (Mem) ⊕ (Mem) ⊕ (Mem) ⊕ (Mem) ⊕ (Mem) ⊕ (Mem) ⊕ (Mem) ⊕ (Mem) ⊕ (Mem) ⊕ (Mem) ⊕ (Mem) ⊕ (Mem) ⊕ (Mem) ⊕ (Mem) ⊕ (Mem) ⊕ (Mem) ⊕ (Mem) ⊕ (Mem) ⊕ (Mem) ⊕ (Mem) ⊕ (Mem) ⊕ (Mem) ⊕ (Mem) ⊕ (Mem) ⊕ (Mem) ⊕ (Mem) ⊕ (Mem) ⊕ (Mem) ⊕ (Mem) ⊕ (Mem) ⊕ (Mem) ⊕ (Mem) ⊕ (Mem) ⊕ (Mem) ⊕ (Mem) ⊕ (Mem) ⊕ (Mem) ⊕ (Mem) ⊕ (Mem) ⊕ (Mem) ⊕ (Mem) ⊕ (Mem) ⊕ (Mem) ⊕ (Mem))) := if (jand ((xs (x3).toNat).toInt) (63 : Int)) = (28 : Int) then (chk (0 ≤ (jadd x3 (1 : Int)) ∧ (jadd x3 (1 : Int)) < ((N : Nat) : Int)) (chk (0 ≤ (jadd x3 (2 : Int)) ∧ (jadd x3 (2 : Int)) < ((N : Nat) : Int)) ((f_X10_duty σ ((xs ((jadd x3 (1 : Int))).toNat).toInt) ((xs ((jadd x3 (2 : Int))).toNat).toInt)).bind fun v113 => (chk (0 ≤ (jadd x3 (1 : Int)) ∧ (jadd x3 (1 : Int)) < ((N : Nat) : Int)) (chk (0 ≤ (jadd x3 (2 : Int)) ∧ (jadd x3 (2 : Int)) < ((N : Nat) : Int)) ((f_X11_duty v113.2 ((xs ((jadd x3 (1 : Int))).toNat).toInt) ((xs ((jadd x3 (2 : Int))).toNat).toInt)).bind fun v115 => (if v113.1 = v115.1 then (f_L_law_1774 N xs v115.2 x3) else (some (.inr (.inr (.inr (.inr (.inr (.inr (.inr (.inr (.inr (.inr (.inr (.inr (.inr (.inr (.inr (.inr (.inr (.inr (.inr (.inr (.inr (.inr (.inr (.inr (.inr (.inr (.inr (.inr (.inr (.inl v115.2)))))))))))))))))))))))))))))))))))))) else tl_29 N xs σ x3
def tl_27 (N : Nat) (xs : Nat → Int32) (σ : Mem) (x3 : Int) : Option ((Int × Mem) ⊕ ((Mem) ⊕ (Mem) ⊕ (Mem) ⊕ (Mem) ⊕ (Mem) ⊕ (Mem) ⊕ (Mem) ⊕ (Mem) ⊕ (Mem) ⊕ (Mem) ⊕ (Mem) ⊕ (Mem) ⊕ (Mem) ⊕ (Mem) ⊕ (Mem) ⊕ (Mem) ⊕ (Mem) ⊕ (Mem) ⊕ (Mem) ⊕ (Mem) ⊕ (Mem) ⊕ (Mem) ⊕ (Mem) ⊕ (Mem) ⊕ (Mem) ⊕ (Mem) ⊕ (Mem) ⊕ (Mem) ⊕ (Mem) ⊕ (Mem) ⊕ (Mem) ⊕ (Mem) ⊕ (Mem) ⊕ (Mem) ⊕ (Mem) ⊕ (Mem) ⊕ (Mem) ⊕ (Mem) ⊕ (Mem) ⊕ (Mem) ⊕ (Mem) ⊕ (Mem) ⊕ (Mem) ⊕ (Mem) ⊕ (Mem) ⊕ (Mem))) := if (jand ((xs (x3).toNat).toInt) (63 : Int)) = (27 : Int) then (chk (0 ≤ (jadd x3 (1 : Int)) ∧ (jadd x3 (1 : Int)) < ((N : Nat) : Int)) ((f_X10_watch σ ((xs ((jadd x3 (1 : Int))).toNat).toInt)).bind fun v109 => (chk (0 ≤ (jadd x3 (1 : Int)) ∧ (jadd x3 (1 : Int)) < ((N : Nat) : Int)) ((f_X11_watch v109.2 ((xs ((jadd x3 (1 : Int))).toNat).toInt)).bind fun v111 => (if v109.1 = v111.1 then (f_L_law_1774 N xs v111.2 x3) else (some (.inr (.inr (.inr (.inr (.inr (.inr (.inr (.inr (.inr (.inr (.inr (.inr (.inr (.inr (.inr (.inr (.inr (.inr (.inr (.inr (.inr (.inr (.inr (.inr (.inr (.inr (.inr (.inr (.inl v111.2))))))))))))))))))))))))))))))))))) else tl_28 N xs σ x3
def tl_26 (N : Nat) (xs : Nat → Int32) (σ : Mem) (x3 : Int) : Option ((Int × Mem) ⊕ ((Mem) ⊕ (Mem) ⊕ (Mem) ⊕ (Mem) ⊕ (Mem) ⊕ (Mem) ⊕ (Mem) ⊕ (Mem) ⊕ (Mem) ⊕ (Mem) ⊕ (Mem) ⊕ (Mem) ⊕ (Mem) ⊕ (Mem) ⊕ (Mem) ⊕ (Mem) ⊕ (Mem) ⊕ (Mem) ⊕ (Mem) ⊕ (Mem) ⊕ (Mem) ⊕ (Mem) ⊕ (Mem) ⊕ (Mem) ⊕ (Mem) ⊕ (Mem) ⊕ (Mem) ⊕ (Mem) ⊕ (Mem) ⊕ (Mem) ⊕ (Mem) ⊕ (Mem) ⊕ (Mem) ⊕ (Mem) ⊕ (Mem) ⊕ (Mem) ⊕ (Mem) ⊕ (Mem) ⊕ (Mem) ⊕ (Mem) ⊕ (Mem) ⊕ (Mem) ⊕ (Mem) ⊕ (Mem) ⊕ (Mem) ⊕ (Mem))) := if (jand ((xs (x3).toNat).toInt) (63 : Int)) = (26 : Int) then (chk (0 ≤ (jadd x3 (1 : Int)) ∧ (jadd x3 (1 : Int)) < ((N : Nat) : Int)) (chk (0 ≤ (jadd x3 (2 : Int)) ∧ (jadd x3 (2 : Int)) < ((N : Nat) : Int)) ((f_X10_lawful σ ((xs ((jadd x3 (1 : Int))).toNat).toInt) ((xs ((jadd x3 (2 : Int))).toNat).toInt)).bind fun v105 => (chk (0 ≤ (jadd x3 (1 : Int)) ∧ (jadd x3 (1 : Int)) < ((N : Nat) : Int)) (chk (0 ≤ (jadd x3 (2 : Int)) ∧ (jadd x3 (2 : Int)) < ((N : Nat) : Int)) ((f_X11_lawful v105.2 ((xs ((jadd x3 (1 : Int))).toNat).toInt) ((xs ((jadd x3 (2 : Int))).toNat).toInt)).bind fun v107 => (if v105.1 = v107.1 then (f_L_law_1774 N xs v107.2 x3) else (some (.inr (.inr (.inr (.inr (.inr (.inr (.inr (.inr (.inr (.inr (.inr (.inr (.inr (.inr (.inr (.inr (.inr (.inr (.inr (.inr (.inr (.inr (.inr (.inr (.inr (.inr (.inr (.inl v107.2)))))))))))))))))))))))))))))))))))) else tl_27 N xs σ x3
def tl_25 (N : Nat) (xs : Nat → Int32) (σ : Mem) (x3 : Int) : Option ((Int × Mem) ⊕ ((Mem) ⊕ (Mem) ⊕ (Mem) ⊕ (Mem) ⊕ (Mem) ⊕ (Mem) ⊕ (Mem) ⊕ (Mem) ⊕ (Mem) ⊕ (Mem) ⊕ (Mem) ⊕ (Mem) ⊕ (Mem) ⊕ (Mem) ⊕ (Mem) ⊕ (Mem) ⊕ (Mem) ⊕ (Mem) ⊕ (Mem) ⊕ (Mem) ⊕ (Mem) ⊕ (Mem) ⊕ (Mem) ⊕ (Mem) ⊕ (Mem) ⊕ (Mem) ⊕ (Mem) ⊕ (Mem) ⊕ (Mem) ⊕ (Mem) ⊕ (Mem) ⊕ (Mem) ⊕ (Mem) ⊕ (Mem) ⊕ (Mem) ⊕ (Mem) ⊕ (Mem) ⊕ (Mem) ⊕ (Mem) ⊕ (Mem) ⊕ (Mem) ⊕ (Mem) ⊕ (Mem) ⊕ (Mem) ⊕ (Mem) ⊕ (Mem))) := if (jand ((xs (x3).toNat).toInt) (63 : Int)) = (25 : Int) then (chk (0 ≤ (jadd x3 (1 : Int)) ∧ (jadd x3 (1 : Int)) < ((N : Nat) : Int)) (chk (0 ≤ (jadd x3 (2 : Int)) ∧ (jadd x3 (2 : Int)) < ((N : Nat) : Int)) (chk (0 ≤ (jadd x3 (3 : Int)) ∧ (jadd x3 (3 : Int)) < ((N : Nat) : Int)) (chk (0 ≤ (jadd x3 (4 : Int)) ∧ (jadd x3 (4 : Int)) < ((N : Nat) : Int)) ((f_X10_best σ ((xs ((jadd x3 (1 : Int))).toNat).toInt) ((xs ((jadd x3 (2 : Int))).toNat).toInt) ((xs ((jadd x3 (3 : Int))).toNat).toInt) ((xs ((jadd x3 (4 : Int))).toNat).toInt)).bind fun v101 => (chk (0 ≤ (jadd x3 (1 : Int)) ∧ (jadd x3 (1 : Int)) < ((N : Nat) : Int)) (chk (0 ≤ (jadd x3 (2 : Int)) ∧ (jadd x3 (2 : Int)) < ((N : Nat) : Int)) (chk (0 ≤ (jadd x3 (3 : Int)) ∧ (jadd x3 (3 : Int)) < ((N : Nat) : Int)) (chk (0 ≤ (jadd x3 (4 : Int)) ∧ (jadd x3 (4 : Int)) < ((N : Nat) : Int)) ((f_X11_best v101.2 ((xs ((jadd x3 (1 : Int))).toNat).toInt) ((xs ((jadd x3 (2 : Int))).toNat).toInt) ((xs ((jadd x3 (3 : Int))).toNat).toInt) ((xs ((jadd x3 (4 : Int))).toNat).toInt)).bind fun v103 => (if v101.1 = v103.1 then (f_L_law_1774 N xs v103.2 x3) else (some (.inr (.inr (.inr (.inr (.inr (.inr (.inr (.inr (.inr (.inr (.inr (.inr (.inr (.inr (.inr (.inr (.inr (.inr (.inr (.inr (.inr (.inr (.inr (.inr (.inr (.inr (.inl v103.2))))))))))))))))))))))))))))))))))))))) else tl_26 N xs σ x3
def tl_24 (N : Nat) (xs : Nat → Int32) (σ : Mem) (x3 : Int) : Option ((Int × Mem) ⊕ ((Mem) ⊕ (Mem) ⊕ (Mem) ⊕ (Mem) ⊕ (Mem) ⊕ (Mem) ⊕ (Mem) ⊕ (Mem) ⊕ (Mem) ⊕ (Mem) ⊕ (Mem) ⊕ (Mem) ⊕ (Mem) ⊕ (Mem) ⊕ (Mem) ⊕ (Mem) ⊕ (Mem) ⊕ (Mem) ⊕ (Mem) ⊕ (Mem) ⊕ (Mem) ⊕ (Mem) ⊕ (Mem) ⊕ (Mem) ⊕ (Mem) ⊕ (Mem) ⊕ (Mem) ⊕ (Mem) ⊕ (Mem) ⊕ (Mem) ⊕ (Mem) ⊕ (Mem) ⊕ (Mem) ⊕ (Mem) ⊕ (Mem) ⊕ (Mem) ⊕ (Mem) ⊕ (Mem) ⊕ (Mem) ⊕ (Mem) ⊕ (Mem) ⊕ (Mem) ⊕ (Mem) ⊕ (Mem) ⊕ (Mem) ⊕ (Mem))) := if (jand ((xs (x3).toNat).toInt) (63 : Int)) = (24 : Int) then (chk (0 ≤ (jadd x3 (1 : Int)) ∧ (jadd x3 (1 : Int)) < ((N : Nat) : Int)) (chk (0 ≤ (jadd x3 (2 : Int)) ∧ (jadd x3 (2 : Int)) < ((N : Nat) : Int)) (chk (0 ≤ (jadd x3 (3 : Int)) ∧ (jadd x3 (3 : Int)) < ((N : Nat) : Int)) ((f_X10_measure σ ((xs ((jadd x3 (1 : Int))).toNat).toInt) ((xs ((jadd x3 (2 : Int))).toNat).toInt) ((xs ((jadd x3 (3 : Int))).toNat).toInt)).bind fun v97 => (chk (0 ≤ (jadd x3 (1 : Int)) ∧ (jadd x3 (1 : Int)) < ((N : Nat) : Int)) (chk (0 ≤ (jadd x3 (2 : Int)) ∧ (jadd x3 (2 : Int)) < ((N : Nat) : Int)) (chk (0 ≤ (jadd x3 (3 : Int)) ∧ (jadd x3 (3 : Int)) < ((N : Nat) : Int)) ((f_X11_measure v97.2 ((xs ((jadd x3 (1 : Int))).toNat).toInt) ((xs ((jadd x3 (2 : Int))).toNat).toInt) ((xs ((jadd x3 (3 : Int))).toNat).toInt)).bind fun v99 => (if v97.1 = v99.1 then (f_L_law_1774 N xs v99.2 x3) else (some (.inr (.inr (.inr (.inr (.inr (.inr (.inr (.inr (.inr (.inr (.inr (.inr (.inr (.inr (.inr (.inr (.inr (.inr (.inr (.inr (.inr (.inr (.inr (.inr (.inr (.inl v99.2)))))))))))))))))))))))))))))))))))) else tl_25 N xs σ x3
def tl_23 (N : Nat) (xs : Nat → Int32) (σ : Mem) (x3 : Int) : Option ((Int × Mem) ⊕ ((Mem) ⊕ (Mem) ⊕ (Mem) ⊕ (Mem) ⊕ (Mem) ⊕ (Mem) ⊕ (Mem) ⊕ (Mem) ⊕ (Mem) ⊕ (Mem) ⊕ (Mem) ⊕ (Mem) ⊕ (Mem) ⊕ (Mem) ⊕ (Mem) ⊕ (Mem) ⊕ (Mem) ⊕ (Mem) ⊕ (Mem) ⊕ (Mem) ⊕ (Mem) ⊕ (Mem) ⊕ (Mem) ⊕ (Mem) ⊕ (Mem) ⊕ (Mem) ⊕ (Mem) ⊕ (Mem) ⊕ (Mem) ⊕ (Mem) ⊕ (Mem) ⊕ (Mem) ⊕ (Mem) ⊕ (Mem) ⊕ (Mem) ⊕ (Mem) ⊕ (Mem) ⊕ (Mem) ⊕ (Mem) ⊕ (Mem) ⊕ (Mem) ⊕ (Mem) ⊕ (Mem) ⊕ (Mem) ⊕ (Mem) ⊕ (Mem))) := if (jand ((xs (x3).toNat).toInt) (63 : Int)) = (23 : Int) then (chk (0 ≤ (jadd x3 (1 : Int)) ∧ (jadd x3 (1 : Int)) < ((N : Nat) : Int)) (chk (0 ≤ (jadd x3 (2 : Int)) ∧ (jadd x3 (2 : Int)) < ((N : Nat) : Int)) (chk (0 ≤ (jadd x3 (3 : Int)) ∧ (jadd x3 (3 : Int)) < ((N : Nat) : Int)) ((f_X10_does σ ((xs ((jadd x3 (1 : Int))).toNat).toInt) ((xs ((jadd x3 (2 : Int))).toNat).toInt) ((xs ((jadd x3 (3 : Int))).toNat).toInt)).bind fun v93 => (chk (0 ≤ (jadd x3 (1 : Int)) ∧ (jadd x3 (1 : Int)) < ((N : Nat) : Int)) (chk (0 ≤ (jadd x3 (2 : Int)) ∧ (jadd x3 (2 : Int)) < ((N : Nat) : Int)) (chk (0 ≤ (jadd x3 (3 : Int)) ∧ (jadd x3 (3 : Int)) < ((N : Nat) : Int)) ((f_X11_does v93.2 ((xs ((jadd x3 (1 : Int))).toNat).toInt) ((xs ((jadd x3 (2 : Int))).toNat).toInt) ((xs ((jadd x3 (3 : Int))).toNat).toInt)).bind fun v95 => (if v93.1 = v95.1 then (f_L_law_1774 N xs v95.2 x3) else (some (.inr (.inr (.inr (.inr (.inr (.inr (.inr (.inr (.inr (.inr (.inr (.inr (.inr (.inr (.inr (.inr (.inr (.inr (.inr (.inr (.inr (.inr (.inr (.inr (.inl v95.2))))))))))))))))))))))))))))))))))) else tl_24 N xs σ x3
def tl_22 (N : Nat) (xs : Nat → Int32) (σ : Mem) (x3 : Int) : Option ((Int × Mem) ⊕ ((Mem) ⊕ (Mem) ⊕ (Mem) ⊕ (Mem) ⊕ (Mem) ⊕ (Mem) ⊕ (Mem) ⊕ (Mem) ⊕ (Mem) ⊕ (Mem) ⊕ (Mem) ⊕ (Mem) ⊕ (Mem) ⊕ (Mem) ⊕ (Mem) ⊕ (Mem) ⊕ (Mem) ⊕ (Mem) ⊕ (Mem) ⊕ (Mem) ⊕ (Mem) ⊕ (Mem) ⊕ (Mem) ⊕ (Mem) ⊕ (Mem) ⊕ (Mem) ⊕ (Mem) ⊕ (Mem) ⊕ (Mem) ⊕ (Mem) ⊕ (Mem) ⊕ (Mem) ⊕ (Mem) ⊕ (Mem) ⊕ (Mem) ⊕ (Mem) ⊕ (Mem) ⊕ (Mem) ⊕ (Mem) ⊕ (Mem) ⊕ (Mem) ⊕ (Mem) ⊕ (Mem) ⊕ (Mem) ⊕ (Mem) ⊕ (Mem))) := if (jand ((xs (x3).toNat).toInt) (63 : Int)) = (22 : Int) then (chk (0 ≤ (jadd x3 (1 : Int)) ∧ (jadd x3 (1 : Int)) < ((N : Nat) : Int)) (chk (0 ≤ (jadd x3 (2 : Int)) ∧ (jadd x3 (2 : Int)) < ((N : Nat) : Int)) (chk (0 ≤ (jadd x3 (3 : Int)) ∧ (jadd x3 (3 : Int)) < ((N : Nat) : Int)) (chk (0 ≤ (jadd x3 (4 : Int)) ∧ (jadd x3 (4 : Int)) < ((N : Nat) : Int)) ((f_X10_sits σ ((xs ((jadd x3 (1 : Int))).toNat).toInt) ((xs ((jadd x3 (2 : Int))).toNat).toInt) ((xs ((jadd x3 (3 : Int))).toNat).toInt) ((xs ((jadd x3 (4 : Int))).toNat).toInt)).bind fun v89 => (chk (0 ≤ (jadd x3 (1 : Int)) ∧ (jadd x3 (1 : Int)) < ((N : Nat) : Int)) (chk (0 ≤ (jadd x3 (2 : Int)) ∧ (jadd x3 (2 : Int)) < ((N : Nat) : Int)) (chk (0 ≤ (jadd x3 (3 : Int)) ∧ (jadd x3 (3 : Int)) < ((N : Nat) : Int)) (chk (0 ≤ (jadd x3 (4 : Int)) ∧ (jadd x3 (4 : Int)) < ((N : Nat) : Int)) ((f_X11_sits v89.2 ((xs ((jadd x3 (1 : Int))).toNat).toInt) ((xs ((jadd x3 (2 : Int))).toNat).toInt) ((xs ((jadd x3 (3 : Int))).toNat).toInt) ((xs ((jadd x3 (4 : Int))).toNat).toInt)).bind fun v91 => (if v89.1 = v91.1 then (f_L_law_1774 N xs v91.2 x3) else (some (.inr (.inr (.inr (.inr (.inr (.inr (.inr (.inr (.inr (.inr (.inr (.inr (.inr (.inr (.inr (.inr (.inr (.inr (.inr (.inr (.inr (.inr (.inr (.inl v91.2)))))))))))))))))))))))))))))))))))) else tl_23 N xs σ x3
def tl_21 (N : Nat) (xs : Nat → Int32) (σ : Mem) (x3 : Int) : Option ((Int × Mem) ⊕ ((Mem) ⊕ (Mem) ⊕ (Mem) ⊕ (Mem) ⊕ (Mem) ⊕ (Mem) ⊕ (Mem) ⊕ (Mem) ⊕ (Mem) ⊕ (Mem) ⊕ (Mem) ⊕ (Mem) ⊕ (Mem) ⊕ (Mem) ⊕ (Mem) ⊕ (Mem) ⊕ (Mem) ⊕ (Mem) ⊕ (Mem) ⊕ (Mem) ⊕ (Mem) ⊕ (Mem) ⊕ (Mem) ⊕ (Mem) ⊕ (Mem) ⊕ (Mem) ⊕ (Mem) ⊕ (Mem) ⊕ (Mem) ⊕ (Mem) ⊕ (Mem) ⊕ (Mem) ⊕ (Mem) ⊕ (Mem) ⊕ (Mem) ⊕ (Mem) ⊕ (Mem) ⊕ (Mem) ⊕ (Mem) ⊕ (Mem) ⊕ (Mem) ⊕ (Mem) ⊕ (Mem) ⊕ (Mem) ⊕ (Mem) ⊕ (Mem))) := if (jand ((xs (x3).toNat).toInt) (63 : Int)) = (21 : Int) then (chk (0 ≤ (jadd x3 (1 : Int)) ∧ (jadd x3 (1 : Int)) < ((N : Nat) : Int)) (chk (0 ≤ (jadd x3 (2 : Int)) ∧ (jadd x3 (2 : Int)) < ((N : Nat) : Int)) (chk (0 ≤ (jadd x3 (3 : Int)) ∧ (jadd x3 (3 : Int)) < ((N : Nat) : Int)) ((f_X10_plan σ ((xs ((jadd x3 (1 : Int))).toNat).toInt) ((xs ((jadd x3 (2 : Int))).toNat).toInt) ((xs ((jadd x3 (3 : Int))).toNat).toInt)).bind fun v85 => (chk (0 ≤ (jadd x3 (1 : Int)) ∧ (jadd x3 (1 : Int)) < ((N : Nat) : Int)) (chk (0 ≤ (jadd x3 (2 : Int)) ∧ (jadd x3 (2 : Int)) < ((N : Nat) : Int)) (chk (0 ≤ (jadd x3 (3 : Int)) ∧ (jadd x3 (3 : Int)) < ((N : Nat) : Int)) ((f_X11_plan v85.2 ((xs ((jadd x3 (1 : Int))).toNat).toInt) ((xs ((jadd x3 (2 : Int))).toNat).toInt) ((xs ((jadd x3 (3 : Int))).toNat).toInt)).bind fun v87 => (if v85.1 = v87.1 then (f_L_law_1774 N xs v87.2 x3) else (some (.inr (.inr (.inr (.inr (.inr (.inr (.inr (.inr (.inr (.inr (.inr (.inr (.inr (.inr (.inr (.inr (.inr (.inr (.inr (.inr (.inr (.inr (.inl v87.2))))))))))))))))))))))))))))))))) else tl_22 N xs σ x3
def tl_20 (N : Nat) (xs : Nat → Int32) (σ : Mem) (x3 : Int) : Option ((Int × Mem) ⊕ ((Mem) ⊕ (Mem) ⊕ (Mem) ⊕ (Mem) ⊕ (Mem) ⊕ (Mem) ⊕ (Mem) ⊕ (Mem) ⊕ (Mem) ⊕ (Mem) ⊕ (Mem) ⊕ (Mem) ⊕ (Mem) ⊕ (Mem) ⊕ (Mem) ⊕ (Mem) ⊕ (Mem) ⊕ (Mem) ⊕ (Mem) ⊕ (Mem) ⊕ (Mem) ⊕ (Mem) ⊕ (Mem) ⊕ (Mem) ⊕ (Mem) ⊕ (Mem) ⊕ (Mem) ⊕ (Mem) ⊕ (Mem) ⊕ (Mem) ⊕ (Mem) ⊕ (Mem) ⊕ (Mem) ⊕ (Mem) ⊕ (Mem) ⊕ (Mem) ⊕ (Mem) ⊕ (Mem) ⊕ (Mem) ⊕ (Mem) ⊕ (Mem) ⊕ (Mem) ⊕ (Mem) ⊕ (Mem) ⊕ (Mem) ⊕ (Mem))) := if (jand ((xs (x3).toNat).toInt) (63 : Int)) = (20 : Int) then (chk (0 ≤ (jadd x3 (1 : Int)) ∧ (jadd x3 (1 : Int)) < ((N : Nat) : Int)) (chk (0 ≤ (jadd x3 (2 : Int)) ∧ (jadd x3 (2 : Int)) < ((N : Nat) : Int)) ((f_X10_time σ ((xs ((jadd x3 (1 : Int))).toNat).toInt) ((xs ((jadd x3 (2 : Int))).toNat).toInt)).bind fun v81 => (chk (0 ≤ (jadd x3 (1 : Int)) ∧ (jadd x3 (1 : Int)) < ((N : Nat) : Int)) (chk (0 ≤ (jadd x3 (2 : Int)) ∧ (jadd x3 (2 : Int)) < ((N : Nat) : Int)) ((f_X11_time v81.2 ((xs ((jadd x3 (1 : Int))).toNat).toInt) ((xs ((jadd x3 (2 : Int))).toNat).toInt)).bind fun v83 => (if v81.1 = v83.1 then (f_L_law_1774 N xs v83.2 x3) else (some (.inr (.inr (.inr (.inr (.inr (.inr (.inr (.inr (.inr (.inr (.inr (.inr (.inr (.inr (.inr (.inr (.inr (.inr (.inr (.inr (.inr (.inl v83.2)))))))))))))))))))))))))))))) else tl_21 N xs σ x3
def tl_19 (N : Nat) (xs : Nat → Int32) (σ : Mem) (x3 : Int) : Option ((Int × Mem) ⊕ ((Mem) ⊕ (Mem) ⊕ (Mem) ⊕ (Mem) ⊕ (Mem) ⊕ (Mem) ⊕ (Mem) ⊕ (Mem) ⊕ (Mem) ⊕ (Mem) ⊕ (Mem) ⊕ (Mem) ⊕ (Mem) ⊕ (Mem) ⊕ (Mem) ⊕ (Mem) ⊕ (Mem) ⊕ (Mem) ⊕ (Mem) ⊕ (Mem) ⊕ (Mem) ⊕ (Mem) ⊕ (Mem) ⊕ (Mem) ⊕ (Mem) ⊕ (Mem) ⊕ (Mem) ⊕ (Mem) ⊕ (Mem) ⊕ (Mem) ⊕ (Mem) ⊕ (Mem) ⊕ (Mem) ⊕ (Mem) ⊕ (Mem) ⊕ (Mem) ⊕ (Mem) ⊕ (Mem) ⊕ (Mem) ⊕ (Mem) ⊕ (Mem) ⊕ (Mem) ⊕ (Mem) ⊕ (Mem) ⊕ (Mem) ⊕ (Mem))) := if (jand ((xs (x3).toNat).toInt) (63 : Int)) = (19 : Int) then (chk (0 ≤ (jadd x3 (1 : Int)) ∧ (jadd x3 (1 : Int)) < ((N : Nat) : Int)) (chk (0 ≤ (jadd x3 (2 : Int)) ∧ (jadd x3 (2 : Int)) < ((N : Nat) : Int)) ((f_X10_paperOf σ ((xs ((jadd x3 (1 : Int))).toNat).toInt) ((xs ((jadd x3 (2 : Int))).toNat).toInt)).bind fun v77 => (chk (0 ≤ (jadd x3 (1 : Int)) ∧ (jadd x3 (1 : Int)) < ((N : Nat) : Int)) (chk (0 ≤ (jadd x3 (2 : Int)) ∧ (jadd x3 (2 : Int)) < ((N : Nat) : Int)) ((f_X11_paperOf v77.2 ((xs ((jadd x3 (1 : Int))).toNat).toInt) ((xs ((jadd x3 (2 : Int))).toNat).toInt)).bind fun v79 => (if v77.1 = v79.1 then (f_L_law_1774 N xs v79.2 x3) else (some (.inr (.inr (.inr (.inr (.inr (.inr (.inr (.inr (.inr (.inr (.inr (.inr (.inr (.inr (.inr (.inr (.inr (.inr (.inr (.inr (.inl v79.2))))))))))))))))))))))))))))) else tl_20 N xs σ x3
def tl_18 (N : Nat) (xs : Nat → Int32) (σ : Mem) (x3 : Int) : Option ((Int × Mem) ⊕ ((Mem) ⊕ (Mem) ⊕ (Mem) ⊕ (Mem) ⊕ (Mem) ⊕ (Mem) ⊕ (Mem) ⊕ (Mem) ⊕ (Mem) ⊕ (Mem) ⊕ (Mem) ⊕ (Mem) ⊕ (Mem) ⊕ (Mem) ⊕ (Mem) ⊕ (Mem) ⊕ (Mem) ⊕ (Mem) ⊕ (Mem) ⊕ (Mem) ⊕ (Mem) ⊕ (Mem) ⊕ (Mem) ⊕ (Mem) ⊕ (Mem) ⊕ (Mem) ⊕ (Mem) ⊕ (Mem) ⊕ (Mem) ⊕ (Mem) ⊕ (Mem) ⊕ (Mem) ⊕ (Mem) ⊕ (Mem) ⊕ (Mem) ⊕ (Mem) ⊕ (Mem) ⊕ (Mem) ⊕ (Mem) ⊕ (Mem) ⊕ (Mem) ⊕ (Mem) ⊕ (Mem) ⊕ (Mem) ⊕ (Mem) ⊕ (Mem))) := if (jand ((xs (x3).toNat).toInt) (63 : Int)) = (18 : Int) then (chk (0 ≤ (jadd x3 (1 : Int)) ∧ (jadd x3 (1 : Int)) < ((N : Nat) : Int)) (chk (0 ≤ (jadd x3 (2 : Int)) ∧ (jadd x3 (2 : Int)) < ((N : Nat) : Int)) ((f_X10_candOf σ ((xs ((jadd x3 (1 : Int))).toNat).toInt) ((xs ((jadd x3 (2 : Int))).toNat).toInt)).bind fun v73 => (chk (0 ≤ (jadd x3 (1 : Int)) ∧ (jadd x3 (1 : Int)) < ((N : Nat) : Int)) (chk (0 ≤ (jadd x3 (2 : Int)) ∧ (jadd x3 (2 : Int)) < ((N : Nat) : Int)) ((f_X11_candOf v73.2 ((xs ((jadd x3 (1 : Int))).toNat).toInt) ((xs ((jadd x3 (2 : Int))).toNat).toInt)).bind fun v75 => (if v73.1 = v75.1 then (f_L_law_1774 N xs v75.2 x3) else (some (.inr (.inr (.inr (.inr (.inr (.inr (.inr (.inr (.inr (.inr (.inr (.inr (.inr (.inr (.inr (.inr (.inr (.inr (.inr (.inl v75.2)))))))))))))))))))))))))))) else tl_19 N xs σ x3
def tl_17 (N : Nat) (xs : Nat → Int32) (σ : Mem) (x3 : Int) : Option ((Int × Mem) ⊕ ((Mem) ⊕ (Mem) ⊕ (Mem) ⊕ (Mem) ⊕ (Mem) ⊕ (Mem) ⊕ (Mem) ⊕ (Mem) ⊕ (Mem) ⊕ (Mem) ⊕ (Mem) ⊕ (Mem) ⊕ (Mem) ⊕ (Mem) ⊕ (Mem) ⊕ (Mem) ⊕ (Mem) ⊕ (Mem) ⊕ (Mem) ⊕ (Mem) ⊕ (Mem) ⊕ (Mem) ⊕ (Mem) ⊕ (Mem) ⊕ (Mem) ⊕ (Mem) ⊕ (Mem) ⊕ (Mem) ⊕ (Mem) ⊕ (Mem) ⊕ (Mem) ⊕ (Mem) ⊕ (Mem) ⊕ (Mem) ⊕ (Mem) ⊕ (Mem) ⊕ (Mem) ⊕ (Mem) ⊕ (Mem) ⊕ (Mem) ⊕ (Mem) ⊕ (Mem) ⊕ (Mem) ⊕ (Mem) ⊕ (Mem) ⊕ (Mem))) := if (jand ((xs (x3).toNat).toInt) (63 : Int)) = (17 : Int) then ((f_X10_book σ).bind fun v69 => ((f_X11_book v69.2).bind fun v71 => (if v69.1 = v71.1 then (f_L_law_1774 N xs v71.2 x3) else (some (.inr (.inr (.inr (.inr (.inr (.inr (.inr (.inr (.inr (.inr (.inr (.inr (.inr (.inr (.inr (.inr (.inr (.inr (.inl v71.2))))))))))))))))))))))) else tl_18 N xs σ x3
def tl_16 (N : Nat) (xs : Nat → Int32) (σ : Mem) (x3 : Int) : Option ((Int × Mem) ⊕ ((Mem) ⊕ (Mem) ⊕ (Mem) ⊕ (Mem) ⊕ (Mem) ⊕ (Mem) ⊕ (Mem) ⊕ (Mem) ⊕ (Mem) ⊕ (Mem) ⊕ (Mem) ⊕ (Mem) ⊕ (Mem) ⊕ (Mem) ⊕ (Mem) ⊕ (Mem) ⊕ (Mem) ⊕ (Mem) ⊕ (Mem) ⊕ (Mem) ⊕ (Mem) ⊕ (Mem) ⊕ (Mem) ⊕ (Mem) ⊕ (Mem) ⊕ (Mem) ⊕ (Mem) ⊕ (Mem) ⊕ (Mem) ⊕ (Mem) ⊕ (Mem) ⊕ (Mem) ⊕ (Mem) ⊕ (Mem) ⊕ (Mem) ⊕ (Mem) ⊕ (Mem) ⊕ (Mem) ⊕ (Mem) ⊕ (Mem) ⊕ (Mem) ⊕ (Mem) ⊕ (Mem) ⊕ (Mem) ⊕ (Mem) ⊕ (Mem))) := if (jand ((xs (x3).toNat).toInt) (63 : Int)) = (16 : Int) then ((f_X10_wipe σ).bind fun v65 => ((f_X11_wipe v65.2).bind fun v67 => (if v65.1 = v67.1 then (f_L_law_1774 N xs v67.2 x3) else (some (.inr (.inr (.inr (.inr (.inr (.inr (.inr (.inr (.inr (.inr (.inr (.inr (.inr (.inr (.inr (.inr (.inr (.inl v67.2)))))))))))))))))))))) else tl_17 N xs σ x3
def tl_15 (N : Nat) (xs : Nat → Int32) (σ : Mem) (x3 : Int) : Option ((Int × Mem) ⊕ ((Mem) ⊕ (Mem) ⊕ (Mem) ⊕ (Mem) ⊕ (Mem) ⊕ (Mem) ⊕ (Mem) ⊕ (Mem) ⊕ (Mem) ⊕ (Mem) ⊕ (Mem) ⊕ (Mem) ⊕ (Mem) ⊕ (Mem) ⊕ (Mem) ⊕ (Mem) ⊕ (Mem) ⊕ (Mem) ⊕ (Mem) ⊕ (Mem) ⊕ (Mem) ⊕ (Mem) ⊕ (Mem) ⊕ (Mem) ⊕ (Mem) ⊕ (Mem) ⊕ (Mem) ⊕ (Mem) ⊕ (Mem) ⊕ (Mem) ⊕ (Mem) ⊕ (Mem) ⊕ (Mem) ⊕ (Mem) ⊕ (Mem) ⊕ (Mem) ⊕ (Mem) ⊕ (Mem) ⊕ (Mem) ⊕ (Mem) ⊕ (Mem) ⊕ (Mem) ⊕ (Mem) ⊕ (Mem) ⊕ (Mem) ⊕ (Mem))) := if (jand ((xs (x3).toNat).toInt) (63 : Int)) = (15 : Int) then (chk (0 ≤ (jadd x3 (1 : Int)) ∧ (jadd x3 (1 : Int)) < ((N : Nat) : Int)) ((f_X10_feed σ ((xs ((jadd x3 (1 : Int))).toNat).toInt)).bind fun v61 => (chk (0 ≤ (jadd x3 (1 : Int)) ∧ (jadd x3 (1 : Int)) < ((N : Nat) : Int)) ((f_X11_feed v61.2 ((xs ((jadd x3 (1 : Int))).toNat).toInt)).bind fun v63 => (if v61.1 = v63.1 then (f_L_law_1774 N xs v63.2 x3) else (some (.inr (.inr (.inr (.inr (.inr (.inr (.inr (.inr (.inr (.inr (.inr (.inr (.inr (.inr (.inr (.inr (.inl v63.2))))))))))))))))))))))) else tl_16 N xs σ x3
def tl_14 (N : Nat) (xs : Nat → Int32) (σ : Mem) (x3 : Int) : Option ((Int × Mem) ⊕ ((Mem) ⊕ (Mem) ⊕ (Mem) ⊕ (Mem) ⊕ (Mem) ⊕ (Mem) ⊕ (Mem) ⊕ (Mem) ⊕ (Mem) ⊕ (Mem) ⊕ (Mem) ⊕ (Mem) ⊕ (Mem) ⊕ (Mem) ⊕ (Mem) ⊕ (Mem) ⊕ (Mem) ⊕ (Mem) ⊕ (Mem) ⊕ (Mem) ⊕ (Mem) ⊕ (Mem) ⊕ (Mem) ⊕ (Mem) ⊕ (Mem) ⊕ (Mem) ⊕ (Mem) ⊕ (Mem) ⊕ (Mem) ⊕ (Mem) ⊕ (Mem) ⊕ (Mem) ⊕ (Mem) ⊕ (Mem) ⊕ (Mem) ⊕ (Mem) ⊕ (Mem) ⊕ (Mem) ⊕ (Mem) ⊕ (Mem) ⊕ (Mem) ⊕ (Mem) ⊕ (Mem) ⊕ (Mem) ⊕ (Mem) ⊕ (Mem))) := if (jand ((xs (x3).toNat).toInt) (63 : Int)) = (14 : Int) then (chk (0 ≤ (jadd x3 (1 : Int)) ∧ (jadd x3 (1 : Int)) < ((N : Nat) : Int)) ((f_X10_turn σ ((xs ((jadd x3 (1 : Int))).toNat).toInt)).bind fun v57 => (chk (0 ≤ (jadd x3 (1 : Int)) ∧ (jadd x3 (1 : Int)) < ((N : Nat) : Int)) ((f_X11_turn v57.2 ((xs ((jadd x3 (1 : Int))).toNat).toInt)).bind fun v59 => (if v57.1 = v59.1 then (f_L_law_1774 N xs v59.2 x3) else (some (.inr (.inr (.inr (.inr (.inr (.inr (.inr (.inr (.inr (.inr (.inr (.inr (.inr (.inr (.inr (.inl v59.2)))))))))))))))))))))) else tl_15 N xs σ x3
def tl_13 (N : Nat) (xs : Nat → Int32) (σ : Mem) (x3 : Int) : Option ((Int × Mem) ⊕ ((Mem) ⊕ (Mem) ⊕ (Mem) ⊕ (Mem) ⊕ (Mem) ⊕ (Mem) ⊕ (Mem) ⊕ (Mem) ⊕ (Mem) ⊕ (Mem) ⊕ (Mem) ⊕ (Mem) ⊕ (Mem) ⊕ (Mem) ⊕ (Mem) ⊕ (Mem) ⊕ (Mem) ⊕ (Mem) ⊕ (Mem) ⊕ (Mem) ⊕ (Mem) ⊕ (Mem) ⊕ (Mem) ⊕ (Mem) ⊕ (Mem) ⊕ (Mem) ⊕ (Mem) ⊕ (Mem) ⊕ (Mem) ⊕ (Mem) ⊕ (Mem) ⊕ (Mem) ⊕ (Mem) ⊕ (Mem) ⊕ (Mem) ⊕ (Mem) ⊕ (Mem) ⊕ (Mem) ⊕ (Mem) ⊕ (Mem) ⊕ (Mem) ⊕ (Mem) ⊕ (Mem) ⊕ (Mem) ⊕ (Mem) ⊕ (Mem))) := if (jand ((xs (x3).toNat).toInt) (63 : Int)) = (13 : Int) then (chk (0 ≤ (jadd x3 (1 : Int)) ∧ (jadd x3 (1 : Int)) < ((N : Nat) : Int)) ((f_X10_hours σ ((xs ((jadd x3 (1 : Int))).toNat).toInt)).bind fun v53 => (chk (0 ≤ (jadd x3 (1 : Int)) ∧ (jadd x3 (1 : Int)) < ((N : Nat) : Int)) ((f_X11_hours v53.2 ((xs ((jadd x3 (1 : Int))).toNat).toInt)).bind fun v55 => (if v53.1 = v55.1 then (f_L_law_1774 N xs v55.2 x3) else (some (.inr (.inr (.inr (.inr (.inr (.inr (.inr (.inr (.inr (.inr (.inr (.inr (.inr (.inr (.inl v55.2))))))))))))))))))))) else tl_14 N xs σ x3
def tl_12 (N : Nat) (xs : Nat → Int32) (σ : Mem) (x3 : Int) : Option ((Int × Mem) ⊕ ((Mem) ⊕ (Mem) ⊕ (Mem) ⊕ (Mem) ⊕ (Mem) ⊕ (Mem) ⊕ (Mem) ⊕ (Mem) ⊕ (Mem) ⊕ (Mem) ⊕ (Mem) ⊕ (Mem) ⊕ (Mem) ⊕ (Mem) ⊕ (Mem) ⊕ (Mem) ⊕ (Mem) ⊕ (Mem) ⊕ (Mem) ⊕ (Mem) ⊕ (Mem) ⊕ (Mem) ⊕ (Mem) ⊕ (Mem) ⊕ (Mem) ⊕ (Mem) ⊕ (Mem) ⊕ (Mem) ⊕ (Mem) ⊕ (Mem) ⊕ (Mem) ⊕ (Mem) ⊕ (Mem) ⊕ (Mem) ⊕ (Mem) ⊕ (Mem) ⊕ (Mem) ⊕ (Mem) ⊕ (Mem) ⊕ (Mem) ⊕ (Mem) ⊕ (Mem) ⊕ (Mem) ⊕ (Mem) ⊕ (Mem) ⊕ (Mem))) := if (jand ((xs (x3).toNat).toInt) (63 : Int)) = (12 : Int) then (chk (0 ≤ (jadd x3 (1 : Int)) ∧ (jadd x3 (1 : Int)) < ((N : Nat) : Int)) ((f_X10_room σ ((xs ((jadd x3 (1 : Int))).toNat).toInt)).bind fun v49 => (chk (0 ≤ (jadd x3 (1 : Int)) ∧ (jadd x3 (1 : Int)) < ((N : Nat) : Int)) ((f_X11_room v49.2 ((xs ((jadd x3 (1 : Int))).toNat).toInt)).bind fun v51 => (if v49.1 = v51.1 then (f_L_law_1774 N xs v51.2 x3) else (some (.inr (.inr (.inr (.inr (.inr (.inr (.inr (.inr (.inr (.inr (.inr (.inr (.inr (.inl v51.2)))))))))))))))))))) else tl_13 N xs σ x3
def tl_11 (N : Nat) (xs : Nat → Int32) (σ : Mem) (x3 : Int) : Option ((Int × Mem) ⊕ ((Mem) ⊕ (Mem) ⊕ (Mem) ⊕ (Mem) ⊕ (Mem) ⊕ (Mem) ⊕ (Mem) ⊕ (Mem) ⊕ (Mem) ⊕ (Mem) ⊕ (Mem) ⊕ (Mem) ⊕ (Mem) ⊕ (Mem) ⊕ (Mem) ⊕ (Mem) ⊕ (Mem) ⊕ (Mem) ⊕ (Mem) ⊕ (Mem) ⊕ (Mem) ⊕ (Mem) ⊕ (Mem) ⊕ (Mem) ⊕ (Mem) ⊕ (Mem) ⊕ (Mem) ⊕ (Mem) ⊕ (Mem) ⊕ (Mem) ⊕ (Mem) ⊕ (Mem) ⊕ (Mem) ⊕ (Mem) ⊕ (Mem) ⊕ (Mem) ⊕ (Mem) ⊕ (Mem) ⊕ (Mem) ⊕ (Mem) ⊕ (Mem) ⊕ (Mem) ⊕ (Mem) ⊕ (Mem) ⊕ (Mem) ⊕ (Mem))) := if (jand ((xs (x3).toNat).toInt) (63 : Int)) = (11 : Int) then (chk (0 ≤ (jadd x3 (1 : Int)) ∧ (jadd x3 (1 : Int)) < ((N : Nat) : Int)) (chk (0 ≤ (jadd x3 (2 : Int)) ∧ (jadd x3 (2 : Int)) < ((N : Nat) : Int)) ((f_X10_night σ ((xs ((jadd x3 (1 : Int))).toNat).toInt) ((xs ((jadd x3 (2 : Int))).toNat).toInt)).bind fun v45 => (chk (0 ≤ (jadd x3 (1 : Int)) ∧ (jadd x3 (1 : Int)) < ((N : Nat) : Int)) (chk (0 ≤ (jadd x3 (2 : Int)) ∧ (jadd x3 (2 : Int)) < ((N : Nat) : Int)) ((f_X11_night v45.2 ((xs ((jadd x3 (1 : Int))).toNat).toInt) ((xs ((jadd x3 (2 : Int))).toNat).toInt)).bind fun v47 => (if v45.1 = v47.1 then (f_L_law_1774 N xs v47.2 x3) else (some (.inr (.inr (.inr (.inr (.inr (.inr (.inr (.inr (.inr (.inr (.inr (.inr (.inl v47.2))))))))))))))))))))) else tl_12 N xs σ x3
def tl_10 (N : Nat) (xs : Nat → Int32) (σ : Mem) (x3 : Int) : Option ((Int × Mem) ⊕ ((Mem) ⊕ (Mem) ⊕ (Mem) ⊕ (Mem) ⊕ (Mem) ⊕ (Mem) ⊕ (Mem) ⊕ (Mem) ⊕ (Mem) ⊕ (Mem) ⊕ (Mem) ⊕ (Mem) ⊕ (Mem) ⊕ (Mem) ⊕ (Mem) ⊕ (Mem) ⊕ (Mem) ⊕ (Mem) ⊕ (Mem) ⊕ (Mem) ⊕ (Mem) ⊕ (Mem) ⊕ (Mem) ⊕ (Mem) ⊕ (Mem) ⊕ (Mem) ⊕ (Mem) ⊕ (Mem) ⊕ (Mem) ⊕ (Mem) ⊕ (Mem) ⊕ (Mem) ⊕ (Mem) ⊕ (Mem) ⊕ (Mem) ⊕ (Mem) ⊕ (Mem) ⊕ (Mem) ⊕ (Mem) ⊕ (Mem) ⊕ (Mem) ⊕ (Mem) ⊕ (Mem) ⊕ (Mem) ⊕ (Mem) ⊕ (Mem))) := if (jand ((xs (x3).toNat).toInt) (63 : Int)) = (10 : Int) then (chk (0 ≤ (jadd x3 (1 : Int)) ∧ (jadd x3 (1 : Int)) < ((N : Nat) : Int)) (chk (0 ≤ (jadd x3 (2 : Int)) ∧ (jadd x3 (2 : Int)) < ((N : Nat) : Int)) (chk (0 ≤ (jadd x3 (3 : Int)) ∧ (jadd x3 (3 : Int)) < ((N : Nat) : Int)) ((f_X10_takes σ ((xs ((jadd x3 (1 : Int))).toNat).toInt) ((xs ((jadd x3 (2 : Int))).toNat).toInt) ((xs ((jadd x3 (3 : Int))).toNat).toInt)).bind fun v41 => (chk (0 ≤ (jadd x3 (1 : Int)) ∧ (jadd x3 (1 : Int)) < ((N : Nat) : Int)) (chk (0 ≤ (jadd x3 (2 : Int)) ∧ (jadd x3 (2 : Int)) < ((N : Nat) : Int)) (chk (0 ≤ (jadd x3 (3 : Int)) ∧ (jadd x3 (3 : Int)) < ((N : Nat) : Int)) ((f_X11_takes v41.2 ((xs ((jadd x3 (1 : Int))).toNat).toInt) ((xs ((jadd x3 (2 : Int))).toNat).toInt) ((xs ((jadd x3 (3 : Int))).toNat).toInt)).bind fun v43 => (if v41.1 = v43.1 then (f_L_law_1774 N xs v43.2 x3) else (some (.inr (.inr (.inr (.inr (.inr (.inr (.inr (.inr (.inr (.inr (.inr (.inl v43.2)))))))))))))))))))))) else tl_11 N xs σ x3
def tl_9 (N : Nat) (xs : Nat → Int32) (σ : Mem) (x3 : Int) : Option ((Int × Mem) ⊕ ((Mem) ⊕ (Mem) ⊕ (Mem) ⊕ (Mem) ⊕ (Mem) ⊕ (Mem) ⊕ (Mem) ⊕ (Mem) ⊕ (Mem) ⊕ (Mem) ⊕ (Mem) ⊕ (Mem) ⊕ (Mem) ⊕ (Mem) ⊕ (Mem) ⊕ (Mem) ⊕ (Mem) ⊕ (Mem) ⊕ (Mem) ⊕ (Mem) ⊕ (Mem) ⊕ (Mem) ⊕ (Mem) ⊕ (Mem) ⊕ (Mem) ⊕ (Mem) ⊕ (Mem) ⊕ (Mem) ⊕ (Mem) ⊕ (Mem) ⊕ (Mem) ⊕ (Mem) ⊕ (Mem) ⊕ (Mem) ⊕ (Mem) ⊕ (Mem) ⊕ (Mem) ⊕ (Mem) ⊕ (Mem) ⊕ (Mem) ⊕ (Mem) ⊕ (Mem) ⊕ (Mem) ⊕ (Mem) ⊕ (Mem) ⊕ (Mem))) := if (jand ((xs (x3).toNat).toInt) (63 : Int)) = (9 : Int) then (chk (0 ≤ (jadd x3 (1 : Int)) ∧ (jadd x3 (1 : Int)) < ((N : Nat) : Int)) (chk (0 ≤ (jadd x3 (2 : Int)) ∧ (jadd x3 (2 : Int)) < ((N : Nat) : Int)) ((f_X10_cand σ ((xs ((jadd x3 (1 : Int))).toNat).toInt) ((xs ((jadd x3 (2 : Int))).toNat).toInt)).bind fun v37 => (chk (0 ≤ (jadd x3 (1 : Int)) ∧ (jadd x3 (1 : Int)) < ((N : Nat) : Int)) (chk (0 ≤ (jadd x3 (2 : Int)) ∧ (jadd x3 (2 : Int)) < ((N : Nat) : Int)) ((f_X11_cand v37.2 ((xs ((jadd x3 (1 : Int))).toNat).toInt) ((xs ((jadd x3 (2 : Int))).toNat).toInt)).bind fun v39 => (if v37.1 = v39.1 then (f_L_law_1774 N xs v39.2 x3) else (some (.inr (.inr (.inr (.inr (.inr (.inr (.inr (.inr (.inr (.inr (.inl v39.2))))))))))))))))))) else tl_10 N xs σ x3
def tl_8 (N : Nat) (xs : Nat → Int32) (σ : Mem) (x3 : Int) : Option ((Int × Mem) ⊕ ((Mem) ⊕ (Mem) ⊕ (Mem) ⊕ (Mem) ⊕ (Mem) ⊕ (Mem) ⊕ (Mem) ⊕ (Mem) ⊕ (Mem) ⊕ (Mem) ⊕ (Mem) ⊕ (Mem) ⊕ (Mem) ⊕ (Mem) ⊕ (Mem) ⊕ (Mem) ⊕ (Mem) ⊕ (Mem) ⊕ (Mem) ⊕ (Mem) ⊕ (Mem) ⊕ (Mem) ⊕ (Mem) ⊕ (Mem) ⊕ (Mem) ⊕ (Mem) ⊕ (Mem) ⊕ (Mem) ⊕ (Mem) ⊕ (Mem) ⊕ (Mem) ⊕ (Mem) ⊕ (Mem) ⊕ (Mem) ⊕ (Mem) ⊕ (Mem) ⊕ (Mem) ⊕ (Mem) ⊕ (Mem) ⊕ (Mem) ⊕ (Mem) ⊕ (Mem) ⊕ (Mem) ⊕ (Mem) ⊕ (Mem) ⊕ (Mem))) := if (jand ((xs (x3).toNat).toInt) (63 : Int)) = (8 : Int) then (chk (0 ≤ (jadd x3 (1 : Int)) ∧ (jadd x3 (1 : Int)) < ((N : Nat) : Int)) (chk (0 ≤ (jadd x3 (2 : Int)) ∧ (jadd x3 (2 : Int)) < ((N : Nat) : Int)) ((f_X10_starts σ ((xs ((jadd x3 (1 : Int))).toNat).toInt) ((xs ((jadd x3 (2 : Int))).toNat).toInt)).bind fun v33 => (chk (0 ≤ (jadd x3 (1 : Int)) ∧ (jadd x3 (1 : Int)) < ((N : Nat) : Int)) (chk (0 ≤ (jadd x3 (2 : Int)) ∧ (jadd x3 (2 : Int)) < ((N : Nat) : Int)) ((f_X11_starts v33.2 ((xs ((jadd x3 (1 : Int))).toNat).toInt) ((xs ((jadd x3 (2 : Int))).toNat).toInt)).bind fun v35 => (if v33.1 = v35.1 then (f_L_law_1774 N xs v35.2 x3) else (some (.inr (.inr (.inr (.inr (.inr (.inr (.inr (.inr (.inr (.inl v35.2)))))))))))))))))) else tl_9 N xs σ x3
def tl_7 (N : Nat) (xs : Nat → Int32) (σ : Mem) (x3 : Int) : Option ((Int × Mem) ⊕ ((Mem) ⊕ (Mem) ⊕ (Mem) ⊕ (Mem) ⊕ (Mem) ⊕ (Mem) ⊕ (Mem) ⊕ (Mem) ⊕ (Mem) ⊕ (Mem) ⊕ (Mem) ⊕ (Mem) ⊕ (Mem) ⊕ (Mem) ⊕ (Mem) ⊕ (Mem) ⊕ (Mem) ⊕ (Mem) ⊕ (Mem) ⊕ (Mem) ⊕ (Mem) ⊕ (Mem) ⊕ (Mem) ⊕ (Mem) ⊕ (Mem) ⊕ (Mem) ⊕ (Mem) ⊕ (Mem) ⊕ (Mem) ⊕ (Mem) ⊕ (Mem) ⊕ (Mem) ⊕ (Mem) ⊕ (Mem) ⊕ (Mem) ⊕ (Mem) ⊕ (Mem) ⊕ (Mem) ⊕ (Mem) ⊕ (Mem) ⊕ (Mem) ⊕ (Mem) ⊕ (Mem) ⊕ (Mem) ⊕ (Mem) ⊕ (Mem))) := if (jand ((xs (x3).toNat).toInt) (63 : Int)) = (7 : Int) then (chk (0 ≤ (jadd x3 (1 : Int)) ∧ (jadd x3 (1 : Int)) < ((N : Nat) : Int)) (chk (0 ≤ (jadd x3 (2 : Int)) ∧ (jadd x3 (2 : Int)) < ((N : Nat) : Int)) (chk (0 ≤ (jadd x3 (3 : Int)) ∧ (jadd x3 (3 : Int)) < ((N : Nat) : Int)) ((f_X10_paper σ ((xs ((jadd x3 (1 : Int))).toNat).toInt) ((xs ((jadd x3 (2 : Int))).toNat).toInt) ((xs ((jadd x3 (3 : Int))).toNat).toInt)).bind fun v29 => (chk (0 ≤ (jadd x3 (1 : Int)) ∧ (jadd x3 (1 : Int)) < ((N : Nat) : Int)) (chk (0 ≤ (jadd x3 (2 : Int)) ∧ (jadd x3 (2 : Int)) < ((N : Nat) : Int)) (chk (0 ≤ (jadd x3 (3 : Int)) ∧ (jadd x3 (3 : Int)) < ((N : Nat) : Int)) ((f_X11_paper v29.2 ((xs ((jadd x3 (1 : Int))).toNat).toInt) ((xs ((jadd x3 (2 : Int))).toNat).toInt) ((xs ((jadd x3 (3 : Int))).toNat).toInt)).bind fun v31 => (if v29.1 = v31.1 then (f_L_law_1774 N xs v31.2 x3) else (some (.inr (.inr (.inr (.inr (.inr (.inr (.inr (.inr (.inl v31.2))))))))))))))))))) else tl_8 N xs σ x3
def tl_6 (N : Nat) (xs : Nat → Int32) (σ : Mem) (x3 : Int) : Option ((Int × Mem) ⊕ ((Mem) ⊕ (Mem) ⊕ (Mem) ⊕ (Mem) ⊕ (Mem) ⊕ (Mem) ⊕ (Mem) ⊕ (Mem) ⊕ (Mem) ⊕ (Mem) ⊕ (Mem) ⊕ (Mem) ⊕ (Mem) ⊕ (Mem) ⊕ (Mem) ⊕ (Mem) ⊕ (Mem) ⊕ (Mem) ⊕ (Mem) ⊕ (Mem) ⊕ (Mem) ⊕ (Mem) ⊕ (Mem) ⊕ (Mem) ⊕ (Mem) ⊕ (Mem) ⊕ (Mem) ⊕ (Mem) ⊕ (Mem) ⊕ (Mem) ⊕ (Mem) ⊕ (Mem) ⊕ (Mem) ⊕ (Mem) ⊕ (Mem) ⊕ (Mem) ⊕ (Mem) ⊕ (Mem) ⊕ (Mem) ⊕ (Mem) ⊕ (Mem) ⊕ (Mem) ⊕ (Mem) ⊕ (Mem) ⊕ (Mem) ⊕ (Mem))) := if (jand ((xs (x3).toNat).toInt) (63 : Int)) = (6 : Int) then (chk (0 ≤ (jadd x3 (1 : Int)) ∧ (jadd x3 (1 : Int)) < ((N : Nat) : Int)) (chk (0 ≤ (jadd x3 (2 : Int)) ∧ (jadd x3 (2 : Int)) < ((N : Nat) : Int)) (chk (0 ≤ (jadd x3 (3 : Int)) ∧ (jadd x3 (3 : Int)) < ((N : Nat) : Int)) ((f_X10_says σ ((xs ((jadd x3 (1 : Int))).toNat).toInt) ((xs ((jadd x3 (2 : Int))).toNat).toInt) ((xs ((jadd x3 (3 : Int))).toNat).toInt)).bind fun v25 => (chk (0 ≤ (jadd x3 (1 : Int)) ∧ (jadd x3 (1 : Int)) < ((N : Nat) : Int)) (chk (0 ≤ (jadd x3 (2 : Int)) ∧ (jadd x3 (2 : Int)) < ((N : Nat) : Int)) (chk (0 ≤ (jadd x3 (3 : Int)) ∧ (jadd x3 (3 : Int)) < ((N : Nat) : Int)) ((f_X11_says v25.2 ((xs ((jadd x3 (1 : Int))).toNat).toInt) ((xs ((jadd x3 (2 : Int))).toNat).toInt) ((xs ((jadd x3 (3 : Int))).toNat).toInt)).bind fun v27 => (if v25.1 = v27.1 then (f_L_law_1774 N xs v27.2 x3) else (some (.inr (.inr (.inr (.inr (.inr (.inr (.inr (.inl v27.2)))))))))))))))))) else tl_7 N xs σ x3
def tl_5 (N : Nat) (xs : Nat → Int32) (σ : Mem) (x3 : Int) : Option ((Int × Mem) ⊕ ((Mem) ⊕ (Mem) ⊕ (Mem) ⊕ (Mem) ⊕ (Mem) ⊕ (Mem) ⊕ (Mem) ⊕ (Mem) ⊕ (Mem) ⊕ (Mem) ⊕ (Mem) ⊕ (Mem) ⊕ (Mem) ⊕ (Mem) ⊕ (Mem) ⊕ (Mem) ⊕ (Mem) ⊕ (Mem) ⊕ (Mem) ⊕ (Mem) ⊕ (Mem) ⊕ (Mem) ⊕ (Mem) ⊕ (Mem) ⊕ (Mem) ⊕ (Mem) ⊕ (Mem) ⊕ (Mem) ⊕ (Mem) ⊕ (Mem) ⊕ (Mem) ⊕ (Mem) ⊕ (Mem) ⊕ (Mem) ⊕ (Mem) ⊕ (Mem) ⊕ (Mem) ⊕ (Mem) ⊕ (Mem) ⊕ (Mem) ⊕ (Mem) ⊕ (Mem) ⊕ (Mem) ⊕ (Mem) ⊕ (Mem) ⊕ (Mem))) := if (jand ((xs (x3).toNat).toInt) (63 : Int)) = (5 : Int) then (chk (0 ≤ (jadd x3 (1 : Int)) ∧ (jadd x3 (1 : Int)) < ((N : Nat) : Int)) (chk (0 ≤ (jadd x3 (2 : Int)) ∧ (jadd x3 (2 : Int)) < ((N : Nat) : Int)) ((f_X10_show σ ((xs ((jadd x3 (1 : Int))).toNat).toInt) ((xs ((jadd x3 (2 : Int))).toNat).toInt)).bind fun v21 => (chk (0 ≤ (jadd x3 (1 : Int)) ∧ (jadd x3 (1 : Int)) < ((N : Nat) : Int)) (chk (0 ≤ (jadd x3 (2 : Int)) ∧ (jadd x3 (2 : Int)) < ((N : Nat) : Int)) ((f_X11_show v21.2 ((xs ((jadd x3 (1 : Int))).toNat).toInt) ((xs ((jadd x3 (2 : Int))).toNat).toInt)).bind fun v23 => (if v21.1 = v23.1 then (f_L_law_1774 N xs v23.2 x3) else (some (.inr (.inr (.inr (.inr (.inr (.inr (.inl v23.2))))))))))))))) else tl_6 N xs σ x3
def tl_4 (N : Nat) (xs : Nat → Int32) (σ : Mem) (x3 : Int) : Option ((Int × Mem) ⊕ ((Mem) ⊕ (Mem) ⊕ (Mem) ⊕ (Mem) ⊕ (Mem) ⊕ (Mem) ⊕ (Mem) ⊕ (Mem) ⊕ (Mem) ⊕ (Mem) ⊕ (Mem) ⊕ (Mem) ⊕ (Mem) ⊕ (Mem) ⊕ (Mem) ⊕ (Mem) ⊕ (Mem) ⊕ (Mem) ⊕ (Mem) ⊕ (Mem) ⊕ (Mem) ⊕ (Mem) ⊕ (Mem) ⊕ (Mem) ⊕ (Mem) ⊕ (Mem) ⊕ (Mem) ⊕ (Mem) ⊕ (Mem) ⊕ (Mem) ⊕ (Mem) ⊕ (Mem) ⊕ (Mem) ⊕ (Mem) ⊕ (Mem) ⊕ (Mem) ⊕ (Mem) ⊕ (Mem) ⊕ (Mem) ⊕ (Mem) ⊕ (Mem) ⊕ (Mem) ⊕ (Mem) ⊕ (Mem) ⊕ (Mem) ⊕ (Mem))) := if (jand ((xs (x3).toNat).toInt) (63 : Int)) = (4 : Int) then (chk (0 ≤ (jadd x3 (1 : Int)) ∧ (jadd x3 (1 : Int)) < ((N : Nat) : Int)) ((f_X10_holds σ ((xs ((jadd x3 (1 : Int))).toNat).toInt)).bind fun v17 => (chk (0 ≤ (jadd x3 (1 : Int)) ∧ (jadd x3 (1 : Int)) < ((N : Nat) : Int)) ((f_X11_holds σ ((xs ((jadd x3 (1 : Int))).toNat).toInt)).bind fun v19 => (if v17 = v19 then (f_L_law_1774 N xs σ x3) else (some (.inr (.inr (.inr (.inr (.inr (.inl σ)))))))))))) else tl_5 N xs σ x3
def tl_3 (N : Nat) (xs : Nat → Int32) (σ : Mem) (x3 : Int) : Option ((Int × Mem) ⊕ ((Mem) ⊕ (Mem) ⊕ (Mem) ⊕ (Mem) ⊕ (Mem) ⊕ (Mem) ⊕ (Mem) ⊕ (Mem) ⊕ (Mem) ⊕ (Mem) ⊕ (Mem) ⊕ (Mem) ⊕ (Mem) ⊕ (Mem) ⊕ (Mem) ⊕ (Mem) ⊕ (Mem) ⊕ (Mem) ⊕ (Mem) ⊕ (Mem) ⊕ (Mem) ⊕ (Mem) ⊕ (Mem) ⊕ (Mem) ⊕ (Mem) ⊕ (Mem) ⊕ (Mem) ⊕ (Mem) ⊕ (Mem) ⊕ (Mem) ⊕ (Mem) ⊕ (Mem) ⊕ (Mem) ⊕ (Mem) ⊕ (Mem) ⊕ (Mem) ⊕ (Mem) ⊕ (Mem) ⊕ (Mem) ⊕ (Mem) ⊕ (Mem) ⊕ (Mem) ⊕ (Mem) ⊕ (Mem) ⊕ (Mem) ⊕ (Mem))) := if (jand ((xs (x3).toNat).toInt) (63 : Int)) = (3 : Int) then (chk (0 ≤ (jadd x3 (1 : Int)) ∧ (jadd x3 (1 : Int)) < ((N : Nat) : Int)) (chk (0 ≤ (jadd x3 (2 : Int)) ∧ (jadd x3 (2 : Int)) < ((N : Nat) : Int)) ((f_X10_element σ ((xs ((jadd x3 (1 : Int))).toNat).toInt) ((xs ((jadd x3 (2 : Int))).toNat).toInt)).bind fun v13 => (chk (0 ≤ (jadd x3 (1 : Int)) ∧ (jadd x3 (1 : Int)) < ((N : Nat) : Int)) (chk (0 ≤ (jadd x3 (2 : Int)) ∧ (jadd x3 (2 : Int)) < ((N : Nat) : Int)) ((f_X11_element σ ((xs ((jadd x3 (1 : Int))).toNat).toInt) ((xs ((jadd x3 (2 : Int))).toNat).toInt)).bind fun v15 => (if v13 = v15 then (f_L_law_1774 N xs σ x3) else (some (.inr (.inr (.inr (.inr (.inl σ))))))))))))) else tl_4 N xs σ x3
def tl_2 (N : Nat) (xs : Nat → Int32) (σ : Mem) (x3 : Int) : Option ((Int × Mem) ⊕ ((Mem) ⊕ (Mem) ⊕ (Mem) ⊕ (Mem) ⊕ (Mem) ⊕ (Mem) ⊕ (Mem) ⊕ (Mem) ⊕ (Mem) ⊕ (Mem) ⊕ (Mem) ⊕ (Mem) ⊕ (Mem) ⊕ (Mem) ⊕ (Mem) ⊕ (Mem) ⊕ (Mem) ⊕ (Mem) ⊕ (Mem) ⊕ (Mem) ⊕ (Mem) ⊕ (Mem) ⊕ (Mem) ⊕ (Mem) ⊕ (Mem) ⊕ (Mem) ⊕ (Mem) ⊕ (Mem) ⊕ (Mem) ⊕ (Mem) ⊕ (Mem) ⊕ (Mem) ⊕ (Mem) ⊕ (Mem) ⊕ (Mem) ⊕ (Mem) ⊕ (Mem) ⊕ (Mem) ⊕ (Mem) ⊕ (Mem) ⊕ (Mem) ⊕ (Mem) ⊕ (Mem) ⊕ (Mem) ⊕ (Mem) ⊕ (Mem))) := if (jand ((xs (x3).toNat).toInt) (63 : Int)) = (2 : Int) then (chk (0 ≤ (jadd x3 (1 : Int)) ∧ (jadd x3 (1 : Int)) < ((N : Nat) : Int)) (chk (0 ≤ (jadd x3 (2 : Int)) ∧ (jadd x3 (2 : Int)) < ((N : Nat) : Int)) (chk (0 ≤ (jadd x3 (3 : Int)) ∧ (jadd x3 (3 : Int)) < ((N : Nat) : Int)) (chk (0 ≤ (jadd x3 (4 : Int)) ∧ (jadd x3 (4 : Int)) < ((N : Nat) : Int)) (chk (0 ≤ (jadd x3 (5 : Int)) ∧ (jadd x3 (5 : Int)) < ((N : Nat) : Int)) ((f_X10_copy σ ((xs ((jadd x3 (1 : Int))).toNat).toInt) ((xs ((jadd x3 (2 : Int))).toNat).toInt) ((xs ((jadd x3 (3 : Int))).toNat).toInt) ((xs ((jadd x3 (4 : Int))).toNat).toInt) ((xs ((jadd x3 (5 : Int))).toNat).toInt)).bind fun v9 => (chk (0 ≤ (jadd x3 (1 : Int)) ∧ (jadd x3 (1 : Int)) < ((N : Nat) : Int)) (chk (0 ≤ (jadd x3 (2 : Int)) ∧ (jadd x3 (2 : Int)) < ((N : Nat) : Int)) (chk (0 ≤ (jadd x3 (3 : Int)) ∧ (jadd x3 (3 : Int)) < ((N : Nat) : Int)) (chk (0 ≤ (jadd x3 (4 : Int)) ∧ (jadd x3 (4 : Int)) < ((N : Nat) : Int)) (chk (0 ≤ (jadd x3 (5 : Int)) ∧ (jadd x3 (5 : Int)) < ((N : Nat) : Int)) ((f_X11_copy v9.2 ((xs ((jadd x3 (1 : Int))).toNat).toInt) ((xs ((jadd x3 (2 : Int))).toNat).toInt) ((xs ((jadd x3 (3 : Int))).toNat).toInt) ((xs ((jadd x3 (4 : Int))).toNat).toInt) ((xs ((jadd x3 (5 : Int))).toNat).toInt)).bind fun v11 => (if v9.1 = v11.1 then (f_L_law_1774 N xs v11.2 x3) else (some (.inr (.inr (.inr (.inl v11.2)))))))))))))))))) else tl_3 N xs σ x3
def tl_1 (N : Nat) (xs : Nat → Int32) (σ : Mem) (x3 : Int) : Option ((Int × Mem) ⊕ ((Mem) ⊕ (Mem) ⊕ (Mem) ⊕ (Mem) ⊕ (Mem) ⊕ (Mem) ⊕ (Mem) ⊕ (Mem) ⊕ (Mem) ⊕ (Mem) ⊕ (Mem) ⊕ (Mem) ⊕ (Mem) ⊕ (Mem) ⊕ (Mem) ⊕ (Mem) ⊕ (Mem) ⊕ (Mem) ⊕ (Mem) ⊕ (Mem) ⊕ (Mem) ⊕ (Mem) ⊕ (Mem) ⊕ (Mem) ⊕ (Mem) ⊕ (Mem) ⊕ (Mem) ⊕ (Mem) ⊕ (Mem) ⊕ (Mem) ⊕ (Mem) ⊕ (Mem) ⊕ (Mem) ⊕ (Mem) ⊕ (Mem) ⊕ (Mem) ⊕ (Mem) ⊕ (Mem) ⊕ (Mem) ⊕ (Mem) ⊕ (Mem) ⊕ (Mem) ⊕ (Mem) ⊕ (Mem) ⊕ (Mem) ⊕ (Mem))) := if (jand ((xs (x3).toNat).toInt) (63 : Int)) = (1 : Int) then (chk (0 ≤ (jadd x3 (1 : Int)) ∧ (jadd x3 (1 : Int)) < ((N : Nat) : Int)) (chk (0 ≤ (jadd x3 (2 : Int)) ∧ (jadd x3 (2 : Int)) < ((N : Nat) : Int)) (chk (0 ≤ (jadd x3 (3 : Int)) ∧ (jadd x3 (3 : Int)) < ((N : Nat) : Int)) (chk (0 ≤ (jadd x3 (4 : Int)) ∧ (jadd x3 (4 : Int)) < ((N : Nat) : Int)) ((f_X10_set σ ((xs ((jadd x3 (1 : Int))).toNat).toInt) ((xs ((jadd x3 (2 : Int))).toNat).toInt) (kor (kshl ((xs ((jadd x3 (3 : Int))).toNat).toInt) (32 : Int)) (kand ((xs ((jadd x3 (4 : Int))).toNat).toInt) (4294967295 : Int)))).bind fun v5 => (chk (0 ≤ (jadd x3 (1 : Int)) ∧ (jadd x3 (1 : Int)) < ((N : Nat) : Int)) (chk (0 ≤ (jadd x3 (2 : Int)) ∧ (jadd x3 (2 : Int)) < ((N : Nat) : Int)) (chk (0 ≤ (jadd x3 (3 : Int)) ∧ (jadd x3 (3 : Int)) < ((N : Nat) : Int)) (chk (0 ≤ (jadd x3 (4 : Int)) ∧ (jadd x3 (4 : Int)) < ((N : Nat) : Int)) ((f_X11_set v5.2 ((xs ((jadd x3 (1 : Int))).toNat).toInt) ((xs ((jadd x3 (2 : Int))).toNat).toInt) (kor (kshl ((xs ((jadd x3 (3 : Int))).toNat).toInt) (32 : Int)) (kand ((xs ((jadd x3 (4 : Int))).toNat).toInt) (4294967295 : Int)))).bind fun v7 => (if v5.1 = v7.1 then (f_L_law_1774 N xs v7.2 x3) else (some (.inr (.inr (.inl v7.2))))))))))))))) else tl_2 N xs σ x3
def tl_0 (N : Nat) (xs : Nat → Int32) (σ : Mem) (x3 : Int) : Option ((Int × Mem) ⊕ ((Mem) ⊕ (Mem) ⊕ (Mem) ⊕ (Mem) ⊕ (Mem) ⊕ (Mem) ⊕ (Mem) ⊕ (Mem) ⊕ (Mem) ⊕ (Mem) ⊕ (Mem) ⊕ (Mem) ⊕ (Mem) ⊕ (Mem) ⊕ (Mem) ⊕ (Mem) ⊕ (Mem) ⊕ (Mem) ⊕ (Mem) ⊕ (Mem) ⊕ (Mem) ⊕ (Mem) ⊕ (Mem) ⊕ (Mem) ⊕ (Mem) ⊕ (Mem) ⊕ (Mem) ⊕ (Mem) ⊕ (Mem) ⊕ (Mem) ⊕ (Mem) ⊕ (Mem) ⊕ (Mem) ⊕ (Mem) ⊕ (Mem) ⊕ (Mem) ⊕ (Mem) ⊕ (Mem) ⊕ (Mem) ⊕ (Mem) ⊕ (Mem) ⊕ (Mem) ⊕ (Mem) ⊕ (Mem) ⊕ (Mem) ⊕ (Mem))) := if (jand ((xs (x3).toNat).toInt) (63 : Int)) = (0 : Int) then (chk (0 ≤ (jadd x3 (1 : Int)) ∧ (jadd x3 (1 : Int)) < ((N : Nat) : Int)) (chk (0 ≤ (jadd x3 (2 : Int)) ∧ (jadd x3 (2 : Int)) < ((N : Nat) : Int)) (chk (0 ≤ (jadd x3 (3 : Int)) ∧ (jadd x3 (3 : Int)) < ((N : Nat) : Int)) ((f_X10_row σ ((xs ((jadd x3 (1 : Int))).toNat).toInt) ((xs ((jadd x3 (2 : Int))).toNat).toInt) ((xs ((jadd x3 (3 : Int))).toNat).toInt)).bind fun v1 => (chk (0 ≤ (jadd x3 (1 : Int)) ∧ (jadd x3 (1 : Int)) < ((N : Nat) : Int)) (chk (0 ≤ (jadd x3 (2 : Int)) ∧ (jadd x3 (2 : Int)) < ((N : Nat) : Int)) (chk (0 ≤ (jadd x3 (3 : Int)) ∧ (jadd x3 (3 : Int)) < ((N : Nat) : Int)) ((f_X11_row v1.2 ((xs ((jadd x3 (1 : Int))).toNat).toInt) ((xs ((jadd x3 (2 : Int))).toNat).toInt) ((xs ((jadd x3 (3 : Int))).toNat).toInt)).bind fun v3 => (if v1.1 = v3.1 then (f_L_law_1774 N xs v3.2 x3) else (some (.inr (.inl v3.2)))))))))))) else tl_1 N xs σ x3
theorem l18_eq (N : Nat) (xs : Nat → Int32) (x3 : Int) (σ : Mem) : f_L_law_18C N xs x3 σ = if (jsub ((N : Nat) : Int) (6 : Int)) < x3 then (some (.inr (.inr (.inr (.inr (.inr (.inr (.inr (.inr (.inr (.inr (.inr (.inr (.inr (.inr (.inr (.inr (.inr (.inr (.inr (.inr (.inr (.inr (.inr (.inr (.inr (.inr (.inr (.inr (.inr (.inr (.inr (.inr (.inr (.inr (.inr (.inr (.inr (.inr (.inr (.inr (.inr (.inr (.inr (.inr (.inr (.inr σ))))))))))))))))))))))))))))))))))))))))))))))) else (chk (0 ≤ x3 ∧ x3 < ((N : Nat) : Int)) (tl_0 N xs σ x3)) := rfl
def LK (n : Nat) (x3 : Int) (r : Option ((Int × Mem) ⊕ ((Mem) ⊕ (Mem) ⊕ (Mem) ⊕ (Mem) ⊕ (Mem) ⊕ (Mem) ⊕ (Mem) ⊕ (Mem) ⊕ (Mem) ⊕ (Mem) ⊕ (Mem) ⊕ (Mem) ⊕ (Mem) ⊕ (Mem) ⊕ (Mem) ⊕ (Mem) ⊕ (Mem) ⊕ (Mem) ⊕ (Mem) ⊕ (Mem) ⊕ (Mem) ⊕ (Mem) ⊕ (Mem) ⊕ (Mem) ⊕ (Mem) ⊕ (Mem) ⊕ (Mem) ⊕ (Mem) ⊕ (Mem) ⊕ (Mem) ⊕ (Mem) ⊕ (Mem) ⊕ (Mem) ⊕ (Mem) ⊕ (Mem) ⊕ (Mem) ⊕ (Mem) ⊕ (Mem) ⊕ (Mem) ⊕ (Mem) ⊕ (Mem) ⊕ (Mem) ⊕ (Mem) ⊕ (Mem) ⊕ (Mem) ⊕ (Mem)))) : Prop := ∃ τ B, r = some (.inl (x3 + 6, τ)) ∧ INV (n + 1) τ B
def okX (N : Nat) (n : Nat) (x3 : Int) : Prop := x3 = 6 * (n : Int) ∧ x3 + 6 ≤ N ∧ (N : Int) ≤ 3072
theorem okX.a {N n : Nat} {x3 : Int} (h : okX N n x3) {k : Int} (h0 : 0 ≤ k) (h5 : k ≤ 5) : 0 ≤ jadd x3 k ∧ jadd x3 k < ((N : Nat) : Int) := by
  obtain ⟨h1, h2, h3⟩ := h
  rw [jadd_ok (by omega) (by omega)]
  omega
theorem okX.n {N n : Nat} {x3 : Int} (h : okX N n x3) : n < 1000 := by
  obtain ⟨h1, h2, h3⟩ := h
  omega
theorem l1774 {N n : Nat} {xs : Nat → Int32} {x3 : Int} (h : okX N n x3) (σ : Mem) : f_L_law_1774 N xs σ x3 = some (.inl (x3 + 6, σ)) := by
  obtain ⟨h1, h2, h3⟩ := h
  unfold f_L_law_1774
  rw [bsm, jadd_ok (by omega) (by omega)]
theorem t_45 {N n : Nat} {xs : Nat → Int32} {σ : Mem} {B : Bk} {x3 : Int} (h : INV n σ B) (hx : okX N n x3) : LK n x3 (tl_45 N xs σ x3) := ⟨σ, B, l1774 hx σ, h.up⟩
theorem t_44 {N n : Nat} {xs : Nat → Int32} {σ : Mem} {B : Bk} {x3 : Int} (h : INV n σ B) (hx : okX N n x3) : LK n x3 (tl_44 N xs σ x3) := by
  unfold tl_44
  by_cases e : (jand ((xs (x3).toNat).toInt) (63 : Int)) = (44 : Int)
  · rw [if_pos e]
    obtain ⟨v, ρ, τ, B2, a1, a2, i⟩ := h.call (k_status h.1 ((xs ((jadd x3 (1 : Int))).toNat).toInt))
    have a2 : f_X11_status ρ ((xs ((jadd x3 (1 : Int))).toNat).toInt) = some (v, τ) := a2
    refine ⟨τ, B2, ?_, i⟩
    rw [chk_pos (hx.a (show (0 : Int) ≤ 1 by decide) (by decide)), bind_some' a1, chk_pos (hx.a (show (0 : Int) ≤ 1 by decide) (by decide)), bind_some' a2]
    exact (if_pos rfl).trans (l1774 hx τ)
  · rw [if_neg e]
    exact t_45 h hx
theorem t_43 {N n : Nat} {xs : Nat → Int32} {σ : Mem} {B : Bk} {x3 : Int} (h : INV n σ B) (hx : okX N n x3) : LK n x3 (tl_43 N xs σ x3) := by
  unfold tl_43
  by_cases e : (jand ((xs (x3).toNat).toInt) (63 : Int)) = (43 : Int)
  · rw [if_pos e]
    obtain ⟨v, ρ, τ, B2, a1, a2, i⟩ := h.call (k_back h.1 hx.n)
    have a2 : f_X11_back ρ  = some (v, τ) := a2
    refine ⟨τ, B2, ?_, i⟩
    rw [bind_some' a1, bind_some' a2]
    exact (if_pos rfl).trans (l1774 hx τ)
  · rw [if_neg e]
    exact t_44 h hx
theorem t_42 {N n : Nat} {xs : Nat → Int32} {σ : Mem} {B : Bk} {x3 : Int} (h : INV n σ B) (hx : okX N n x3) : LK n x3 (tl_42 N xs σ x3) := by
  unfold tl_42
  by_cases e : (jand ((xs (x3).toNat).toInt) (63 : Int)) = (42 : Int)
  · rw [if_pos e]
    obtain ⟨v, ρ, τ, B2, a1, a2, i⟩ := h.call (k_image h.1)
    have a2 : f_X11_image ρ  = some (v, τ) := a2
    refine ⟨τ, B2, ?_, i⟩
    rw [bind_some' a1, bind_some' a2]
    exact (if_pos rfl).trans (l1774 hx τ)
  · rw [if_neg e]
    exact t_43 h hx
theorem t_41 {N n : Nat} {xs : Nat → Int32} {σ : Mem} {B : Bk} {x3 : Int} (h : INV n σ B) (hx : okX N n x3) : LK n x3 (tl_41 N xs σ x3) := by
  unfold tl_41
  by_cases e : (jand ((xs (x3).toNat).toInt) (63 : Int)) = (41 : Int)
  · rw [if_pos e]
    obtain ⟨v, ρ, τ, B2, a1, a2, i⟩ := h.call (k_seed h.1 (v := ((xs ((jadd x3 (1 : Int))).toNat).toInt)) (ti32 _))
    have a2 : f_X11_seed ρ ((xs ((jadd x3 (1 : Int))).toNat).toInt) = some (v, τ) := a2
    refine ⟨τ, B2, ?_, i⟩
    rw [chk_pos (hx.a (show (0 : Int) ≤ 1 by decide) (by decide)), bind_some' a1, chk_pos (hx.a (show (0 : Int) ≤ 1 by decide) (by decide)), bind_some' a2]
    exact (if_pos rfl).trans (l1774 hx τ)
  · rw [if_neg e]
    exact t_42 h hx
theorem t_40 {N n : Nat} {xs : Nat → Int32} {σ : Mem} {B : Bk} {x3 : Int} (h : INV n σ B) (hx : okX N n x3) : LK n x3 (tl_40 N xs σ x3) := by
  unfold tl_40
  by_cases e : (jand ((xs (x3).toNat).toInt) (63 : Int)) = (40 : Int)
  · rw [if_pos e]
    obtain ⟨v, ρ, τ, B2, a1, a2, i⟩ := h.call (k_changes h.1 hx.n ((xs ((jadd x3 (1 : Int))).toNat).toInt))
    have a2 : f_X11_changes ρ ((xs ((jadd x3 (1 : Int))).toNat).toInt) = some (v, τ) := a2
    refine ⟨τ, B2, ?_, i⟩
    rw [chk_pos (hx.a (show (0 : Int) ≤ 1 by decide) (by decide)), bind_some' a1, chk_pos (hx.a (show (0 : Int) ≤ 1 by decide) (by decide)), bind_some' a2]
    exact (if_pos rfl).trans (l1774 hx τ)
  · rw [if_neg e]
    exact t_41 h hx
theorem t_39 {N n : Nat} {xs : Nat → Int32} {σ : Mem} {B : Bk} {x3 : Int} (h : INV n σ B) (hx : okX N n x3) : LK n x3 (tl_39 N xs σ x3) := by
  unfold tl_39
  by_cases e : (jand ((xs (x3).toNat).toInt) (63 : Int)) = (39 : Int)
  · rw [if_pos e]
    obtain ⟨v, ρ, τ, B2, a1, a2, i⟩ := h.ask (q_together h.1.1 ((xs ((jadd x3 (1 : Int))).toNat).toInt) ((xs ((jadd x3 (2 : Int))).toNat).toInt) ((xs ((jadd x3 (3 : Int))).toNat).toInt))
    have a2 : f_X11_together ρ ((xs ((jadd x3 (1 : Int))).toNat).toInt) ((xs ((jadd x3 (2 : Int))).toNat).toInt) ((xs ((jadd x3 (3 : Int))).toNat).toInt) = some (v, τ) := a2
    refine ⟨τ, B2, ?_, i⟩
    rw [chk_pos (hx.a (show (0 : Int) ≤ 1 by decide) (by decide)), chk_pos (hx.a (show (0 : Int) ≤ 2 by decide) (by decide)), chk_pos (hx.a (show (0 : Int) ≤ 3 by decide) (by decide)), bind_some' a1, chk_pos (hx.a (show (0 : Int) ≤ 1 by decide) (by decide)), chk_pos (hx.a (show (0 : Int) ≤ 2 by decide) (by decide)), chk_pos (hx.a (show (0 : Int) ≤ 3 by decide) (by decide)), bind_some' a2]
    exact (if_pos rfl).trans (l1774 hx τ)
  · rw [if_neg e]
    exact t_40 h hx
theorem t_38 {N n : Nat} {xs : Nat → Int32} {σ : Mem} {B : Bk} {x3 : Int} (h : INV n σ B) (hx : okX N n x3) : LK n x3 (tl_38 N xs σ x3) := by
  unfold tl_38
  by_cases e : (jand ((xs (x3).toNat).toInt) (63 : Int)) = (38 : Int)
  · rw [if_pos e]
    obtain ⟨v, ρ, τ, B2, a1, a2, i⟩ := h.call (k_judge h.1 hx.n ((xs ((jadd x3 (1 : Int))).toNat).toInt) ((xs ((jadd x3 (2 : Int))).toNat).toInt) ((xs ((jadd x3 (3 : Int))).toNat).toInt) ((xs ((jadd x3 (4 : Int))).toNat).toInt))
    have a2 : f_X11_judge ρ ((xs ((jadd x3 (1 : Int))).toNat).toInt) ((xs ((jadd x3 (2 : Int))).toNat).toInt) ((xs ((jadd x3 (3 : Int))).toNat).toInt) ((xs ((jadd x3 (4 : Int))).toNat).toInt) = some (v, τ) := a2
    refine ⟨τ, B2, ?_, i⟩
    rw [chk_pos (hx.a (show (0 : Int) ≤ 1 by decide) (by decide)), chk_pos (hx.a (show (0 : Int) ≤ 2 by decide) (by decide)), chk_pos (hx.a (show (0 : Int) ≤ 3 by decide) (by decide)), chk_pos (hx.a (show (0 : Int) ≤ 4 by decide) (by decide)), bind_some' a1, chk_pos (hx.a (show (0 : Int) ≤ 1 by decide) (by decide)), chk_pos (hx.a (show (0 : Int) ≤ 2 by decide) (by decide)), chk_pos (hx.a (show (0 : Int) ≤ 3 by decide) (by decide)), chk_pos (hx.a (show (0 : Int) ≤ 4 by decide) (by decide)), bind_some' a2]
    exact (if_pos rfl).trans (l1774 hx τ)
  · rw [if_neg e]
    exact t_39 h hx
theorem t_37 {N n : Nat} {xs : Nat → Int32} {σ : Mem} {B : Bk} {x3 : Int} (h : INV n σ B) (hx : okX N n x3) : LK n x3 (tl_37 N xs σ x3) := by
  unfold tl_37
  by_cases e : (jand ((xs (x3).toNat).toInt) (63 : Int)) = (37 : Int)
  · rw [if_pos e]
    obtain ⟨v, ρ, τ, B2, a1, a2, i⟩ := h.call (k_kinds h.1 hx.n ((xs ((jadd x3 (1 : Int))).toNat).toInt) ((xs ((jadd x3 (2 : Int))).toNat).toInt) ((xs ((jadd x3 (3 : Int))).toNat).toInt))
    have a2 : f_X11_kinds ρ ((xs ((jadd x3 (1 : Int))).toNat).toInt) ((xs ((jadd x3 (2 : Int))).toNat).toInt) ((xs ((jadd x3 (3 : Int))).toNat).toInt) = some (v, τ) := a2
    refine ⟨τ, B2, ?_, i⟩
    rw [chk_pos (hx.a (show (0 : Int) ≤ 1 by decide) (by decide)), chk_pos (hx.a (show (0 : Int) ≤ 2 by decide) (by decide)), chk_pos (hx.a (show (0 : Int) ≤ 3 by decide) (by decide)), bind_some' a1, chk_pos (hx.a (show (0 : Int) ≤ 1 by decide) (by decide)), chk_pos (hx.a (show (0 : Int) ≤ 2 by decide) (by decide)), chk_pos (hx.a (show (0 : Int) ≤ 3 by decide) (by decide)), bind_some' a2]
    exact (if_pos rfl).trans (l1774 hx τ)
  · rw [if_neg e]
    exact t_38 h hx
theorem t_36 {N n : Nat} {xs : Nat → Int32} {σ : Mem} {B : Bk} {x3 : Int} (h : INV n σ B) (hx : okX N n x3) : LK n x3 (tl_36 N xs σ x3) := by
  unfold tl_36
  by_cases e : (jand ((xs (x3).toNat).toInt) (63 : Int)) = (36 : Int)
  · rw [if_pos e]
    obtain ⟨v, ρ, τ, B2, a1, a2, i⟩ := h.call (k_hoursFor h.1 hx.n ((xs ((jadd x3 (1 : Int))).toNat).toInt))
    have a2 : f_X11_hoursFor ρ ((xs ((jadd x3 (1 : Int))).toNat).toInt) = some (v, τ) := a2
    refine ⟨τ, B2, ?_, i⟩
    rw [chk_pos (hx.a (show (0 : Int) ≤ 1 by decide) (by decide)), bind_some' a1, chk_pos (hx.a (show (0 : Int) ≤ 1 by decide) (by decide)), bind_some' a2]
    exact (if_pos rfl).trans (l1774 hx τ)
  · rw [if_neg e]
    exact t_37 h hx
theorem t_35 {N n : Nat} {xs : Nat → Int32} {σ : Mem} {B : Bk} {x3 : Int} (h : INV n σ B) (hx : okX N n x3) : LK n x3 (tl_35 N xs σ x3) := by
  unfold tl_35
  by_cases e : (jand ((xs (x3).toNat).toInt) (63 : Int)) = (35 : Int)
  · rw [if_pos e]
    obtain ⟨v, ρ, τ, B2, a1, a2, i⟩ := h.call (k_retime h.1 hx.n ((xs ((jadd x3 (1 : Int))).toNat).toInt))
    have a2 : f_X11_retime ρ ((xs ((jadd x3 (1 : Int))).toNat).toInt) = some (v, τ) := a2
    refine ⟨τ, B2, ?_, i⟩
    rw [chk_pos (hx.a (show (0 : Int) ≤ 1 by decide) (by decide)), bind_some' a1, chk_pos (hx.a (show (0 : Int) ≤ 1 by decide) (by decide)), bind_some' a2]
    exact (if_pos rfl).trans (l1774 hx τ)
  · rw [if_neg e]
    exact t_36 h hx
theorem t_34 {N n : Nat} {xs : Nat → Int32} {σ : Mem} {B : Bk} {x3 : Int} (h : INV n σ B) (hx : okX N n x3) : LK n x3 (tl_34 N xs σ x3) := by
  unfold tl_34
  by_cases e : (jand ((xs (x3).toNat).toInt) (63 : Int)) = (34 : Int)
  · rw [if_pos e]
    obtain ⟨v, ρ, τ, B2, a1, a2, i⟩ := h.call (k_relief h.1 hx.n ((xs ((jadd x3 (1 : Int))).toNat).toInt))
    have a2 : f_X11_relief ρ ((xs ((jadd x3 (1 : Int))).toNat).toInt) = some (v, τ) := a2
    refine ⟨τ, B2, ?_, i⟩
    rw [chk_pos (hx.a (show (0 : Int) ≤ 1 by decide) (by decide)), bind_some' a1, chk_pos (hx.a (show (0 : Int) ≤ 1 by decide) (by decide)), bind_some' a2]
    exact (if_pos rfl).trans (l1774 hx τ)
  · rw [if_neg e]
    exact t_35 h hx
theorem t_33 {N n : Nat} {xs : Nat → Int32} {σ : Mem} {B : Bk} {x3 : Int} (h : INV n σ B) (hx : okX N n x3) : LK n x3 (tl_33 N xs σ x3) := by
  unfold tl_33
  by_cases e : (jand ((xs (x3).toNat).toInt) (63 : Int)) = (33 : Int)
  · rw [if_pos e]
    obtain ⟨v, ρ, τ, B2, a1, a2, i⟩ := h.call (k_both h.1 hx.n ((xs ((jadd x3 (1 : Int))).toNat).toInt) ((xs ((jadd x3 (2 : Int))).toNat).toInt) ((xs ((jadd x3 (3 : Int))).toNat).toInt))
    have a2 : f_X11_both ρ ((xs ((jadd x3 (1 : Int))).toNat).toInt) ((xs ((jadd x3 (2 : Int))).toNat).toInt) ((xs ((jadd x3 (3 : Int))).toNat).toInt) = some (v, τ) := a2
    refine ⟨τ, B2, ?_, i⟩
    rw [chk_pos (hx.a (show (0 : Int) ≤ 1 by decide) (by decide)), chk_pos (hx.a (show (0 : Int) ≤ 2 by decide) (by decide)), chk_pos (hx.a (show (0 : Int) ≤ 3 by decide) (by decide)), bind_some' a1, chk_pos (hx.a (show (0 : Int) ≤ 1 by decide) (by decide)), chk_pos (hx.a (show (0 : Int) ≤ 2 by decide) (by decide)), chk_pos (hx.a (show (0 : Int) ≤ 3 by decide) (by decide)), bind_some' a2]
    exact (if_pos rfl).trans (l1774 hx τ)
  · rw [if_neg e]
    exact t_34 h hx
theorem t_32 {N n : Nat} {xs : Nat → Int32} {σ : Mem} {B : Bk} {x3 : Int} (h : INV n σ B) (hx : okX N n x3) : LK n x3 (tl_32 N xs σ x3) := by
  unfold tl_32
  by_cases e : (jand ((xs (x3).toNat).toInt) (63 : Int)) = (32 : Int)
  · rw [if_pos e]
    obtain ⟨v, ρ, τ, B2, a1, a2, i⟩ := h.call (k_whatIf h.1 hx.n ((xs ((jadd x3 (1 : Int))).toNat).toInt) ((xs ((jadd x3 (2 : Int))).toNat).toInt))
    have a2 : f_X11_whatIf ρ ((xs ((jadd x3 (1 : Int))).toNat).toInt) ((xs ((jadd x3 (2 : Int))).toNat).toInt) = some (v, τ) := a2
    refine ⟨τ, B2, ?_, i⟩
    rw [chk_pos (hx.a (show (0 : Int) ≤ 1 by decide) (by decide)), chk_pos (hx.a (show (0 : Int) ≤ 2 by decide) (by decide)), bind_some' a1, chk_pos (hx.a (show (0 : Int) ≤ 1 by decide) (by decide)), chk_pos (hx.a (show (0 : Int) ≤ 2 by decide) (by decide)), bind_some' a2]
    exact (if_pos rfl).trans (l1774 hx τ)
  · rw [if_neg e]
    exact t_33 h hx
theorem t_31 {N n : Nat} {xs : Nat → Int32} {σ : Mem} {B : Bk} {x3 : Int} (h : INV n σ B) (hx : okX N n x3) : LK n x3 (tl_31 N xs σ x3) := by
  unfold tl_31
  by_cases e : (jand ((xs (x3).toNat).toInt) (63 : Int)) = (31 : Int)
  · rw [if_pos e]
    obtain ⟨v, ρ, τ, B2, a1, a2, i⟩ := h.seat (k_left h.1 h.2.2 ((xs ((jadd x3 (1 : Int))).toNat).toInt) ((xs ((jadd x3 (2 : Int))).toNat).toInt) ((xs ((jadd x3 (3 : Int))).toNat).toInt))
    have a2 : f_X11_left ρ ((xs ((jadd x3 (1 : Int))).toNat).toInt) ((xs ((jadd x3 (2 : Int))).toNat).toInt) ((xs ((jadd x3 (3 : Int))).toNat).toInt) = some (v, τ) := a2
    refine ⟨τ, B2, ?_, i⟩
    rw [chk_pos (hx.a (show (0 : Int) ≤ 1 by decide) (by decide)), chk_pos (hx.a (show (0 : Int) ≤ 2 by decide) (by decide)), chk_pos (hx.a (show (0 : Int) ≤ 3 by decide) (by decide)), bind_some' a1, chk_pos (hx.a (show (0 : Int) ≤ 1 by decide) (by decide)), chk_pos (hx.a (show (0 : Int) ≤ 2 by decide) (by decide)), chk_pos (hx.a (show (0 : Int) ≤ 3 by decide) (by decide)), bind_some' a2]
    exact (if_pos rfl).trans (l1774 hx τ)
  · rw [if_neg e]
    exact t_32 h hx
theorem t_30 {N n : Nat} {xs : Nat → Int32} {σ : Mem} {B : Bk} {x3 : Int} (h : INV n σ B) (hx : okX N n x3) : LK n x3 (tl_30 N xs σ x3) := by
  unfold tl_30
  by_cases e : (jand ((xs (x3).toNat).toInt) (63 : Int)) = (30 : Int)
  · rw [if_pos e]
    obtain ⟨v, ρ, τ, B2, a1, a2, i⟩ := h.seat (k_roomOf h.1 h.2.2 ((xs ((jadd x3 (1 : Int))).toNat).toInt) ((xs ((jadd x3 (2 : Int))).toNat).toInt) ((xs ((jadd x3 (3 : Int))).toNat).toInt))
    have a2 : f_X11_roomOf ρ ((xs ((jadd x3 (1 : Int))).toNat).toInt) ((xs ((jadd x3 (2 : Int))).toNat).toInt) ((xs ((jadd x3 (3 : Int))).toNat).toInt) = some (v, τ) := a2
    refine ⟨τ, B2, ?_, i⟩
    rw [chk_pos (hx.a (show (0 : Int) ≤ 1 by decide) (by decide)), chk_pos (hx.a (show (0 : Int) ≤ 2 by decide) (by decide)), chk_pos (hx.a (show (0 : Int) ≤ 3 by decide) (by decide)), bind_some' a1, chk_pos (hx.a (show (0 : Int) ≤ 1 by decide) (by decide)), chk_pos (hx.a (show (0 : Int) ≤ 2 by decide) (by decide)), chk_pos (hx.a (show (0 : Int) ≤ 3 by decide) (by decide)), bind_some' a2]
    exact (if_pos rfl).trans (l1774 hx τ)
  · rw [if_neg e]
    exact t_31 h hx
theorem t_29 {N n : Nat} {xs : Nat → Int32} {σ : Mem} {B : Bk} {x3 : Int} (h : INV n σ B) (hx : okX N n x3) : LK n x3 (tl_29 N xs σ x3) := by
  unfold tl_29
  by_cases e : (jand ((xs (x3).toNat).toInt) (63 : Int)) = (29 : Int)
  · rw [if_pos e]
    obtain ⟨v, ρ, τ, B2, a1, a2, i⟩ := h.seat (k_pieces h.1 h.2.2 ((xs ((jadd x3 (1 : Int))).toNat).toInt) ((xs ((jadd x3 (2 : Int))).toNat).toInt) ((xs ((jadd x3 (3 : Int))).toNat).toInt))
    have a2 : f_X11_pieces ρ ((xs ((jadd x3 (1 : Int))).toNat).toInt) ((xs ((jadd x3 (2 : Int))).toNat).toInt) ((xs ((jadd x3 (3 : Int))).toNat).toInt) = some (v, τ) := a2
    refine ⟨τ, B2, ?_, i⟩
    rw [chk_pos (hx.a (show (0 : Int) ≤ 1 by decide) (by decide)), chk_pos (hx.a (show (0 : Int) ≤ 2 by decide) (by decide)), chk_pos (hx.a (show (0 : Int) ≤ 3 by decide) (by decide)), bind_some' a1, chk_pos (hx.a (show (0 : Int) ≤ 1 by decide) (by decide)), chk_pos (hx.a (show (0 : Int) ≤ 2 by decide) (by decide)), chk_pos (hx.a (show (0 : Int) ≤ 3 by decide) (by decide)), bind_some' a2]
    exact (if_pos rfl).trans (l1774 hx τ)
  · rw [if_neg e]
    exact t_30 h hx
theorem t_28 {N n : Nat} {xs : Nat → Int32} {σ : Mem} {B : Bk} {x3 : Int} (h : INV n σ B) (hx : okX N n x3) : LK n x3 (tl_28 N xs σ x3) := by
  unfold tl_28
  by_cases e : (jand ((xs (x3).toNat).toInt) (63 : Int)) = (28 : Int)
  · rw [if_pos e]
    obtain ⟨v, ρ, τ, B2, a1, a2, i⟩ := h.duty (k_duty h.1 h.2.1 ((xs ((jadd x3 (1 : Int))).toNat).toInt) ((xs ((jadd x3 (2 : Int))).toNat).toInt))
    have a2 : f_X11_duty ρ ((xs ((jadd x3 (1 : Int))).toNat).toInt) ((xs ((jadd x3 (2 : Int))).toNat).toInt) = some (v, τ) := a2
    refine ⟨τ, B2, ?_, i⟩
    rw [chk_pos (hx.a (show (0 : Int) ≤ 1 by decide) (by decide)), chk_pos (hx.a (show (0 : Int) ≤ 2 by decide) (by decide)), bind_some' a1, chk_pos (hx.a (show (0 : Int) ≤ 1 by decide) (by decide)), chk_pos (hx.a (show (0 : Int) ≤ 2 by decide) (by decide)), bind_some' a2]
    exact (if_pos rfl).trans (l1774 hx τ)
  · rw [if_neg e]
    exact t_29 h hx
theorem t_27 {N n : Nat} {xs : Nat → Int32} {σ : Mem} {B : Bk} {x3 : Int} (h : INV n σ B) (hx : okX N n x3) : LK n x3 (tl_27 N xs σ x3) := by
  unfold tl_27
  by_cases e : (jand ((xs (x3).toNat).toInt) (63 : Int)) = (27 : Int)
  · rw [if_pos e]
    obtain ⟨v, ρ, τ, B2, a1, a2, i⟩ := h.duty (k_watch h.1 h.2.1 ((xs ((jadd x3 (1 : Int))).toNat).toInt))
    have a2 : f_X11_watch ρ ((xs ((jadd x3 (1 : Int))).toNat).toInt) = some (v, τ) := a2
    refine ⟨τ, B2, ?_, i⟩
    rw [chk_pos (hx.a (show (0 : Int) ≤ 1 by decide) (by decide)), bind_some' a1, chk_pos (hx.a (show (0 : Int) ≤ 1 by decide) (by decide)), bind_some' a2]
    exact (if_pos rfl).trans (l1774 hx τ)
  · rw [if_neg e]
    exact t_28 h hx
theorem t_26 {N n : Nat} {xs : Nat → Int32} {σ : Mem} {B : Bk} {x3 : Int} (h : INV n σ B) (hx : okX N n x3) : LK n x3 (tl_26 N xs σ x3) := by
  unfold tl_26
  by_cases e : (jand ((xs (x3).toNat).toInt) (63 : Int)) = (26 : Int)
  · rw [if_pos e]
    obtain ⟨v, ρ, τ, B2, a1, a2, i⟩ := h.ask (q_lawful h.1.1 ((xs ((jadd x3 (1 : Int))).toNat).toInt) ((xs ((jadd x3 (2 : Int))).toNat).toInt))
    have a2 : f_X11_lawful ρ ((xs ((jadd x3 (1 : Int))).toNat).toInt) ((xs ((jadd x3 (2 : Int))).toNat).toInt) = some (v, τ) := a2
    refine ⟨τ, B2, ?_, i⟩
    rw [chk_pos (hx.a (show (0 : Int) ≤ 1 by decide) (by decide)), chk_pos (hx.a (show (0 : Int) ≤ 2 by decide) (by decide)), bind_some' a1, chk_pos (hx.a (show (0 : Int) ≤ 1 by decide) (by decide)), chk_pos (hx.a (show (0 : Int) ≤ 2 by decide) (by decide)), bind_some' a2]
    exact (if_pos rfl).trans (l1774 hx τ)
  · rw [if_neg e]
    exact t_27 h hx
theorem t_25 {N n : Nat} {xs : Nat → Int32} {σ : Mem} {B : Bk} {x3 : Int} (h : INV n σ B) (hx : okX N n x3) : LK n x3 (tl_25 N xs σ x3) := by
  unfold tl_25
  by_cases e : (jand ((xs (x3).toNat).toInt) (63 : Int)) = (25 : Int)
  · rw [if_pos e]
    obtain ⟨v, ρ, τ, B2, a1, a2, i⟩ := h.ask (q_best h.1.1 ((xs ((jadd x3 (1 : Int))).toNat).toInt) ((xs ((jadd x3 (2 : Int))).toNat).toInt) ((xs ((jadd x3 (3 : Int))).toNat).toInt) ((xs ((jadd x3 (4 : Int))).toNat).toInt))
    have a2 : f_X11_best ρ ((xs ((jadd x3 (1 : Int))).toNat).toInt) ((xs ((jadd x3 (2 : Int))).toNat).toInt) ((xs ((jadd x3 (3 : Int))).toNat).toInt) ((xs ((jadd x3 (4 : Int))).toNat).toInt) = some (v, τ) := a2
    refine ⟨τ, B2, ?_, i⟩
    rw [chk_pos (hx.a (show (0 : Int) ≤ 1 by decide) (by decide)), chk_pos (hx.a (show (0 : Int) ≤ 2 by decide) (by decide)), chk_pos (hx.a (show (0 : Int) ≤ 3 by decide) (by decide)), chk_pos (hx.a (show (0 : Int) ≤ 4 by decide) (by decide)), bind_some' a1, chk_pos (hx.a (show (0 : Int) ≤ 1 by decide) (by decide)), chk_pos (hx.a (show (0 : Int) ≤ 2 by decide) (by decide)), chk_pos (hx.a (show (0 : Int) ≤ 3 by decide) (by decide)), chk_pos (hx.a (show (0 : Int) ≤ 4 by decide) (by decide)), bind_some' a2]
    exact (if_pos rfl).trans (l1774 hx τ)
  · rw [if_neg e]
    exact t_26 h hx
theorem t_24 {N n : Nat} {xs : Nat → Int32} {σ : Mem} {B : Bk} {x3 : Int} (h : INV n σ B) (hx : okX N n x3) : LK n x3 (tl_24 N xs σ x3) := by
  unfold tl_24
  by_cases e : (jand ((xs (x3).toNat).toInt) (63 : Int)) = (24 : Int)
  · rw [if_pos e]
    obtain ⟨v, ρ, τ, B2, a1, a2, i⟩ := h.ask (q_measure h.1.1 ((xs ((jadd x3 (1 : Int))).toNat).toInt) ((xs ((jadd x3 (2 : Int))).toNat).toInt) ((xs ((jadd x3 (3 : Int))).toNat).toInt))
    have a2 : f_X11_measure ρ ((xs ((jadd x3 (1 : Int))).toNat).toInt) ((xs ((jadd x3 (2 : Int))).toNat).toInt) ((xs ((jadd x3 (3 : Int))).toNat).toInt) = some (v, τ) := a2
    refine ⟨τ, B2, ?_, i⟩
    rw [chk_pos (hx.a (show (0 : Int) ≤ 1 by decide) (by decide)), chk_pos (hx.a (show (0 : Int) ≤ 2 by decide) (by decide)), chk_pos (hx.a (show (0 : Int) ≤ 3 by decide) (by decide)), bind_some' a1, chk_pos (hx.a (show (0 : Int) ≤ 1 by decide) (by decide)), chk_pos (hx.a (show (0 : Int) ≤ 2 by decide) (by decide)), chk_pos (hx.a (show (0 : Int) ≤ 3 by decide) (by decide)), bind_some' a2]
    exact (if_pos rfl).trans (l1774 hx τ)
  · rw [if_neg e]
    exact t_25 h hx
theorem t_23 {N n : Nat} {xs : Nat → Int32} {σ : Mem} {B : Bk} {x3 : Int} (h : INV n σ B) (hx : okX N n x3) : LK n x3 (tl_23 N xs σ x3) := by
  unfold tl_23
  by_cases e : (jand ((xs (x3).toNat).toInt) (63 : Int)) = (23 : Int)
  · rw [if_pos e]
    obtain ⟨v, ρ, τ, B2, a1, a2, i⟩ := h.ask (q_does h.1.1 ((xs ((jadd x3 (1 : Int))).toNat).toInt) ((xs ((jadd x3 (2 : Int))).toNat).toInt) ((xs ((jadd x3 (3 : Int))).toNat).toInt))
    have a2 : f_X11_does ρ ((xs ((jadd x3 (1 : Int))).toNat).toInt) ((xs ((jadd x3 (2 : Int))).toNat).toInt) ((xs ((jadd x3 (3 : Int))).toNat).toInt) = some (v, τ) := a2
    refine ⟨τ, B2, ?_, i⟩
    rw [chk_pos (hx.a (show (0 : Int) ≤ 1 by decide) (by decide)), chk_pos (hx.a (show (0 : Int) ≤ 2 by decide) (by decide)), chk_pos (hx.a (show (0 : Int) ≤ 3 by decide) (by decide)), bind_some' a1, chk_pos (hx.a (show (0 : Int) ≤ 1 by decide) (by decide)), chk_pos (hx.a (show (0 : Int) ≤ 2 by decide) (by decide)), chk_pos (hx.a (show (0 : Int) ≤ 3 by decide) (by decide)), bind_some' a2]
    exact (if_pos rfl).trans (l1774 hx τ)
  · rw [if_neg e]
    exact t_24 h hx
theorem t_22 {N n : Nat} {xs : Nat → Int32} {σ : Mem} {B : Bk} {x3 : Int} (h : INV n σ B) (hx : okX N n x3) : LK n x3 (tl_22 N xs σ x3) := by
  unfold tl_22
  by_cases e : (jand ((xs (x3).toNat).toInt) (63 : Int)) = (22 : Int)
  · rw [if_pos e]
    obtain ⟨v, ρ, τ, B2, a1, a2, i⟩ := h.ask (q_sits h.1.1 ((xs ((jadd x3 (1 : Int))).toNat).toInt) ((xs ((jadd x3 (2 : Int))).toNat).toInt) ((xs ((jadd x3 (3 : Int))).toNat).toInt) ((xs ((jadd x3 (4 : Int))).toNat).toInt))
    have a2 : f_X11_sits ρ ((xs ((jadd x3 (1 : Int))).toNat).toInt) ((xs ((jadd x3 (2 : Int))).toNat).toInt) ((xs ((jadd x3 (3 : Int))).toNat).toInt) ((xs ((jadd x3 (4 : Int))).toNat).toInt) = some (v, τ) := a2
    refine ⟨τ, B2, ?_, i⟩
    rw [chk_pos (hx.a (show (0 : Int) ≤ 1 by decide) (by decide)), chk_pos (hx.a (show (0 : Int) ≤ 2 by decide) (by decide)), chk_pos (hx.a (show (0 : Int) ≤ 3 by decide) (by decide)), chk_pos (hx.a (show (0 : Int) ≤ 4 by decide) (by decide)), bind_some' a1, chk_pos (hx.a (show (0 : Int) ≤ 1 by decide) (by decide)), chk_pos (hx.a (show (0 : Int) ≤ 2 by decide) (by decide)), chk_pos (hx.a (show (0 : Int) ≤ 3 by decide) (by decide)), chk_pos (hx.a (show (0 : Int) ≤ 4 by decide) (by decide)), bind_some' a2]
    exact (if_pos rfl).trans (l1774 hx τ)
  · rw [if_neg e]
    exact t_23 h hx
theorem t_21 {N n : Nat} {xs : Nat → Int32} {σ : Mem} {B : Bk} {x3 : Int} (h : INV n σ B) (hx : okX N n x3) : LK n x3 (tl_21 N xs σ x3) := by
  unfold tl_21
  by_cases e : (jand ((xs (x3).toNat).toInt) (63 : Int)) = (21 : Int)
  · rw [if_pos e]
    obtain ⟨v, ρ, τ, B2, a1, a2, i⟩ := h.ask (q_plan h.1.1 ((xs ((jadd x3 (1 : Int))).toNat).toInt) ((xs ((jadd x3 (2 : Int))).toNat).toInt) ((xs ((jadd x3 (3 : Int))).toNat).toInt))
    have a2 : f_X11_plan ρ ((xs ((jadd x3 (1 : Int))).toNat).toInt) ((xs ((jadd x3 (2 : Int))).toNat).toInt) ((xs ((jadd x3 (3 : Int))).toNat).toInt) = some (v, τ) := a2
    refine ⟨τ, B2, ?_, i⟩
    rw [chk_pos (hx.a (show (0 : Int) ≤ 1 by decide) (by decide)), chk_pos (hx.a (show (0 : Int) ≤ 2 by decide) (by decide)), chk_pos (hx.a (show (0 : Int) ≤ 3 by decide) (by decide)), bind_some' a1, chk_pos (hx.a (show (0 : Int) ≤ 1 by decide) (by decide)), chk_pos (hx.a (show (0 : Int) ≤ 2 by decide) (by decide)), chk_pos (hx.a (show (0 : Int) ≤ 3 by decide) (by decide)), bind_some' a2]
    exact (if_pos rfl).trans (l1774 hx τ)
  · rw [if_neg e]
    exact t_22 h hx
theorem t_20 {N n : Nat} {xs : Nat → Int32} {σ : Mem} {B : Bk} {x3 : Int} (h : INV n σ B) (hx : okX N n x3) : LK n x3 (tl_20 N xs σ x3) := by
  unfold tl_20
  by_cases e : (jand ((xs (x3).toNat).toInt) (63 : Int)) = (20 : Int)
  · rw [if_pos e]
    obtain ⟨v, ρ, τ, B2, a1, a2, i⟩ := h.ask (q_time h.1.1 ((xs ((jadd x3 (1 : Int))).toNat).toInt) ((xs ((jadd x3 (2 : Int))).toNat).toInt))
    have a2 : f_X11_time ρ ((xs ((jadd x3 (1 : Int))).toNat).toInt) ((xs ((jadd x3 (2 : Int))).toNat).toInt) = some (v, τ) := a2
    refine ⟨τ, B2, ?_, i⟩
    rw [chk_pos (hx.a (show (0 : Int) ≤ 1 by decide) (by decide)), chk_pos (hx.a (show (0 : Int) ≤ 2 by decide) (by decide)), bind_some' a1, chk_pos (hx.a (show (0 : Int) ≤ 1 by decide) (by decide)), chk_pos (hx.a (show (0 : Int) ≤ 2 by decide) (by decide)), bind_some' a2]
    exact (if_pos rfl).trans (l1774 hx τ)
  · rw [if_neg e]
    exact t_21 h hx
theorem t_19 {N n : Nat} {xs : Nat → Int32} {σ : Mem} {B : Bk} {x3 : Int} (h : INV n σ B) (hx : okX N n x3) : LK n x3 (tl_19 N xs σ x3) := by
  unfold tl_19
  by_cases e : (jand ((xs (x3).toNat).toInt) (63 : Int)) = (19 : Int)
  · rw [if_pos e]
    obtain ⟨v, ρ, τ, B2, a1, a2, i⟩ := h.call (k_paperOf h.1 hx.n ((xs ((jadd x3 (1 : Int))).toNat).toInt) ((xs ((jadd x3 (2 : Int))).toNat).toInt))
    have a2 : f_X11_paperOf ρ ((xs ((jadd x3 (1 : Int))).toNat).toInt) ((xs ((jadd x3 (2 : Int))).toNat).toInt) = some (v, τ) := a2
    refine ⟨τ, B2, ?_, i⟩
    rw [chk_pos (hx.a (show (0 : Int) ≤ 1 by decide) (by decide)), chk_pos (hx.a (show (0 : Int) ≤ 2 by decide) (by decide)), bind_some' a1, chk_pos (hx.a (show (0 : Int) ≤ 1 by decide) (by decide)), chk_pos (hx.a (show (0 : Int) ≤ 2 by decide) (by decide)), bind_some' a2]
    exact (if_pos rfl).trans (l1774 hx τ)
  · rw [if_neg e]
    exact t_20 h hx
theorem t_18 {N n : Nat} {xs : Nat → Int32} {σ : Mem} {B : Bk} {x3 : Int} (h : INV n σ B) (hx : okX N n x3) : LK n x3 (tl_18 N xs σ x3) := by
  unfold tl_18
  by_cases e : (jand ((xs (x3).toNat).toInt) (63 : Int)) = (18 : Int)
  · rw [if_pos e]
    obtain ⟨v, ρ, τ, B2, a1, a2, i⟩ := h.ask (q_candOf h.1.1 ((xs ((jadd x3 (1 : Int))).toNat).toInt) ((xs ((jadd x3 (2 : Int))).toNat).toInt))
    have a2 : f_X11_candOf ρ ((xs ((jadd x3 (1 : Int))).toNat).toInt) ((xs ((jadd x3 (2 : Int))).toNat).toInt) = some (v, τ) := a2
    refine ⟨τ, B2, ?_, i⟩
    rw [chk_pos (hx.a (show (0 : Int) ≤ 1 by decide) (by decide)), chk_pos (hx.a (show (0 : Int) ≤ 2 by decide) (by decide)), bind_some' a1, chk_pos (hx.a (show (0 : Int) ≤ 1 by decide) (by decide)), chk_pos (hx.a (show (0 : Int) ≤ 2 by decide) (by decide)), bind_some' a2]
    exact (if_pos rfl).trans (l1774 hx τ)
  · rw [if_neg e]
    exact t_19 h hx
theorem t_17 {N n : Nat} {xs : Nat → Int32} {σ : Mem} {B : Bk} {x3 : Int} (h : INV n σ B) (hx : okX N n x3) : LK n x3 (tl_17 N xs σ x3) := by
  unfold tl_17
  by_cases e : (jand ((xs (x3).toNat).toInt) (63 : Int)) = (17 : Int)
  · rw [if_pos e]
    obtain ⟨v, ρ, τ, B2, a1, a2, i⟩ := h.call (k_book h.1 hx.n)
    have a2 : f_X11_book ρ  = some (v, τ) := a2
    refine ⟨τ, B2, ?_, i⟩
    rw [bind_some' a1, bind_some' a2]
    exact (if_pos rfl).trans (l1774 hx τ)
  · rw [if_neg e]
    exact t_18 h hx
theorem t_16 {N n : Nat} {xs : Nat → Int32} {σ : Mem} {B : Bk} {x3 : Int} (h : INV n σ B) (hx : okX N n x3) : LK n x3 (tl_16 N xs σ x3) := by
  unfold tl_16
  by_cases e : (jand ((xs (x3).toNat).toInt) (63 : Int)) = (16 : Int)
  · rw [if_pos e]
    obtain ⟨v, ρ, τ, B2, a1, a2, i⟩ := h.call (k_wipe h.1)
    have a2 : f_X11_wipe ρ  = some (v, τ) := a2
    refine ⟨τ, B2, ?_, i⟩
    rw [bind_some' a1, bind_some' a2]
    exact (if_pos rfl).trans (l1774 hx τ)
  · rw [if_neg e]
    exact t_17 h hx
theorem t_15 {N n : Nat} {xs : Nat → Int32} {σ : Mem} {B : Bk} {x3 : Int} (h : INV n σ B) (hx : okX N n x3) : LK n x3 (tl_15 N xs σ x3) := by
  unfold tl_15
  by_cases e : (jand ((xs (x3).toNat).toInt) (63 : Int)) = (15 : Int)
  · rw [if_pos e]
    obtain ⟨v, ρ, τ, B2, a1, a2, i⟩ := h.call (k_feed h.1 hx.n ((xs ((jadd x3 (1 : Int))).toNat).toInt))
    have a2 : f_X11_feed ρ ((xs ((jadd x3 (1 : Int))).toNat).toInt) = some (v, τ) := a2
    refine ⟨τ, B2, ?_, i⟩
    rw [chk_pos (hx.a (show (0 : Int) ≤ 1 by decide) (by decide)), bind_some' a1, chk_pos (hx.a (show (0 : Int) ≤ 1 by decide) (by decide)), bind_some' a2]
    exact (if_pos rfl).trans (l1774 hx τ)
  · rw [if_neg e]
    exact t_16 h hx
theorem t_14 {N n : Nat} {xs : Nat → Int32} {σ : Mem} {B : Bk} {x3 : Int} (h : INV n σ B) (hx : okX N n x3) : LK n x3 (tl_14 N xs σ x3) := by
  unfold tl_14
  by_cases e : (jand ((xs (x3).toNat).toInt) (63 : Int)) = (14 : Int)
  · rw [if_pos e]
    obtain ⟨v, ρ, τ, B2, a1, a2, i⟩ := h.call (k_turn h.1 hx.n ((xs ((jadd x3 (1 : Int))).toNat).toInt))
    have a2 : f_X11_turn ρ ((xs ((jadd x3 (1 : Int))).toNat).toInt) = some (v, τ) := a2
    refine ⟨τ, B2, ?_, i⟩
    rw [chk_pos (hx.a (show (0 : Int) ≤ 1 by decide) (by decide)), bind_some' a1, chk_pos (hx.a (show (0 : Int) ≤ 1 by decide) (by decide)), bind_some' a2]
    exact (if_pos rfl).trans (l1774 hx τ)
  · rw [if_neg e]
    exact t_15 h hx
theorem t_13 {N n : Nat} {xs : Nat → Int32} {σ : Mem} {B : Bk} {x3 : Int} (h : INV n σ B) (hx : okX N n x3) : LK n x3 (tl_13 N xs σ x3) := by
  unfold tl_13
  by_cases e : (jand ((xs (x3).toNat).toInt) (63 : Int)) = (13 : Int)
  · rw [if_pos e]
    obtain ⟨v, ρ, τ, B2, a1, a2, i⟩ := h.call (k_hours h.1 hx.n ((xs ((jadd x3 (1 : Int))).toNat).toInt))
    have a2 : f_X11_hours ρ ((xs ((jadd x3 (1 : Int))).toNat).toInt) = some (v, τ) := a2
    refine ⟨τ, B2, ?_, i⟩
    rw [chk_pos (hx.a (show (0 : Int) ≤ 1 by decide) (by decide)), bind_some' a1, chk_pos (hx.a (show (0 : Int) ≤ 1 by decide) (by decide)), bind_some' a2]
    exact (if_pos rfl).trans (l1774 hx τ)
  · rw [if_neg e]
    exact t_14 h hx
theorem t_12 {N n : Nat} {xs : Nat → Int32} {σ : Mem} {B : Bk} {x3 : Int} (h : INV n σ B) (hx : okX N n x3) : LK n x3 (tl_12 N xs σ x3) := by
  unfold tl_12
  by_cases e : (jand ((xs (x3).toNat).toInt) (63 : Int)) = (12 : Int)
  · rw [if_pos e]
    obtain ⟨v, ρ, τ, B2, a1, a2, i⟩ := h.call (k_room h.1 hx.n ((xs ((jadd x3 (1 : Int))).toNat).toInt))
    have a2 : f_X11_room ρ ((xs ((jadd x3 (1 : Int))).toNat).toInt) = some (v, τ) := a2
    refine ⟨τ, B2, ?_, i⟩
    rw [chk_pos (hx.a (show (0 : Int) ≤ 1 by decide) (by decide)), bind_some' a1, chk_pos (hx.a (show (0 : Int) ≤ 1 by decide) (by decide)), bind_some' a2]
    exact (if_pos rfl).trans (l1774 hx τ)
  · rw [if_neg e]
    exact t_13 h hx
theorem t_11 {N n : Nat} {xs : Nat → Int32} {σ : Mem} {B : Bk} {x3 : Int} (h : INV n σ B) (hx : okX N n x3) : LK n x3 (tl_11 N xs σ x3) := by
  unfold tl_11
  by_cases e : (jand ((xs (x3).toNat).toInt) (63 : Int)) = (11 : Int)
  · rw [if_pos e]
    obtain ⟨v, ρ, τ, B2, a1, a2, i⟩ := h.call (k_night h.1 hx.n ((xs ((jadd x3 (1 : Int))).toNat).toInt) ((xs ((jadd x3 (2 : Int))).toNat).toInt))
    have a2 : f_X11_night ρ ((xs ((jadd x3 (1 : Int))).toNat).toInt) ((xs ((jadd x3 (2 : Int))).toNat).toInt) = some (v, τ) := a2
    refine ⟨τ, B2, ?_, i⟩
    rw [chk_pos (hx.a (show (0 : Int) ≤ 1 by decide) (by decide)), chk_pos (hx.a (show (0 : Int) ≤ 2 by decide) (by decide)), bind_some' a1, chk_pos (hx.a (show (0 : Int) ≤ 1 by decide) (by decide)), chk_pos (hx.a (show (0 : Int) ≤ 2 by decide) (by decide)), bind_some' a2]
    exact (if_pos rfl).trans (l1774 hx τ)
  · rw [if_neg e]
    exact t_12 h hx
theorem t_10 {N n : Nat} {xs : Nat → Int32} {σ : Mem} {B : Bk} {x3 : Int} (h : INV n σ B) (hx : okX N n x3) : LK n x3 (tl_10 N xs σ x3) := by
  unfold tl_10
  by_cases e : (jand ((xs (x3).toNat).toInt) (63 : Int)) = (10 : Int)
  · rw [if_pos e]
    obtain ⟨v, ρ, τ, B2, a1, a2, i⟩ := h.call (k_takes h.1 hx.n ((xs ((jadd x3 (1 : Int))).toNat).toInt) ((xs ((jadd x3 (2 : Int))).toNat).toInt) ((xs ((jadd x3 (3 : Int))).toNat).toInt))
    have a2 : f_X11_takes ρ ((xs ((jadd x3 (1 : Int))).toNat).toInt) ((xs ((jadd x3 (2 : Int))).toNat).toInt) ((xs ((jadd x3 (3 : Int))).toNat).toInt) = some (v, τ) := a2
    refine ⟨τ, B2, ?_, i⟩
    rw [chk_pos (hx.a (show (0 : Int) ≤ 1 by decide) (by decide)), chk_pos (hx.a (show (0 : Int) ≤ 2 by decide) (by decide)), chk_pos (hx.a (show (0 : Int) ≤ 3 by decide) (by decide)), bind_some' a1, chk_pos (hx.a (show (0 : Int) ≤ 1 by decide) (by decide)), chk_pos (hx.a (show (0 : Int) ≤ 2 by decide) (by decide)), chk_pos (hx.a (show (0 : Int) ≤ 3 by decide) (by decide)), bind_some' a2]
    exact (if_pos rfl).trans (l1774 hx τ)
  · rw [if_neg e]
    exact t_11 h hx
theorem t_9 {N n : Nat} {xs : Nat → Int32} {σ : Mem} {B : Bk} {x3 : Int} (h : INV n σ B) (hx : okX N n x3) : LK n x3 (tl_9 N xs σ x3) := by
  unfold tl_9
  by_cases e : (jand ((xs (x3).toNat).toInt) (63 : Int)) = (9 : Int)
  · rw [if_pos e]
    obtain ⟨v, ρ, τ, B2, a1, a2, i⟩ := h.call (k_cand h.1 hx.n ((xs ((jadd x3 (1 : Int))).toNat).toInt) ((xs ((jadd x3 (2 : Int))).toNat).toInt))
    have a2 : f_X11_cand ρ ((xs ((jadd x3 (1 : Int))).toNat).toInt) ((xs ((jadd x3 (2 : Int))).toNat).toInt) = some (v, τ) := a2
    refine ⟨τ, B2, ?_, i⟩
    rw [chk_pos (hx.a (show (0 : Int) ≤ 1 by decide) (by decide)), chk_pos (hx.a (show (0 : Int) ≤ 2 by decide) (by decide)), bind_some' a1, chk_pos (hx.a (show (0 : Int) ≤ 1 by decide) (by decide)), chk_pos (hx.a (show (0 : Int) ≤ 2 by decide) (by decide)), bind_some' a2]
    exact (if_pos rfl).trans (l1774 hx τ)
  · rw [if_neg e]
    exact t_10 h hx
theorem t_8 {N n : Nat} {xs : Nat → Int32} {σ : Mem} {B : Bk} {x3 : Int} (h : INV n σ B) (hx : okX N n x3) : LK n x3 (tl_8 N xs σ x3) := by
  unfold tl_8
  by_cases e : (jand ((xs (x3).toNat).toInt) (63 : Int)) = (8 : Int)
  · rw [if_pos e]
    obtain ⟨v, ρ, τ, B2, a1, a2, i⟩ := h.call (k_starts h.1 hx.n ((xs ((jadd x3 (1 : Int))).toNat).toInt) ((xs ((jadd x3 (2 : Int))).toNat).toInt))
    have a2 : f_X11_starts ρ ((xs ((jadd x3 (1 : Int))).toNat).toInt) ((xs ((jadd x3 (2 : Int))).toNat).toInt) = some (v, τ) := a2
    refine ⟨τ, B2, ?_, i⟩
    rw [chk_pos (hx.a (show (0 : Int) ≤ 1 by decide) (by decide)), chk_pos (hx.a (show (0 : Int) ≤ 2 by decide) (by decide)), bind_some' a1, chk_pos (hx.a (show (0 : Int) ≤ 1 by decide) (by decide)), chk_pos (hx.a (show (0 : Int) ≤ 2 by decide) (by decide)), bind_some' a2]
    exact (if_pos rfl).trans (l1774 hx τ)
  · rw [if_neg e]
    exact t_9 h hx
theorem t_7 {N n : Nat} {xs : Nat → Int32} {σ : Mem} {B : Bk} {x3 : Int} (h : INV n σ B) (hx : okX N n x3) : LK n x3 (tl_7 N xs σ x3) := by
  unfold tl_7
  by_cases e : (jand ((xs (x3).toNat).toInt) (63 : Int)) = (7 : Int)
  · rw [if_pos e]
    obtain ⟨v, ρ, τ, B2, a1, a2, i⟩ := h.call (k_paper h.1 hx.n ((xs ((jadd x3 (1 : Int))).toNat).toInt) ((xs ((jadd x3 (2 : Int))).toNat).toInt) ((xs ((jadd x3 (3 : Int))).toNat).toInt))
    have a2 : f_X11_paper ρ ((xs ((jadd x3 (1 : Int))).toNat).toInt) ((xs ((jadd x3 (2 : Int))).toNat).toInt) ((xs ((jadd x3 (3 : Int))).toNat).toInt) = some (v, τ) := a2
    refine ⟨τ, B2, ?_, i⟩
    rw [chk_pos (hx.a (show (0 : Int) ≤ 1 by decide) (by decide)), chk_pos (hx.a (show (0 : Int) ≤ 2 by decide) (by decide)), chk_pos (hx.a (show (0 : Int) ≤ 3 by decide) (by decide)), bind_some' a1, chk_pos (hx.a (show (0 : Int) ≤ 1 by decide) (by decide)), chk_pos (hx.a (show (0 : Int) ≤ 2 by decide) (by decide)), chk_pos (hx.a (show (0 : Int) ≤ 3 by decide) (by decide)), bind_some' a2]
    exact (if_pos rfl).trans (l1774 hx τ)
  · rw [if_neg e]
    exact t_8 h hx
theorem t_6 {N n : Nat} {xs : Nat → Int32} {σ : Mem} {B : Bk} {x3 : Int} (h : INV n σ B) (hx : okX N n x3) : LK n x3 (tl_6 N xs σ x3) := by
  unfold tl_6
  by_cases e : (jand ((xs (x3).toNat).toInt) (63 : Int)) = (6 : Int)
  · rw [if_pos e]
    obtain ⟨v, ρ, τ, B2, a1, a2, i⟩ := h.call (k_says h.1 hx.n ((xs ((jadd x3 (1 : Int))).toNat).toInt) ((xs ((jadd x3 (2 : Int))).toNat).toInt) ((xs ((jadd x3 (3 : Int))).toNat).toInt))
    have a2 : f_X11_says ρ ((xs ((jadd x3 (1 : Int))).toNat).toInt) ((xs ((jadd x3 (2 : Int))).toNat).toInt) ((xs ((jadd x3 (3 : Int))).toNat).toInt) = some (v, τ) := a2
    refine ⟨τ, B2, ?_, i⟩
    rw [chk_pos (hx.a (show (0 : Int) ≤ 1 by decide) (by decide)), chk_pos (hx.a (show (0 : Int) ≤ 2 by decide) (by decide)), chk_pos (hx.a (show (0 : Int) ≤ 3 by decide) (by decide)), bind_some' a1, chk_pos (hx.a (show (0 : Int) ≤ 1 by decide) (by decide)), chk_pos (hx.a (show (0 : Int) ≤ 2 by decide) (by decide)), chk_pos (hx.a (show (0 : Int) ≤ 3 by decide) (by decide)), bind_some' a2]
    exact (if_pos rfl).trans (l1774 hx τ)
  · rw [if_neg e]
    exact t_7 h hx
theorem t_5 {N n : Nat} {xs : Nat → Int32} {σ : Mem} {B : Bk} {x3 : Int} (h : INV n σ B) (hx : okX N n x3) : LK n x3 (tl_5 N xs σ x3) := by
  unfold tl_5
  by_cases e : (jand ((xs (x3).toNat).toInt) (63 : Int)) = (5 : Int)
  · rw [if_pos e]
    obtain ⟨v, ρ, τ, B2, a1, a2, i⟩ := h.call (k_show h.1 hx.n ((xs ((jadd x3 (1 : Int))).toNat).toInt) ((xs ((jadd x3 (2 : Int))).toNat).toInt))
    have a2 : f_X11_show ρ ((xs ((jadd x3 (1 : Int))).toNat).toInt) ((xs ((jadd x3 (2 : Int))).toNat).toInt) = some (v, τ) := a2
    refine ⟨τ, B2, ?_, i⟩
    rw [chk_pos (hx.a (show (0 : Int) ≤ 1 by decide) (by decide)), chk_pos (hx.a (show (0 : Int) ≤ 2 by decide) (by decide)), bind_some' a1, chk_pos (hx.a (show (0 : Int) ≤ 1 by decide) (by decide)), chk_pos (hx.a (show (0 : Int) ≤ 2 by decide) (by decide)), bind_some' a2]
    exact (if_pos rfl).trans (l1774 hx τ)
  · rw [if_neg e]
    exact t_6 h hx
theorem t_4 {N n : Nat} {xs : Nat → Int32} {σ : Mem} {B : Bk} {x3 : Int} (h : INV n σ B) (hx : okX N n x3) : LK n x3 (tl_4 N xs σ x3) := by
  unfold tl_4
  by_cases e : (jand ((xs (x3).toNat).toInt) (63 : Int)) = (4 : Int)
  · rw [if_pos e]
    obtain ⟨v, a1, a2⟩ := k_holds h.1 ((xs ((jadd x3 (1 : Int))).toNat).toInt)
    refine ⟨σ, B, ?_, h.up⟩
    rw [chk_pos (hx.a (show (0 : Int) ≤ 1 by decide) (by decide)), bind_some' a1, chk_pos (hx.a (show (0 : Int) ≤ 1 by decide) (by decide)), bind_some' a2]
    exact (if_pos rfl).trans (l1774 hx σ)
  · rw [if_neg e]
    exact t_5 h hx
theorem t_3 {N n : Nat} {xs : Nat → Int32} {σ : Mem} {B : Bk} {x3 : Int} (h : INV n σ B) (hx : okX N n x3) : LK n x3 (tl_3 N xs σ x3) := by
  unfold tl_3
  by_cases e : (jand ((xs (x3).toNat).toInt) (63 : Int)) = (3 : Int)
  · rw [if_pos e]
    obtain ⟨v, a1, a2⟩ := k_element h.1 ((xs ((jadd x3 (1 : Int))).toNat).toInt) ((xs ((jadd x3 (2 : Int))).toNat).toInt)
    refine ⟨σ, B, ?_, h.up⟩
    rw [chk_pos (hx.a (show (0 : Int) ≤ 1 by decide) (by decide)), chk_pos (hx.a (show (0 : Int) ≤ 2 by decide) (by decide)), bind_some' a1, chk_pos (hx.a (show (0 : Int) ≤ 1 by decide) (by decide)), chk_pos (hx.a (show (0 : Int) ≤ 2 by decide) (by decide)), bind_some' a2]
    exact (if_pos rfl).trans (l1774 hx σ)
  · rw [if_neg e]
    exact t_4 h hx
theorem t_2 {N n : Nat} {xs : Nat → Int32} {σ : Mem} {B : Bk} {x3 : Int} (h : INV n σ B) (hx : okX N n x3) : LK n x3 (tl_2 N xs σ x3) := by
  unfold tl_2
  by_cases e : (jand ((xs (x3).toNat).toInt) (63 : Int)) = (2 : Int)
  · rw [if_pos e]
    obtain ⟨v, ρ, τ, B2, a1, a2, i⟩ := h.call (k_copy h.1 ((xs ((jadd x3 (1 : Int))).toNat).toInt) ((xs ((jadd x3 (2 : Int))).toNat).toInt) (i := ((xs ((jadd x3 (3 : Int))).toNat).toInt)) (j := ((xs ((jadd x3 (4 : Int))).toNat).toInt)) (m := ((xs ((jadd x3 (5 : Int))).toNat).toInt)) (ti32 _) (ti32 _))
    have a2 : f_X11_copy ρ ((xs ((jadd x3 (1 : Int))).toNat).toInt) ((xs ((jadd x3 (2 : Int))).toNat).toInt) ((xs ((jadd x3 (3 : Int))).toNat).toInt) ((xs ((jadd x3 (4 : Int))).toNat).toInt) ((xs ((jadd x3 (5 : Int))).toNat).toInt) = some (v, τ) := a2
    refine ⟨τ, B2, ?_, i⟩
    rw [chk_pos (hx.a (show (0 : Int) ≤ 1 by decide) (by decide)), chk_pos (hx.a (show (0 : Int) ≤ 2 by decide) (by decide)), chk_pos (hx.a (show (0 : Int) ≤ 3 by decide) (by decide)), chk_pos (hx.a (show (0 : Int) ≤ 4 by decide) (by decide)), chk_pos (hx.a (show (0 : Int) ≤ 5 by decide) (by decide)), bind_some' a1, chk_pos (hx.a (show (0 : Int) ≤ 1 by decide) (by decide)), chk_pos (hx.a (show (0 : Int) ≤ 2 by decide) (by decide)), chk_pos (hx.a (show (0 : Int) ≤ 3 by decide) (by decide)), chk_pos (hx.a (show (0 : Int) ≤ 4 by decide) (by decide)), chk_pos (hx.a (show (0 : Int) ≤ 5 by decide) (by decide)), bind_some' a2]
    exact (if_pos rfl).trans (l1774 hx τ)
  · rw [if_neg e]
    exact t_3 h hx
theorem t_1 {N n : Nat} {xs : Nat → Int32} {σ : Mem} {B : Bk} {x3 : Int} (h : INV n σ B) (hx : okX N n x3) : LK n x3 (tl_1 N xs σ x3) := by
  unfold tl_1
  by_cases e : (jand ((xs (x3).toNat).toInt) (63 : Int)) = (1 : Int)
  · rw [if_pos e]
    obtain ⟨v, ρ, τ, B2, a1, a2, i⟩ := h.call (k_set h.1 hx.n ((xs ((jadd x3 (1 : Int))).toNat).toInt) ((xs ((jadd x3 (2 : Int))).toNat).toInt) (kor (kshl ((xs ((jadd x3 (3 : Int))).toNat).toInt) (32 : Int)) (kand ((xs ((jadd x3 (4 : Int))).toNat).toInt) (4294967295 : Int))))
    have a2 : f_X11_set ρ ((xs ((jadd x3 (1 : Int))).toNat).toInt) ((xs ((jadd x3 (2 : Int))).toNat).toInt) (kor (kshl ((xs ((jadd x3 (3 : Int))).toNat).toInt) (32 : Int)) (kand ((xs ((jadd x3 (4 : Int))).toNat).toInt) (4294967295 : Int))) = some (v, τ) := a2
    refine ⟨τ, B2, ?_, i⟩
    rw [chk_pos (hx.a (show (0 : Int) ≤ 1 by decide) (by decide)), chk_pos (hx.a (show (0 : Int) ≤ 2 by decide) (by decide)), chk_pos (hx.a (show (0 : Int) ≤ 3 by decide) (by decide)), chk_pos (hx.a (show (0 : Int) ≤ 4 by decide) (by decide)), bind_some' a1, chk_pos (hx.a (show (0 : Int) ≤ 1 by decide) (by decide)), chk_pos (hx.a (show (0 : Int) ≤ 2 by decide) (by decide)), chk_pos (hx.a (show (0 : Int) ≤ 3 by decide) (by decide)), chk_pos (hx.a (show (0 : Int) ≤ 4 by decide) (by decide)), bind_some' a2]
    exact (if_pos rfl).trans (l1774 hx τ)
  · rw [if_neg e]
    exact t_2 h hx
theorem t_0 {N n : Nat} {xs : Nat → Int32} {σ : Mem} {B : Bk} {x3 : Int} (h : INV n σ B) (hx : okX N n x3) : LK n x3 (tl_0 N xs σ x3) := by
  unfold tl_0
  by_cases e : (jand ((xs (x3).toNat).toInt) (63 : Int)) = (0 : Int)
  · rw [if_pos e]
    obtain ⟨v, ρ, τ, B2, a1, a2, i⟩ := h.call (k_row h.1 hx.n ((xs ((jadd x3 (1 : Int))).toNat).toInt) ((xs ((jadd x3 (2 : Int))).toNat).toInt) ((xs ((jadd x3 (3 : Int))).toNat).toInt))
    have a2 : f_X11_row ρ ((xs ((jadd x3 (1 : Int))).toNat).toInt) ((xs ((jadd x3 (2 : Int))).toNat).toInt) ((xs ((jadd x3 (3 : Int))).toNat).toInt) = some (v, τ) := a2
    refine ⟨τ, B2, ?_, i⟩
    rw [chk_pos (hx.a (show (0 : Int) ≤ 1 by decide) (by decide)), chk_pos (hx.a (show (0 : Int) ≤ 2 by decide) (by decide)), chk_pos (hx.a (show (0 : Int) ≤ 3 by decide) (by decide)), bind_some' a1, chk_pos (hx.a (show (0 : Int) ≤ 1 by decide) (by decide)), chk_pos (hx.a (show (0 : Int) ≤ 2 by decide) (by decide)), chk_pos (hx.a (show (0 : Int) ≤ 3 by decide) (by decide)), bind_some' a2]
    exact (if_pos rfl).trans (l1774 hx τ)
  · rw [if_neg e]
    exact t_1 h hx
def kL (e : (Mem) ⊕ (Mem) ⊕ (Mem) ⊕ (Mem) ⊕ (Mem) ⊕ (Mem) ⊕ (Mem) ⊕ (Mem) ⊕ (Mem) ⊕ (Mem) ⊕ (Mem) ⊕ (Mem) ⊕ (Mem) ⊕ (Mem) ⊕ (Mem) ⊕ (Mem) ⊕ (Mem) ⊕ (Mem) ⊕ (Mem) ⊕ (Mem) ⊕ (Mem) ⊕ (Mem) ⊕ (Mem) ⊕ (Mem) ⊕ (Mem) ⊕ (Mem) ⊕ (Mem) ⊕ (Mem) ⊕ (Mem) ⊕ (Mem) ⊕ (Mem) ⊕ (Mem) ⊕ (Mem) ⊕ (Mem) ⊕ (Mem) ⊕ (Mem) ⊕ (Mem) ⊕ (Mem) ⊕ (Mem) ⊕ (Mem) ⊕ (Mem) ⊕ (Mem) ⊕ (Mem) ⊕ (Mem) ⊕ (Mem) ⊕ (Mem)) : Option (Int × Mem) := (Sum.elim (fun e => some ((0 : Int), e)) (Sum.elim (fun e => some ((0 : Int), e)) (Sum.elim (fun e => some ((0 : Int), e)) (Sum.elim (fun e => some ((0 : Int), e)) (Sum.elim (fun e => some ((0 : Int), e)) (Sum.elim (fun e => some ((0 : Int), e)) (Sum.elim (fun e => some ((0 : Int), e)) (Sum.elim (fun e => some ((0 : Int), e)) (Sum.elim (fun e => some ((0 : Int), e)) (Sum.elim (fun e => some ((0 : Int), e)) (Sum.elim (fun e => some ((0 : Int), e)) (Sum.elim (fun e => some ((0 : Int), e)) (Sum.elim (fun e => some ((0 : Int), e)) (Sum.elim (fun e => some ((0 : Int), e)) (Sum.elim (fun e => some ((0 : Int), e)) (Sum.elim (fun e => some ((0 : Int), e)) (Sum.elim (fun e => some ((0 : Int), e)) (Sum.elim (fun e => some ((0 : Int), e)) (Sum.elim (fun e => some ((0 : Int), e)) (Sum.elim (fun e => some ((0 : Int), e)) (Sum.elim (fun e => some ((0 : Int), e)) (Sum.elim (fun e => some ((0 : Int), e)) (Sum.elim (fun e => some ((0 : Int), e)) (Sum.elim (fun e => some ((0 : Int), e)) (Sum.elim (fun e => some ((0 : Int), e)) (Sum.elim (fun e => some ((0 : Int), e)) (Sum.elim (fun e => some ((0 : Int), e)) (Sum.elim (fun e => some ((0 : Int), e)) (Sum.elim (fun e => some ((0 : Int), e)) (Sum.elim (fun e => some ((0 : Int), e)) (Sum.elim (fun e => some ((0 : Int), e)) (Sum.elim (fun e => some ((0 : Int), e)) (Sum.elim (fun e => some ((0 : Int), e)) (Sum.elim (fun e => some ((0 : Int), e)) (Sum.elim (fun e => some ((0 : Int), e)) (Sum.elim (fun e => some ((0 : Int), e)) (Sum.elim (fun e => some ((0 : Int), e)) (Sum.elim (fun e => some ((0 : Int), e)) (Sum.elim (fun e => some ((0 : Int), e)) (Sum.elim (fun e => some ((0 : Int), e)) (Sum.elim (fun e => some ((0 : Int), e)) (Sum.elim (fun e => some ((0 : Int), e)) (Sum.elim (fun e => some ((0 : Int), e)) (Sum.elim (fun e => some ((0 : Int), e)) (Sum.elim (fun e => some ((0 : Int), e)) (fun e => some ((1 : Int), e))))))))))))))))))))))))))))))))))))))))))))))) e
theorem law_all {L : Nat} {xs : Nat → Int32} (hL : L ≤ 3072) : ∃ τ, f_L_law L xs sg0 = some (1, τ) := by
  obtain ⟨e, e1, τ, e2⟩ := loop_ex (f := f_L_law_18B L xs) (fun s => ∃ (n : Nat) (B : Bk), s.1 = 6 * (n : Int) ∧ n ≤ 512 ∧ INV n s.2 B) (fun s => (4000 - s.1).toNat) (fun e => ∃ τ, kL e = some (1, τ)) (a := (0, sg0)) ⟨0, B0, rfl, Nat.zero_le _, INV_0⟩ (Nat.le_of_ble_eq_true rfl) (by
    rintro ⟨_, σ⟩ ⟨n, B, rfl, hn, hI⟩
    have hI : INV n σ B := hI
    show (∃ a', f_L_law_18C L xs (6 * (n : Int)) σ = _ ∧ _) ∨ ∃ b, f_L_law_18C L xs (6 * (n : Int)) σ = _ ∧ _
    rw [l18_eq, jsub_ok (by omega) (by omega)]
    by_cases hend : (L : Int) - 6 < 6 * (n : Int)
    · right
      rw [if_pos hend]
      exact ⟨_, rfl, σ, rfl⟩
    · left
      have hx : okX L n (6 * (n : Int)) := ⟨rfl, by omega, by omega⟩
      obtain ⟨τ, B2, t1, t2⟩ := t_0 (xs := xs) hI hx
      rw [if_neg hend, chk_pos (by omega), t1]
      exact ⟨_, rfl, ⟨n + 1, B2, by show 6 * (n : Int) + 6 = 6 * ((n + 1 : Nat) : Int); omega, by omega, t2⟩, by show (4000 - (6 * (n : Int) + 6)).toNat < (4000 - 6 * (n : Int)).toNat; omega⟩)
  refine ⟨τ, ?_⟩
  show (loop (f_L_law_18B L xs) FU (0, sg0)).bind kL = _
  rw [e1]
  exact e2
