/-! TEXTS: the class and a statement -/
theorem w_len : ∀ w : Nat, w < 8 → jshr (lnS (w : Int)) 0 = (txl w : Int) ∧ lnS (w : Int) = (txl w : Int) ∧ 4 ≤ txl w ∧ txl w ≤ 5 := by decide +kernel
theorem w_chr : ∀ w : Nat, w < 8 → ∀ j : Nat, j < txl w → jc (jand (chS (w : Int) (j : Int)) 255) = chS (w : Int) (j : Int) ∧ 97 ≤ chS (w : Int) (j : Int) ∧ chS (w : Int) (j : Int) ≤ 122 := by decide +kernel
theorem w_dif : ∀ w : Nat, w < 8 → ∀ v : Nat, v < 8 → txl w = txl v → chS (w : Int) 0 = chS (v : Int) 0 → w = v := by decide +kernel
theorem J_len {σ : Mem} {w : Nat} (hw : w < 8) : f_J0_length_8abf5 σ w = some (txl w : Int) := by
  show (some (0 : Int)).bind (fun v1 => some (jshr (lnS (w : Int)) v1)) = _
  rw [bsm, (w_len w hw).1]
theorem J_chr {σ : Mem} {w j : Nat} (hw : w < 8) (hj : j < txl w) : f_J0_charAt_5068e σ w j = some (chS (w : Int) (j : Int)) := by
  obtain ⟨c1, c2, c3⟩ := w_chr w hw j hj
  obtain ⟨l1, l2, l3, l4⟩ := w_len w hw
  have h1 : f_J1_charAt_3b067 σ w j = some (chS (w : Int) (j : Int)) := by
    unfold f_J1_charAt_3b067 f_J0_checkIndex_df160 f_J3_checkIndex_8e157
    rw [l2, if_neg (by omega), if_pos (by omega), bsm, bsm, chk_pos (by omega), c1, chk_pos (by omega)]
  unfold f_J0_charAt_5068e
  rw [bind_some' (show f_J0_isLatin1_aae02 σ w = some 1 from rfl), if_neg (by decide), bind_some' h1, chk_pos (by omega)]
theorem X7_isWord {σ : Mem} {f : Int → Int} {S : Nat} (hT : TX σ f S) {t n : Nat} (hn : t + n ≤ S) (h2 : σ 28 2 = ((t + n : Nat) : Int)) (h3 : σ 28 3 = (t : Int)) {w : Nat} (hw : w < 8) : f_X7_isWord σ w = some (if txW f S t n w then 1 else 0) := by
  have hS := hT.1
  obtain ⟨l1, l2, l3, l4⟩ := w_len w hw
  unfold f_X7_isWord
  rw [bind_some' (J_len hw), h2, h3, jsub_ok (by omega) (by omega)]
  by_cases hl : n = txl w
  rotate_left
  · rw [if_neg (by omega)]
    unfold txW
    rw [decide_eq_false hl, Bool.false_and]
    rfl
  rw [if_pos (by omega)]
  have hW : txW f S t n w = al (fun j => decide (byt f S (t + j) = chS w j)) (txl w) := by
    unfold txW
    rw [decide_eq_true hl, Bool.true_and]
  rw [hW]
  unfold f_X7_isWord_20
  obtain ⟨p, hp⟩ : ∃ p : Nat → Bool, p = fun j => decide (byt f S (t + j) = chS w j) := ⟨_, rfl⟩
  rw [← hp]
  have main : loop (f_X7_isWord_20B σ w) FU 0 = some (if al p (txl w) then .inr () else .inl ()) := loop_is (P := fun s => ∃ j : Nat, s = (j : Int) ∧ j ≤ txl w ∧ al p j = true) (μ := fun s => (10 - s).toNat) (by
    rintro _ ⟨j, rfl, hj, g⟩
    show (∃ a', f_X7_isWord_20C σ w (j : Int) = _ ∧ _) ∨ f_X7_isWord_20C σ w (j : Int) = _
    unfold f_X7_isWord_20C
    rw [bind_some' (J_len hw)]
    by_cases hend : (txl w : Int) ≤ j
    · right
      have e : j = txl w := by omega
      rw [if_pos hend, ← e, g]
      rfl
    · rw [if_neg hend, h3, jadd_ok (by omega) (by omega), show (t : Int) + j = ((t + j : Nat) : Int) by omega, bind_some' (X7_byteAt hT (t + j)), bind_some' (J_chr hw (j := j) (by omega))]
      by_cases q : byt f S (t + j) = chS w j
      · left
        rw [if_pos q, bsm, jadd_ok (by omega) (by omega)]
        refine ⟨_, rfl, ⟨j + 1, by show (j : Int) + 1 = _; omega, by omega, ?_⟩, by show (10 - ((j : Int) + 1)).toNat < (10 - (j : Int)).toNat; omega⟩
        show (al p j && p j) = true
        rw [g, show p j = true by rw [hp]; exact decide_eq_true q]
        rfl
      · right
        rw [if_neg q, al_f (p := p) (k := j) (by rw [hp]; exact decide_eq_false q) (by omega)]
        rfl) ⟨0, rfl, Nat.zero_le _, rfl⟩ (Nat.le_of_ble_eq_true rfl)
  rw [show ((0 : Int)) = (0 : Int) from rfl, main]
  cases al p (txl w) <;> rfl
/-- how a statement was read -/
def txO (σ : Mem) (o : St) (r : Option (Int × Mem)) : Prop := ∃ b τ, r = some (b, τ) ∧ (∀ x, ¬ (10 ≤ x ∧ x ≤ 18) → x ≠ 28 → τ x = σ x) ∧ (∀ i, i ≠ 2 → i ≠ 3 → i ≠ 4 → τ 28 i = σ 28 i) ∧ match o with
  | .inl q => b = 0 ∧ τ 28 4 = (q : Int)
  | .inr y => b = 1 ∧ τ 28 2 = (y.2 : Int) ∧ isBk τ 10 y.1
theorem txO.trans {σ σ' : Mem} {o : St} {r : Option (Int × Mem)} (h : txO σ' o r) (e1 : ∀ x, ¬ (10 ≤ x ∧ x ≤ 18) → x ≠ 28 → σ' x = σ x) (e2 : ∀ i, i ≠ 2 → i ≠ 3 → i ≠ 4 → σ' 28 i = σ 28 i) : txO σ o r := by
  obtain ⟨b, τ, h1, h2, h3, h4⟩ := h
  exact ⟨b, τ, h1, fun x x1 x2 => by rw [h2 x x1 x2, e1 x x1 x2], fun i i1 i2 i3 => by rw [h3 i i1 i2 i3, e2 i i1 i2 i3], h4⟩
theorem txO.ck {σ : Mem} {o : St} {r : Option (Int × Mem)} (h : txO σ o r) : txO σ o (r.bind fun v => chk (v.1 = 0 ∨ v.1 = 1) (some (v.1, v.2))) := by
  obtain ⟨b, τ, h1, h2, h3, h4⟩ := h
  refine ⟨b, τ, ?_, h2, h3, h4⟩
  rw [h1, bsm, chk_pos]
  cases o with
  | inl q => exact Or.inl h4.1
  | inr y => exact Or.inr h4.1
theorem txO.bad {σ : Mem} {t : Nat} (h3 : σ 28 3 = (t : Int)) : txO σ (.inl t) ((f_X7_faultHere σ).bind fun v => chk (v.1 = 0 ∨ v.1 = 1) (some (v.1, v.2))) := by
  refine ⟨0, mup σ 28 4 t, ?_, fun x _ x2 => mup_row x2, fun i _ _ i3 => mup_miss (fun z => i3 z.2), rfl, mup_hit rfl rfl⟩
  unfold f_X7_faultHere
  rw [h3]
  rfl
/-- the state in which a statement's numbers are read -/
def txS (σ : Mem) (f : Int → Int) (S : Nat) (B : Bk) (a : Nat) : Prop := TX σ f S ∧ isBk σ 10 B ∧ σ 28 2 = (a : Int) ∧ a ≤ S
theorem txS.num {σ : Mem} {f : Int → Int} {S : Nat} {B : Bk} {a : Nat} (h : txS σ f S B a) (lo hi : Int) : ∃ v τ, f_X7_number σ lo hi = some (v, τ) ∧ (∀ x, x ≠ 28 → τ x = σ x) ∧ (∀ i, i ≠ 2 → i ≠ 3 → i ≠ 4 → τ 28 i = σ 28 i) ∧ τ 28 3 = (nb f S a : Int) ∧ ((∃ q, nm f S lo hi a = .inl q ∧ v = -1 ∧ τ 28 4 = (q : Int)) ∨ ∃ y, nm f S lo hi a = .inr y ∧ v = y.1 ∧ lo ≤ y.1 ∧ y.1 ≤ hi ∧ a < y.2 ∧ txS τ f S B y.2) := by
  obtain ⟨hT, hB, h2, ha⟩ := h
  obtain ⟨v, τ, a1, a2, a3, a4, a5⟩ := X7_number hT ha h2 lo hi
  refine ⟨v, τ, a1, a2, a3, a4, ?_⟩
  cases hn : nm f S lo hi a with
  | inl q =>
    rw [hn] at a5
    exact Or.inl ⟨q, rfl, a5.1, a5.2⟩
  | inr y =>
    rw [hn] at a5
    obtain ⟨n1, n2, n3, n4⟩ := nmr hn ha
    exact Or.inr ⟨y, rfl, a5.1, n1, n2, n3, hT.keep (a3 1 (by decide) (by decide) (by decide)) (a2 29 (by decide)), hB.rows fun x x1 x2 => a2 x (by omega), a5.2, n4⟩
theorem txO.no {σ τ : Mem} {q : Nat} (e1 : ∀ x, x ≠ 28 → τ x = σ x) (e2 : ∀ i, i ≠ 2 → i ≠ 3 → i ≠ 4 → τ 28 i = σ 28 i) (h4 : τ 28 4 = (q : Int)) : txO σ (.inl q) (some (0, τ)) := ⟨0, τ, rfl, fun x _ x2 => e1 x x2, e2, rfl, h4⟩
theorem txO.tr {σ σ' : Mem} {o : St} {r : Option (Int × Mem)} (h : txO σ' o r) (e1 : ∀ x, x ≠ 28 → σ' x = σ x) (e2 : ∀ i, i ≠ 2 → i ≠ 3 → i ≠ 4 → σ' 28 i = σ 28 i) : txO σ o r := h.trans (fun x _ x2 => e1 x x2) e2
theorem c_hours {σ : Mem} {f : Int → Int} {S : Nat} {B : Bk} {e : Nat} (h : txS σ f S B e) : txO σ (stH f S B e) (f_X7_readHours σ) := by
  obtain ⟨v, τ, a1, a2, a3, a4, a5⟩ := h.num 8 40
  unfold f_X7_readHours stH
  rw [bind_some' a1, bsm]
  rcases a5 with ⟨q, n1, n2, n3⟩ | ⟨y, n1, n2, n3, n4, n5, n6⟩
  · rw [n1, if_neg (by omega)]
    exact .no a2 a3 n3
  · obtain ⟨hT, hB, h2, hy⟩ := n6
    rw [n1, if_pos (by omega), bsm, n2]
    have eB : isBk (mup τ 10 11 y.1) 10 (mup B 8 3 y.1) := hB.putn (i := 3)
    exact txO.tr (σ' := τ) ⟨1, _, rfl, fun x x1 _ => mup_row (by omega), fun i _ _ _ => mup_miss (by omega), rfl, by rw [mup_miss (by omega)]; exact h2, eB⟩ a2 a3
theorem c_turn {σ : Mem} {f : Int → Int} {S : Nat} {B : Bk} {e : Nat} (h : txS σ f S B e) : txO σ (stU f S B e) (f_X7_readTurn σ) := by
  obtain ⟨v, τ, a1, a2, a3, a4, a5⟩ := h.num 0 8
  unfold f_X7_readTurn stU
  rw [bind_some' a1, bsm]
  rcases a5 with ⟨q, n1, n2, n3⟩ | ⟨y, n1, n2, n3, n4, n5, n6⟩
  · rw [n1, if_neg (by omega)]
    exact .no a2 a3 n3
  · obtain ⟨hT, hB, h2, hy⟩ := n6
    rw [n1, if_pos (by omega), bsm, n2]
    have eB : isBk (mup τ 10 12 y.1) 10 (mup B 8 4 y.1) := hB.putn (i := 4)
    exact txO.tr (σ' := τ) ⟨1, _, rfl, fun x x1 _ => mup_row (by omega), fun i _ _ _ => mup_miss (by omega), rfl, by rw [mup_miss (by omega)]; exact h2, eB⟩ a2 a3
theorem c_room {σ : Mem} {f : Int → Int} {S : Nat} {B : Bk} (w : WF B) {e t : Nat} (h : txS σ f S B e) (h3 : σ 28 3 = (t : Int)) : txO σ (stR f S B e t) (f_X7_readRoom σ) := by
  have hn := w.1
  unfold WFn at hn
  unfold f_X7_readRoom stR
  rw [h.2.1.nR]
  by_cases h6 : 6 ≤ B 8 2
  · rw [if_neg (show ¬ B 8 2 < 6 by omega), if_pos h6]
    exact txO.bad h3
  rw [if_pos (show B 8 2 < 6 by omega), if_neg h6]
  obtain ⟨v, τ, a1, a2, a3, a4, a5⟩ := h.num 1 9
  rw [bind_some' a1, bsm]
  rcases a5 with ⟨q, n1, n2, n3⟩ | ⟨y, n1, n2, n3, n4, n5, n6⟩
  · rw [n1, if_pos (by omega)]
    exact .no a2 a3 n3
  · obtain ⟨hT, hB, h2, hy⟩ := n6
    obtain ⟨ρ, r1, r2, r3⟩ := X0_addRoom hB hn.2.2.1.1 (by omega) y.1
    rw [n1, if_neg (by omega), n2, bind_some' r1, if_neg (by show ¬ B 8 2 = -1; omega)]
    exact txO.tr (σ' := τ) ⟨1, ρ, rfl, fun x x1 _ => r3 x (by omega), fun i _ _ _ => by rw [r3 28 (by omega)], rfl, by rw [r3 28 (by omega)]; exact h2, r2⟩ a2 a3
theorem c_night {σ : Mem} {f : Int → Int} {S : Nat} {B : Bk} (w : WF B) {e : Nat} (h : txS σ f S B e) : txO σ (stN f S B e) (f_X7_readNight σ) := by
  have hn := w.1
  unfold WFn at hn
  unfold f_X7_readNight stN
  rw [h.2.1.nC, jsub_ok (by omega) (by omega)]
  obtain ⟨v, τ, a1, a2, a3, a4, a5⟩ := h.num 0 (B 8 1 - 1)
  rw [bind_some' a1, bsm]
  rcases a5 with ⟨q, n1, n2, n3⟩ | ⟨y, n1, n2, n3, n4, n5, n6⟩
  · rw [n1, if_neg (by omega)]
    exact .no a2 a3 n3
  · obtain ⟨hT, hB, h2, hy⟩ := n6
    rw [n1, if_pos (by omega), n2, chk_pos (by omega), bsm]
    have eB : isBk (mup τ 16 y.1 1) 10 (mup B 5 y.1 1) := hB.put (t := 5) (by decide) (by decide)
    exact txO.tr (σ' := τ) ⟨1, _, rfl, fun x x1 _ => mup_row (by omega), fun i _ _ _ => mup_miss (by omega), rfl, by rw [mup_miss (by omega)]; exact h2, eB⟩ a2 a3
theorem c_cand {σ : Mem} {f : Int → Int} {S : Nat} {B : Bk} (w : WF B) {e t : Nat} (h : txS σ f S B e) (h3 : σ 28 3 = (t : Int)) : txO σ (stC f S B e t) (f_X7_readCand σ) := by
  have hn := w.1
  unfold WFn at hn
  unfold f_X7_readCand stC
  rw [h.2.1.nC]
  by_cases h6 : 10 ≤ B 8 1
  · rw [if_neg (show ¬ B 8 1 < 10 by omega), if_pos h6]
    exact txO.bad h3
  rw [if_pos (show B 8 1 < 10 by omega), if_neg h6]
  obtain ⟨v, τ, a1, a2, a3, a4, a5⟩ := h.num 0 5
  rw [bind_some' a1, bsm]
  rcases a5 with ⟨q, n1, n2, n3⟩ | ⟨y, n1, n2, n3, n4, n5, n6⟩
  · rw [n1, if_neg (by omega)]
    unfold f_X7_readCand_37
    rw [if_pos rfl]
    exact .no a2 a3 n3
  rw [n1, if_pos (by omega)]
  obtain ⟨v', τ', b1, b2, b3, b4, b5⟩ := n6.num 0 9
  rw [bind_some' b1]
  unfold f_X7_readCand_37
  rcases b5 with ⟨q, m1, m2, m3⟩ | ⟨z, m1, m2, m3, m4, m5, m6⟩
  · rw [if_pos m2]
    show txO σ (match nm f S 0 9 y.2 with | .inl q => .inl q | .inr a => _) _
    rw [m1]
    exact txO.tr (σ' := τ) (.no b2 b3 m3) a2 a3
  · obtain ⟨hT, hB, h2, hy⟩ := m6
    obtain ⟨ρ, r1, r2, r3⟩ := X0_addCand hB hn.2.1.1 (by omega) y.1 z.1
    rw [if_neg (by show ¬ v' = -1; omega)]
    show txO σ (match nm f S 0 9 y.2 with | .inl q => .inl q | .inr a => _) _
    rw [m1, n2, m2, bind_some' r1, if_neg (by show ¬ B 8 1 = -1; omega)]
    exact txO.tr (σ' := τ) (txO.tr (σ' := τ') ⟨1, ρ, rfl, fun x x1 _ => r3 x (by omega), fun i _ _ _ => by rw [r3 28 (by omega)], rfl, by rw [r3 28 (by omega)]; exact h2, r2⟩ b2 b3) a2 a3
theorem c_paper {σ : Mem} {f : Int → Int} {S : Nat} {B : Bk} (w : WF B) {e t : Nat} (h : txS σ f S B e) (h3 : σ 28 3 = (t : Int)) : txO σ (stP f S B e t) (f_X7_readPaper σ) := by
  have hn := w.1
  unfold WFn at hn
  unfold f_X7_readPaper stP
  rw [h.2.1.nP]
  by_cases h6 : 12 ≤ B 8 0
  · rw [if_neg (show ¬ B 8 0 < 12 by omega), if_pos h6]
    exact txO.bad h3
  rw [if_pos (show B 8 0 < 12 by omega), if_neg h6]
  have no54 : ∀ ρ x2 x3, f_X7_readPaper_54 ρ x2 x3 (-1) = some (0, ρ) := fun ρ x2 x3 => by
    unfold f_X7_readPaper_54
    rw [if_pos rfl]
  have no37 : ∀ ρ x2, f_X7_readPaper_37 ρ x2 (-1) = some (0, ρ) := fun ρ x2 => by
    unfold f_X7_readPaper_37
    rw [if_neg (fun z => z rfl), no54]
  obtain ⟨v, τ, a1, a2, a3, a4, a5⟩ := h.num 0 4
  rw [bind_some' a1, bsm]
  rcases a5 with ⟨q, n1, n2, n3⟩ | ⟨y, n1, n2, n3, n4, n5, n6⟩
  · rw [n1, if_neg (by omega), no37]
    exact .no a2 a3 n3
  rw [n1, if_pos (by omega)]
  obtain ⟨v', τ', b1, b2, b3, b4, b5⟩ := n6.num 0 47
  rw [bind_some' b1]
  show txO σ (match nm f S 0 47 y.2 with | .inl q => .inl q | .inr a => _) (f_X7_readPaper_37 τ' v v')
  rcases b5 with ⟨q, m1, m2, m3⟩ | ⟨z, m1, m2, m3, m4, m5, m6⟩
  · rw [m1, m2, no37]
    exact txO.tr (σ' := τ) (.no b2 b3 m3) a2 a3
  rw [m1]
  unfold f_X7_readPaper_37
  rw [if_pos (by show v' ≠ -1; omega)]
  obtain ⟨v'', τ'', c1, c2, c3, c4, c5⟩ := m6.num 1 12
  rw [bind_some' c1]
  show txO σ (match nm f S 1 12 z.2 with | .inl q => .inl q | .inr a => _) (f_X7_readPaper_54 τ'' v v' v'')
  rcases c5 with ⟨q, k1, k2, k3⟩ | ⟨u, k1, k2, k3, k4, k5, k6⟩
  · rw [k1, k2, no54]
    exact txO.tr (σ' := τ) (txO.tr (σ' := τ') (.no c2 c3 k3) b2 b3) a2 a3
  · obtain ⟨hT, hB, h2, hy⟩ := k6
    obtain ⟨ρ, r1, r2, r3⟩ := X0_addPaper hB hn.1.1 (by omega) y.1 z.1 u.1
    unfold f_X7_readPaper_54
    rw [k1, if_neg (by omega), n2, m2, k2, bind_some' r1, if_neg (by show ¬ B 8 0 = -1; omega)]
    exact txO.tr (σ' := τ) (txO.tr (σ' := τ') (txO.tr (σ' := τ'') ⟨1, ρ, rfl, fun x x1 _ => r3 x (by omega), fun i _ _ _ => by rw [r3 28 (by omega)], rfl, by rw [r3 28 (by omega)]; exact h2, r2⟩ c2 c3) b2 b3) a2 a3
theorem c_takes {σ : Mem} {f : Int → Int} {S : Nat} {B : Bk} (w : WF B) {e : Nat} (h : txS σ f S B e) : txO σ (stT f S B e) (f_X7_readTakes σ) := by
  have hn := w.1
  unfold WFn at hn
  unfold f_X7_readTakes stT
  rw [h.2.1.nC, jsub_ok (by omega) (by omega)]
  have no32 : ∀ ρ x2, f_X7_readTakes_32 ρ x2 (-1) = some (0, ρ) := fun ρ x2 => by
    unfold f_X7_readTakes_32
    rw [if_neg (fun z => z rfl)]
  obtain ⟨v, τ, a1, a2, a3, a4, a5⟩ := h.num 0 (B 8 1 - 1)
  rw [bind_some' a1, bsm]
  rcases a5 with ⟨q, n1, n2, n3⟩ | ⟨y, n1, n2, n3, n4, n5, n6⟩
  · rw [n1, if_neg (by omega), no32]
    exact .no a2 a3 n3
  rw [n1, if_pos (by omega)]
  show txO σ _ ((f_X7_number τ 0 (jsub (τ 10 8) 1)).bind fun v4 => f_X7_readTakes_32 v4.2 v v4.1)
  obtain ⟨v', τ', b1, b2, b3, b4, b5⟩ := n6.num 0 (B 8 0 - 1)
  rw [n6.2.1.nP, jsub_ok (by omega) (by omega), bind_some' b1]
  show txO σ (match nm f S 0 (B 8 0 - 1) y.2 with | .inl q => .inl q | .inr a => _) (f_X7_readTakes_32 τ' v v')
  rcases b5 with ⟨q, m1, m2, m3⟩ | ⟨z, m1, m2, m3, m4, m5, m6⟩
  · rw [m1, m2, no32]
    exact txO.tr (σ' := τ) (.no b2 b3 m3) a2 a3
  obtain ⟨hT, hB, h2, hy⟩ := m6
  obtain ⟨p, hp⟩ := n_of m3
  rw [m1, n2, m2]
  show txO σ (if tk B y.1 z.1.toNat = true then _ else _) _
  rw [hp, Int.toNat_natCast]
  unfold f_X7_readTakes_32
  rw [if_pos (show (p : Int) ≠ -1 by omega), bind_some' (X0_doesTake hB w n3 (by omega) (by omega))]
  cases hk : tk B y.1 p with
  | true =>
    rw [bt, bt, if_pos (show (1 : Int) ≠ 0 by decide)]
    exact txO.tr (σ' := τ) (txO.tr (σ' := τ') ⟨1, τ', rfl, fun _ _ _ => rfl, fun _ _ _ _ => rfl, rfl, h2, hB⟩ b2 b3) a2 a3
  | false =>
    rw [bf, bf, if_neg (show ¬ (0 : Int) ≠ 0 by decide), bind_some' (X0_mayFlip hB w n3 (by omega) (by omega))]
    cases hf : fifth B y.1 p with
    | true =>
      rw [bt, bt, if_neg (show ¬ (0 : Int) ≠ 0 by decide)]
      exact txO.tr (σ' := τ) (txO.tr (σ' := τ') (txO.bad b4) b2 b3) a2 a3
    | false =>
      have fl := X0_flip hB w n3 (show y.1 < B 8 1 by omega) (p := p) (by omega)
      rw [bf, bf, if_pos (show (1 : Int) ≠ 0 by decide), bind_some' fl]
      have eB : isBk (mup τ' (10 + 7) y.1 (((B 6 y.1).toNat ^^^ 2 ^ p : Nat) : Int)) 10 (flp B y.1 p) := hB.put (t := 6) (by decide) (by decide)
      exact txO.tr (σ' := τ) (txO.tr (σ' := τ') ⟨1, _, rfl, fun x x1 _ => mup_row (by omega), fun i _ _ _ => mup_miss (by omega), rfl, by rw [mup_miss (by omega)]; exact h2, eB⟩ b2 b3) a2 a3
theorem c_drops {σ : Mem} {f : Int → Int} {S : Nat} {B : Bk} (w : WF B) {e : Nat} (h : txS σ f S B e) : txO σ (stD f S B e) (f_X7_readDrops σ) := by
  have hn := w.1
  unfold WFn at hn
  unfold f_X7_readDrops stD
  rw [h.2.1.nC, jsub_ok (by omega) (by omega)]
  have no32 : ∀ ρ x2, f_X7_readDrops_32 ρ x2 (-1) = some (0, ρ) := fun ρ x2 => by
    unfold f_X7_readDrops_32
    rw [if_neg (fun z => z rfl)]
  obtain ⟨v, τ, a1, a2, a3, a4, a5⟩ := h.num 0 (B 8 1 - 1)
  rw [bind_some' a1, bsm]
  rcases a5 with ⟨q, n1, n2, n3⟩ | ⟨y, n1, n2, n3, n4, n5, n6⟩
  · rw [n1, if_neg (by omega), no32]
    exact .no a2 a3 n3
  rw [n1, if_pos (by omega)]
  show txO σ _ ((f_X7_number τ 0 (jsub (τ 10 8) 1)).bind fun v4 => f_X7_readDrops_32 v4.2 v v4.1)
  obtain ⟨v', τ', b1, b2, b3, b4, b5⟩ := n6.num 0 (B 8 0 - 1)
  rw [n6.2.1.nP, jsub_ok (by omega) (by omega), bind_some' b1]
  show txO σ (match nm f S 0 (B 8 0 - 1) y.2 with | .inl q => .inl q | .inr a => _) (f_X7_readDrops_32 τ' v v')
  rcases b5 with ⟨q, m1, m2, m3⟩ | ⟨z, m1, m2, m3, m4, m5, m6⟩
  · rw [m1, m2, no32]
    exact txO.tr (σ' := τ) (.no b2 b3 m3) a2 a3
  obtain ⟨hT, hB, h2, hy⟩ := m6
  obtain ⟨p, hp⟩ := n_of m3
  rw [m1, n2, m2]
  show txO σ (if tk B y.1 z.1.toNat = true then _ else _) _
  rw [hp, Int.toNat_natCast]
  unfold f_X7_readDrops_32
  rw [if_pos (show (p : Int) ≠ -1 by omega), bind_some' (X0_doesTake hB w n3 (by omega) (by omega))]
  cases hk : tk B y.1 p with
  | true =>
    have fl := X0_flip hB w n3 (show y.1 < B 8 1 by omega) (p := p) (by omega)
    rw [bt, bt, if_neg (show ¬ (1 : Int) = 0 by decide), bind_some' fl]
    have eB : isBk (mup τ' (10 + 7) y.1 (((B 6 y.1).toNat ^^^ 2 ^ p : Nat) : Int)) 10 (flp B y.1 p) := hB.put (t := 6) (by decide) (by decide)
    exact txO.tr (σ' := τ) (txO.tr (σ' := τ') ⟨1, _, rfl, fun x x1 _ => mup_row (by omega), fun i _ _ _ => mup_miss (by omega), rfl, by rw [mup_miss (by omega)]; exact h2, eB⟩ b2 b3) a2 a3
  | false =>
    rw [bf, bf, if_pos (show (0 : Int) = 0 from rfl)]
    exact txO.tr (σ' := τ) (txO.tr (σ' := τ') ⟨1, τ', rfl, fun _ _ _ => rfl, fun _ _ _ _ => rfl, rfl, h2, hB⟩ b2 b3) a2 a3
