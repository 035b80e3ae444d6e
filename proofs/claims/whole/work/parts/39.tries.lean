/-! THE BEST ORDER, by the reference -/
theorem loop_rn {α β : Type} {f : α → Option (α ⊕ β)} {P : Nat → α → Prop} {Q : β → Prop} (hs : ∀ k a, P k a → (∃ a' k', f a = some (.inl a') ∧ k' < k ∧ P k' a') ∨ ∃ b, f a = some (.inr b) ∧ Q b) : ∀ (n k : Nat) (a : α), P k a → k < n → ∃ b, loop f n a = some b ∧ Q b
  | 0, _, _, _, h => absurd h (Nat.not_lt_zero _)
  | n + 1, k, a, ha, hm => by
    unfold loop
    rcases hs k a ha with ⟨a', k', h1, h2, h3⟩ | ⟨b, h1, h2⟩
    · rw [h1]
      exact loop_rn hs n k' a' h3 (by omega)
    · rw [h1]
      exact ⟨b, rfl, h2⟩
theorem smq_pt {B : Bk} {c : Int} {m n : Nat} (hn : n ≤ 4) {l : List Nat} (hl : l ∈ PT n) : smq B c (lq m l) n = smt B c m n := by
  match n, hn with
  | 0, _ => rfl
  | 1, _ =>
    simp only [PT, List.mem_cons, List.not_mem_nil, or_false] at hl
    subst hl; rfl
  | 2, _ =>
    simp only [PT, List.mem_cons, List.not_mem_nil, or_false] at hl
    rcases hl with rfl | rfl <;> (show 0 + tm B c (nth m _) + tm B c (nth m _) = 0 + tm B c (nth m 0) + tm B c (nth m 1); simp only [List.getD_cons_zero, List.getD_cons_succ] <;> omega)
  | 3, _ =>
    simp only [PT, List.mem_cons, List.not_mem_nil, or_false] at hl
    rcases hl with rfl | rfl | rfl | rfl | rfl | rfl <;> (show 0 + tm B c (nth m _) + tm B c (nth m _) + tm B c (nth m _) = 0 + tm B c (nth m 0) + tm B c (nth m 1) + tm B c (nth m 2); simp only [List.getD_cons_zero, List.getD_cons_succ] <;> omega)
  | 4, _ =>
    simp only [PT, List.mem_cons, List.not_mem_nil, or_false] at hl
    rcases hl with rfl | rfl | rfl | rfl | rfl | rfl | rfl | rfl | rfl | rfl | rfl | rfl | rfl | rfl | rfl | rfl | rfl | rfl | rfl | rfl | rfl | rfl | rfl | rfl <;> (show 0 + tm B c (nth m _) + tm B c (nth m _) + tm B c (nth m _) + tm B c (nth m _) = 0 + tm B c (nth m 0) + tm B c (nth m 1) + tm B c (nth m 2) + tm B c (nth m 3); simp only [List.getD_cons_zero, List.getD_cons_succ] <;> omega)
  | k + 5, h => omega
/-- an order that is tried: what goes over, the mask of the others, their order -/
abbrev Tr : Type := Int × Nat × List Nat
def lwD (B : Bk) (c f : Int) (a : Nat) (x : Tr) : Bool := lwS B c x.2.1 f a x.2.2
def msD (B : Bk) (c f : Int) (a : Nat) (x : Tr) : Int := msS B c x.2.1 f a 0 (woB B x.1) x.2.2
def its (o : Int) (m : Nat) : List Tr := (PT (nof m)).map fun l => (o, m, l)
/-- the reference's rows of a day hold the best so far -/
def isRd (σ : Mem) (B : Bk) (c f : Int) (d : Int) (x : Option (Int × Tr)) : Prop := (x = none → σ 195 d = 0 ∧ σ 196 d = 0 ∧ σ 197 d = -1 ∧ σ 200 d = 0) ∧ ∀ v o m l, x = some (v, (o, m, l)) → σ 195 d = 1 ∧ σ 196 d = v ∧ σ 197 d = o ∧ σ 200 d = (nof m : Int) ∧ ∀ k : Nat, k < nof m → σ 201 (4 * d + k) = (lq m l k : Int) ∧ σ 202 (4 * d + k) = bg B c f (lq m l) k
/-- what trying leaves alone -/
def trS (x : Int) : Prop := ¬ (192 ≤ x ∧ x ≤ 197) ∧ x ≠ 200 ∧ x ≠ 201 ∧ x ≠ 202
theorem X11_rows {σ : Mem} {m : Nat} (hm : m < 4096) (h4 : nof m ≤ 4) : ∃ τ, f_X11_rows σ m = some ((nof m : Int), τ) ∧ (∀ x, x ≠ 192 → τ x = σ x) ∧ ∀ k : Nat, k < nof m → τ 192 k = (nth m k : Int) := by
  unfold f_X11_rows f_X11_rows_4
  obtain ⟨e, h1, h2⟩ := loop_ex (f := f_X11_rows_4B m) (fun s => ∃ p : Nat, s.2.1 = (p : Int) ∧ p ≤ 12 ∧ s.1 = (cnt (fun i => m.testBit i) p : Int) ∧ (∀ x, x ≠ 192 → s.2.2 x = σ x) ∧ ∀ k : Nat, k < cnt (fun i => m.testBit i) p → s.2.2 192 k = (nth m k : Int)) (fun s => (12 - s.2.1).toNat) (fun e => e.1 = (nof m : Int) ∧ (∀ x, x ≠ 192 → e.2 x = σ x) ∧ ∀ k : Nat, k < nof m → e.2 192 k = (nth m k : Int)) (a := (0, 0, σ)) ⟨0, rfl, by omega, rfl, fun _ _ => rfl, fun k hk => absurd hk (Nat.not_lt_zero _)⟩ (Nat.le_of_ble_eq_true rfl) (by
    rintro ⟨x2, _, τ⟩ ⟨p, rfl, hp, g2, grow, gk⟩
    have g2 : x2 = _ := g2
    show (∃ a', f_X11_rows_4C m x2 (p : Int) τ = _ ∧ _) ∨ ∃ a', f_X11_rows_4C m x2 (p : Int) τ = _ ∧ _
    subst g2
    have grow : ∀ x, x ≠ 192 → τ x = σ x := grow
    have gk : ∀ k : Nat, k < cnt (fun i => m.testBit i) p → τ 192 k = (nth m k : Int) := gk
    unfold f_X11_rows_4C
    by_cases hpn : (12 : Int) ≤ p
    · right
      rw [if_pos hpn]
      have : p = 12 := by omega
      subst this
      exact ⟨_, rfl, rfl, grow, gk⟩
    · left
      have e1 : jadd (p : Int) 1 = ((p + 1 : Nat) : Int) := by rw [jadd_ok (by omega) (by omega)]; omega
      rw [if_neg hpn, jbit (by omega) (by omega)]
      cases hb : m.testBit p with
      | false =>
        have ec : cnt (fun i => m.testBit i) (p + 1) = cnt (fun i => m.testBit i) p := by rw [cnt_s, hb]; rfl
        rw [if_pos (by decide)]
        unfold f_X11_rows_29
        rw [e1]
        exact ⟨_, rfl, ⟨p + 1, rfl, by omega, by rw [ec], grow, by rw [ec]; exact gk⟩, by show (12 - ((p + 1 : Nat) : Int)).toNat < (12 - (p : Int)).toNat; omega⟩
      | true =>
        have ec : cnt (fun i => m.testBit i) (p + 1) = cnt (fun i => m.testBit i) p + 1 := by rw [cnt_s, hb]; rfl
        have hlt : cnt (fun i => m.testBit i) p < nof m := cnt_lt (f := fun i => m.testBit i) (by omega) hb
        have hnp : nth m (cnt (fun i => m.testBit i) p) = p := nth_at (by omega) hb
        rw [if_neg (by decide), chk_pos (by omega)]
        simp only [Option.bind_some]
        rw [jadd_ok (by omega) (by omega)]
        unfold f_X11_rows_29
        rw [e1]
        refine ⟨_, rfl, ⟨p + 1, rfl, by omega, by rw [ec]; show _ + 1 = _; omega, fun x hx => by dsimp only; rw [mup_row hx, grow x hx], fun k hk => ?_⟩, by show (12 - ((p + 1 : Nat) : Int)).toNat < (12 - (p : Int)).toNat; omega⟩
        rw [ec] at hk
        dsimp only
        by_cases ek : k = cnt (fun i => m.testBit i) p
        · subst ek; rw [mup_hit rfl rfl, hnp]
        · rw [mup_miss (by omega)]; exact gk k (by omega))
  rw [h1]
  obtain ⟨x2, τ⟩ := e
  obtain ⟨g1, g2, g3⟩ := h2
  have g1 : x2 = _ := g1
  subst g1
  exact ⟨τ, rfl, g2, g3⟩
theorem bst_map {α β : Type} {lw : β → Bool} {ms : β → Int} {g : α → β} : ∀ (l : List α) (a : Option (Int × α)), bst lw ms (l.map g) (a.map fun x => (x.1, g x.2)) = (bst (fun x => lw (g x)) (fun x => ms (g x)) l a).map fun x => (x.1, g x.2)
  | [], a => rfl
  | y :: l, a => by
    have e : stp lw ms (g y) (a.map fun x => (x.1, g x.2)) = (stp (fun x => lw (g x)) (fun x => ms (g x)) y a).map fun x => (x.1, g x.2) := by
      unfold stp
      cases a with
      | none => by_cases h : lw (g y) = true <;> simp [h]
      | some x =>
        by_cases h : lw (g y) = true
        · simp only [h, if_true, Option.map_some]
          split <;> rfl
        · simp [h]
    show bst lw ms (l.map g) (stp lw ms (g y) _) = _
    rw [e, bst_map l]
    rfl
theorem X11_tries {σ : Mem} {B : Bk} {c f o d : Int} {m a : Nat} (hR : isRk σ 182 B) (w : WF B) (hm : okm B m) (hc : 0 ≤ c) (hc2 : c < B 8 1) (hf : 0 ≤ f ∧ f ≤ 60) (ha : a ≤ 48) (hd : 0 ≤ d ∧ d < 5) (ho : -1 ≤ o ∧ o < B 8 0) (h190 : σ 198 d = f) (h191 : σ 199 d = a) {x0 : Option (Int × Tr)} (hx0 : isRd σ B c f d x0) :
    ∃ τ, f_X11_tries σ c d m o = some τ ∧ (∀ x, trS x → τ x = σ x) ∧ (∀ e, e ≠ d → τ 195 e = σ 195 e ∧ τ 196 e = σ 196 e ∧ τ 197 e = σ 197 e ∧ τ 200 e = σ 200 e) ∧ (∀ i, ¬ (4 * d ≤ i ∧ i < 4 * d + 4) → τ 201 i = σ 201 i ∧ τ 202 i = σ 202 i) ∧ isRd τ B c f d (bst (lwD B c f a) (msD B c f a) (its o m) x0) := by
  have h4 := hm.2.1
  obtain ⟨pl, p0, pin⟩ := PT_ok (nof m) h4
  have hn := w.1
  unfold WFn at hn
  obtain ⟨σ1, r1, r2, r3⟩ := X11_rows (σ := σ) hm.1 h4
  unfold f_X11_tries
  rw [bind_some' r1]
  simp only [Option.bind_some]
  unfold f_X11_tries_10
  obtain ⟨lw, hlw⟩ : ∃ z, z = lwD B c f a := ⟨_, rfl⟩
  obtain ⟨ms, hms⟩ : ∃ z, z = msD B c f a := ⟨_, rfl⟩
  rw [← hlw, ← hms]
  have hil : (its o m).length = (PT (nof m)).length := by unfold its; rw [List.length_map]
  have key := loop_rn (f := f_X11_tries_10B c d o (nof m : Int)) (P := fun k s => ∃ i : Nat, k = 30 - i ∧ i ≤ (PT (nof m)).length ∧ (∀ x, trS x → s.2 x = σ x) ∧ (∀ e, e ≠ d → s.2 195 e = σ 195 e ∧ s.2 196 e = σ 196 e ∧ s.2 197 e = σ 197 e ∧ s.2 200 e = σ 200 e) ∧ (∀ i, ¬ (4 * d ≤ i ∧ i < 4 * d + 4) → s.2 201 i = σ 201 i ∧ s.2 202 i = σ 202 i) ∧ (i < (PT (nof m)).length → s.1 = 1 ∧ ∀ k : Nat, k < nof m → s.2 192 k = (lq m ((PT (nof m)).getD i []) k : Int)) ∧ (¬ i < (PT (nof m)).length → s.1 = 0) ∧ isRd s.2 B c f d (bst lw ms ((its o m).take i) x0))
    (Q := fun τ => (∀ x, trS x → τ x = σ x) ∧ (∀ e, e ≠ d → τ 195 e = σ 195 e ∧ τ 196 e = σ 196 e ∧ τ 197 e = σ 197 e ∧ τ 200 e = σ 200 e) ∧ (∀ i, ¬ (4 * d ≤ i ∧ i < 4 * d + 4) → τ 201 i = σ 201 i ∧ τ 202 i = σ 202 i) ∧ isRd τ B c f d (bst lw ms (its o m) x0)) ?_ FU 30 (1, σ1) ?_ (by decide)
  · obtain ⟨τ, t1, t2⟩ := key
    exact ⟨τ, by rw [t1]; rfl, t2⟩
  · rintro k ⟨x6, τ⟩ ⟨i, rfl, hi, k1, k2, k3, k4, k5, k6⟩
    have k1 : ∀ x, trS x → τ x = σ x := k1
    have k2 : ∀ e, e ≠ d → τ 195 e = σ 195 e ∧ τ 196 e = σ 196 e ∧ τ 197 e = σ 197 e ∧ τ 200 e = σ 200 e := k2
    have k3 : ∀ i, ¬ (4 * d ≤ i ∧ i < 4 * d + 4) → τ 201 i = σ 201 i ∧ τ 202 i = σ 202 i := k3
    have k4 : i < (PT (nof m)).length → x6 = 1 ∧ ∀ k : Nat, k < nof m → τ 192 k = (lq m ((PT (nof m)).getD i []) k : Int) := k4
    have k5 : ¬ i < (PT (nof m)).length → x6 = 0 := k5
    have k6 : isRd τ B c f d (bst lw ms ((its o m).take i) x0) := k6
    show (∃ a' k', f_X11_tries_10C c d o (nof m : Int) x6 τ = _ ∧ _) ∨ ∃ a', f_X11_tries_10C c d o (nof m : Int) x6 τ = _ ∧ _
    unfold f_X11_tries_10C
    by_cases hiN : i < (PT (nof m)).length
    rotate_left
    · right
      rw [if_pos (k5 hiN)]
      rw [List.take_of_length_le (by omega)] at k6
      exact ⟨_, rfl, k1, k2, k3, k6⟩
    · left
      obtain ⟨e6, krow⟩ := k4 hiN
      obtain ⟨L, hL⟩ : ∃ L, L = (PT (nof m)).getD i [] := ⟨_, rfl⟩
      have hLin : L ∈ PT (nof m) := by
        rw [hL, List.getD_eq_getElem?_getD, List.getElem?_eq_getElem hiN]; exact List.getElem_mem hiN
      rw [← hL] at krow
      have eit : (its o m).getD i (0, 0, []) = (o, m, L) := by
        unfold its
        rw [List.getD_eq_getElem?_getD, List.getElem?_map, List.getElem?_eq_getElem hiN, hL, List.getD_eq_getElem?_getD, List.getElem?_eq_getElem hiN]
        rfl
      have etk : (its o m).take (i + 1) = (its o m).take i ++ [(o, m, L)] := by rw [take_s (0, 0, []) (by omega), eit]
      have hqP : ∀ k, k < nof m → (lq m L k : Int) < B 8 0 := fun k hk => hm.2.2 _ (nth_in ((pin L hLin).2 k hk)).2.1
      have hRt : isRk τ 182 B := hR.row (k1 182 ⟨by omega, by decide, by decide, by decide⟩)
      have t190 : τ 198 d = f := by rw [k1 198 ⟨by omega, by decide, by decide, by decide⟩, h190]
      have t191 : τ 199 d = a := by rw [k1 199 ⟨by omega, by decide, by decide, by decide⟩, h191]
      rw [if_neg (by omega), chk_pos (by omega), chk_pos (by omega), t190, t191]
      obtain ⟨τ2, w1, w2, w3⟩ := X11_isLaid (a := (a : Int)) hRt w hc hc2 hf (by omega) h4 (q := lq m L) (fun k hk => ⟨hqP k hk, krow k hk⟩)
      rw [smq_pt h4 hLin] at w1
      have elw : (fitN B c f (lq m L) (nof m) && decide ((a : Int) + smt B c m (nof m) ≤ B 8 3)) = lw (o, m, L) := by
        rw [hlw]; exact Bool.and_comm _ _
      rw [elw] at w1
      rw [bind_some' w1]
      -- behind the row: the next one
      have nextOf : ∀ τ6 : Mem, (∀ x, trS x → τ6 x = σ x) → (∀ e, e ≠ d → τ6 195 e = σ 195 e ∧ τ6 196 e = σ 196 e ∧ τ6 197 e = σ 197 e ∧ τ6 200 e = σ 200 e) → (∀ i, ¬ (4 * d ≤ i ∧ i < 4 * d + 4) → τ6 201 i = σ 201 i ∧ τ6 202 i = σ 202 i) → (∀ k : Nat, k < nof m → τ6 192 k = (lq m L k : Int)) → isRd τ6 B c f d (bst lw ms ((its o m).take (i + 1)) x0) → ∃ a' k', f_X11_tries_156 τ6 c d o (nof m : Int) = some (.inl a') ∧ k' < 30 - i ∧ ∃ i : Nat, k' = 30 - i ∧ i ≤ (PT (nof m)).length ∧ (∀ x, trS x → a'.2 x = σ x) ∧ (∀ e, e ≠ d → a'.2 195 e = σ 195 e ∧ a'.2 196 e = σ 196 e ∧ a'.2 197 e = σ 197 e ∧ a'.2 200 e = σ 200 e) ∧ (∀ i, ¬ (4 * d ≤ i ∧ i < 4 * d + 4) → a'.2 201 i = σ 201 i ∧ a'.2 202 i = σ 202 i) ∧ (i < (PT (nof m)).length → a'.1 = 1 ∧ ∀ k : Nat, k < nof m → a'.2 192 k = (lq m ((PT (nof m)).getD i []) k : Int)) ∧ (¬ i < (PT (nof m)).length → a'.1 = 0) ∧ isRd a'.2 B c f d (bst lw ms ((its o m).take i) x0) := by
        intro τ6 z1 z2 z3 z4 z5
        obtain ⟨r7, τ7, y1, y2, y3, y4⟩ := X11_next (σ := τ6) (P := nth m) h4 (fun x y hxy hy => nth_lt hxy hy) hiN (fun k hk => by rw [z4 k hk, hL]; rfl)
        unfold f_X11_tries_156
        rw [bind_some' y1]
        simp only [Option.bind_some]
        refine ⟨_, 30 - (i + 1), rfl, by omega, i + 1, rfl, hiN, fun x hx => by show τ7 x = _; rw [y2 x (fun e => by subst e; exact hx.1 (by omega)), z1 x hx], fun e he => by show τ7 195 e = _ ∧ τ7 196 e = _ ∧ τ7 197 e = _ ∧ τ7 200 e = _; rw [y2 195 (by decide), y2 196 (by decide), y2 197 (by decide), y2 200 (by decide)]; exact z2 e he, fun j hj => by show τ7 201 j = _ ∧ τ7 202 j = _; rw [y2 201 (by decide), y2 202 (by decide)]; exact z3 j hj, y3, y4, ?_⟩
        show isRd τ7 B c f d _
        unfold isRd
        rw [y2 195 (by decide), y2 196 (by decide), y2 197 (by decide), y2 200 (by decide), y2 201 (by decide), y2 202 (by decide)]
        exact z5
      have b2 : ∀ x, trS x → τ2 x = σ x := fun x hx => by rw [w2 x (fun e => by subst e; exact hx.1 (by omega)) (fun e => by subst e; exact hx.1 (by omega)), k1 x hx]
      have c2 : ∀ x, x ≠ 193 → x ≠ 194 → τ2 x = τ x := w2
      have same : isRd τ2 B c f d (bst lw ms ((its o m).take i) x0) := by
        unfold isRd
        rw [c2 195 (by decide) (by decide), c2 196 (by decide) (by decide), c2 197 (by decide) (by decide), c2 200 (by decide) (by decide), c2 201 (by decide) (by decide), c2 202 (by decide) (by decide)]
        exact k6
      have d2 : ∀ e, e ≠ d → τ2 195 e = σ 195 e ∧ τ2 196 e = σ 196 e ∧ τ2 197 e = σ 197 e ∧ τ2 200 e = σ 200 e := fun e he => by
        rw [c2 195 (by decide) (by decide), c2 196 (by decide) (by decide), c2 197 (by decide) (by decide), c2 200 (by decide) (by decide)]; exact k2 e he
      have e2 : ∀ i, ¬ (4 * d ≤ i ∧ i < 4 * d + 4) → τ2 201 i = σ 201 i ∧ τ2 202 i = σ 202 i := fun j hj => by
        rw [c2 201 (by decide) (by decide), c2 202 (by decide) (by decide)]; exact k3 j hj
      have f2 : ∀ k : Nat, k < nof m → τ2 192 k = (lq m L k : Int) := fun k hk => by rw [c2 192 (by decide) (by decide)]; exact krow k hk
      cases hfit : lw (o, m, L) with
      | false =>
        show ∃ a' k', (if (0 : Int) = 0 then _ else _) = _ ∧ _
        rw [if_pos rfl]
        refine nextOf τ2 b2 d2 e2 f2 ?_
        have eb0 : bst lw ms ((its o m).take (i + 1)) x0 = bst lw ms ((its o m).take i) x0 := by
          rw [etk, bst_app]; unfold stp; rw [hfit]; rfl
        rw [eb0]
        exact same
      | true =>
        show ∃ a' k', (if (1 : Int) = 0 then _ else _) = _ ∧ _
        have hR2 : isRk τ2 182 B := hR.row (b2 182 ⟨by omega, by decide, by decide, by decide⟩)
        rw [if_neg (by decide), chk_pos (by omega)]
        show ∃ a' k', (f_X11_keeps τ2 (nof m : Int) o (τ2 199 d)).bind _ = _ ∧ _
        rw [b2 199 ⟨by omega, by decide, by decide, by decide⟩, h191, bind_some' (X11_keeps (f := f) hR2 w ho.2 h4 ha (q := lq m L) (fun k hk => ⟨hqP k hk, f2 k hk⟩) w3), chk_pos (by omega)]
        have ems : ((cnt (kpB (woB B o) a B c f (lq m L) (nof m)) 48 : Nat) : Int) = ms (o, m, L) := by
          rw [hms]
          show _ = msC B c f 0 _ _ _ _
          unfold msC
          rw [if_pos rfl]
        rw [ems, show ((if true = true then (1 : Int) else 0), τ2).2 = τ2 from rfl]
        have eb1 : bst lw ms ((its o m).take (i + 1)) x0 = stp lw ms (o, m, L) (bst lw ms ((its o m).take i) x0) := by rw [etk, bst_app]
        -- a better one
        have betr : bst lw ms ((its o m).take (i + 1)) x0 = some (ms (o, m, L), (o, m, L)) → ∃ a' k', f_X11_tries_73 τ2 c d o (nof m : Int) (ms (o, m, L)) = some (.inl a') ∧ k' < 30 - i ∧ ∃ i : Nat, k' = 30 - i ∧ i ≤ (PT (nof m)).length ∧ (∀ x, trS x → a'.2 x = σ x) ∧ (∀ e, e ≠ d → a'.2 195 e = σ 195 e ∧ a'.2 196 e = σ 196 e ∧ a'.2 197 e = σ 197 e ∧ a'.2 200 e = σ 200 e) ∧ (∀ i, ¬ (4 * d ≤ i ∧ i < 4 * d + 4) → a'.2 201 i = σ 201 i ∧ a'.2 202 i = σ 202 i) ∧ (i < (PT (nof m)).length → a'.1 = 1 ∧ ∀ k : Nat, k < nof m → a'.2 192 k = (lq m ((PT (nof m)).getD i []) k : Int)) ∧ (¬ i < (PT (nof m)).length → a'.1 = 0) ∧ isRd a'.2 B c f d (bst lw ms ((its o m).take i) x0) := by
          intro hb
          unfold f_X11_tries_73
          rw [chk_pos (by omega)]
          simp only [Option.bind_some]
          rw [chk_pos (by omega), chk_pos (by omega), chk_pos (by omega)]
          obtain ⟨τ3, hτ3⟩ : ∃ z, z = mup (mup (mup (mup τ2 195 d 1) 196 d (ms (o, m, L))) 197 d o) 200 d (nof m : Int) := ⟨_, rfl⟩
          rw [← hτ3]
          have r3 : ∀ x, x ≠ 195 → x ≠ 196 → x ≠ 197 → x ≠ 200 → τ3 x = τ2 x := fun x h1 h2 h3 h5 => by rw [hτ3, mup_row h5, mup_row h3, mup_row h2, mup_row h1]
          unfold f_X11_tries_107
          obtain ⟨τ4, u1, u2, u3, u4⟩ := loop_ex (f := f_X11_tries_107B c d o (nof m : Int)) (fun s => ∃ k : Nat, s.1 = (k : Int) ∧ k ≤ nof m ∧ (∀ x, x ≠ 201 → x ≠ 202 → s.2 x = τ3 x) ∧ (∀ i, ¬ (4 * d ≤ i ∧ i < 4 * d + 4) → s.2 201 i = τ3 201 i ∧ s.2 202 i = τ3 202 i) ∧ ∀ j : Nat, j < k → s.2 201 (4 * d + j) = (lq m L j : Int) ∧ s.2 202 (4 * d + j) = bg B c f (lq m L) j) (fun s => (4 - s.1).toNat) (fun τ => (∀ x, x ≠ 201 → x ≠ 202 → τ x = τ3 x) ∧ (∀ i, ¬ (4 * d ≤ i ∧ i < 4 * d + 4) → τ 201 i = τ3 201 i ∧ τ 202 i = τ3 202 i) ∧ ∀ j : Nat, j < nof m → τ 201 (4 * d + j) = (lq m L j : Int) ∧ τ 202 (4 * d + j) = bg B c f (lq m L) j) (a := (0, τ3)) ⟨0, rfl, Nat.zero_le _, fun _ _ _ => rfl, fun _ _ => ⟨rfl, rfl⟩, fun j hj => absurd hj (Nat.not_lt_zero _)⟩ (Nat.le_of_ble_eq_true rfl) (by
            rintro ⟨_, τ5⟩ ⟨k, rfl, hk, grow, gout, gj⟩
            have grow : ∀ x, x ≠ 201 → x ≠ 202 → τ5 x = τ3 x := grow
            have gout : ∀ i, ¬ (4 * d ≤ i ∧ i < 4 * d + 4) → τ5 201 i = τ3 201 i ∧ τ5 202 i = τ3 202 i := gout
            have gj : ∀ j : Nat, j < k → τ5 201 (4 * d + j) = (lq m L j : Int) ∧ τ5 202 (4 * d + j) = bg B c f (lq m L) j := gj
            show (∃ a', f_X11_tries_107C c d o (nof m : Int) (k : Int) τ5 = _ ∧ _) ∨ ∃ a', f_X11_tries_107C c d o (nof m : Int) (k : Int) τ5 = _ ∧ _
            unfold f_X11_tries_107C
            by_cases hkn : (nof m : Int) ≤ k
            · right
              rw [if_pos hkn]
              have : k = nof m := by omega
              subst this
              exact ⟨_, rfl, grow, gout, gj⟩
            · left
              have ej : jadd (jmul 4 d) (k : Int) = 4 * d + k := by rw [jmul_ok (by omega) (by omega), jadd_ok (by omega) (by omega)]
              rw [if_neg hkn, ej, chk_pos (by omega), chk_pos (by omega)]
              simp only [Option.bind_some]
              rw [chk_pos (by omega), chk_pos (by omega), jadd_ok (a := (k : Int)) (by omega) (by omega)]
              have v184 : τ5 192 (k : Int) = (lq m L k : Int) := by rw [grow 192 (by decide) (by decide), r3 192 (by decide) (by decide) (by decide) (by decide)]; exact f2 k (by omega)
              have v185 : mup τ5 201 (4 * d + k) (lq m L k : Int) 193 (k : Int) = bg B c f (lq m L) k := by rw [mup_miss (by omega), grow 193 (by decide) (by decide), r3 193 (by decide) (by decide) (by decide) (by decide)]; exact (w3 k (by omega)).1
              rw [v184, v185]
              refine ⟨_, rfl, ⟨k + 1, by show (k : Int) + 1 = _; omega, by omega, fun x h1 h2 => by dsimp only; rw [mup_row h2, mup_row h1, grow x h1 h2], fun i hi => ?_, fun j hj => ?_⟩, by show (4 - ((k : Int) + 1)).toNat < (4 - (k : Int)).toNat; omega⟩
              · dsimp only
                rw [mup_miss (by omega), mup_miss (by omega), mup_miss (by omega), mup_miss (by omega)]
                exact gout i hi
              · dsimp only
                by_cases e : j = k
                · subst e
                  exact ⟨by rw [mup_miss (by omega), mup_hit rfl rfl], by rw [mup_hit rfl rfl]⟩
                · rw [mup_miss (by omega), mup_miss (by omega), mup_miss (by omega), mup_miss (by omega)]
                  exact gj j (by omega))
          rw [u1]
          show ∃ a' k', f_X11_tries_156 τ4 c d o (nof m : Int) = _ ∧ _
          have r4 : ∀ x, x ≠ 195 → x ≠ 196 → x ≠ 197 → x ≠ 200 → x ≠ 201 → x ≠ 202 → τ4 x = τ2 x := fun x h1 h2 h3 h5 h6 h7 => by rw [u2 x h6 h7, r3 x h1 h2 h3 h5]
          refine nextOf τ4 (fun x hx => ?_) (fun e he => ?_) (fun i hi => ?_) (fun k hk => by rw [r4 192 (by decide) (by decide) (by decide) (by decide) (by decide) (by decide)]; exact f2 k hk) ?_
          · have h := hx
            unfold trS at h
            rw [r4 x (by omega) (by omega) (by omega) h.2.1 h.2.2.1 h.2.2.2, b2 x hx]
          · rw [u2 195 (by decide) (by decide), u2 196 (by decide) (by decide), u2 197 (by decide) (by decide), u2 200 (by decide) (by decide), hτ3]
            obtain ⟨z1, z2, z3, z4⟩ := d2 e he
            refine ⟨?_, ?_, ?_, ?_⟩
            · rw [mup_miss (by omega), mup_miss (by omega), mup_miss (by omega), mup_miss (by omega)]; exact z1
            · rw [mup_miss (by omega), mup_miss (by omega), mup_miss (by omega), mup_miss (by omega)]; exact z2
            · rw [mup_miss (by omega), mup_miss (by omega), mup_miss (by omega), mup_miss (by omega)]; exact z3
            · rw [mup_miss (by omega), mup_miss (by omega), mup_miss (by omega), mup_miss (by omega)]; exact z4
          · obtain ⟨z1, z2⟩ := u3 i hi
            rw [z1, z2, r3 201 (by decide) (by decide) (by decide) (by decide), r3 202 (by decide) (by decide) (by decide) (by decide)]
            exact e2 i hi
          · rw [hb]
            refine ⟨fun h => (by cases h), fun v o' m' l' h => ?_⟩
            cases h
            rw [u2 195 (by decide) (by decide), u2 196 (by decide) (by decide), u2 197 (by decide) (by decide), u2 200 (by decide) (by decide), hτ3]
            refine ⟨?_, ?_, ?_, ?_, u4⟩
            · rw [mup_miss (by omega), mup_miss (by omega), mup_miss (by omega), mup_hit rfl rfl]
            · rw [mup_miss (by omega), mup_miss (by omega), mup_hit rfl rfl]
            · rw [mup_miss (by omega), mup_hit rfl rfl]
            · rw [mup_hit rfl rfl]
        cases hbb : bst lw ms ((its o m).take i) x0 with
        | none =>
          have h187 := (same.1 hbb).1
          rw [h187, if_pos rfl]
          refine betr ?_
          rw [eb1, hbb]; unfold stp; rw [hfit]; rfl
        | some x =>
          obtain ⟨v, o', m', l'⟩ := x
          obtain ⟨s1, s2, -, -, -⟩ := same.2 v o' m' l' hbb
          rw [s1, if_neg (by decide), chk_pos (by omega), s2]
          by_cases hlt : v ≤ ms (o, m, L)
          · rw [if_pos hlt]
            refine nextOf τ2 b2 d2 e2 f2 ?_
            have : bst lw ms ((its o m).take (i + 1)) x0 = bst lw ms ((its o m).take i) x0 := by
              rw [eb1, hbb]
              unfold stp
              rw [hfit, if_pos rfl]
              show (if ms (o, m, L) < v then _ else _) = _
              rw [if_neg (by omega)]
            rw [this]
            exact same
          · rw [if_neg hlt]
            refine betr ?_
            rw [eb1, hbb]
            unfold stp
            rw [hfit, if_pos rfl]
            show (if ms (o, m, L) < v then _ else _) = _
            rw [if_pos (by omega)]
  · refine ⟨0, rfl, Nat.zero_le _, fun x hx => by show σ1 x = _; rw [r2 x (fun e => by subst e; exact hx.1 (by omega))], fun e _ => by show σ1 195 e = _ ∧ σ1 196 e = _ ∧ σ1 197 e = _ ∧ σ1 200 e = _; rw [r2 195 (by decide), r2 196 (by decide), r2 197 (by decide), r2 200 (by decide)]; exact ⟨rfl, rfl, rfl, rfl⟩, fun j _ => by show σ1 201 j = _ ∧ σ1 202 j = _; rw [r2 201 (by decide), r2 202 (by decide)]; exact ⟨rfl, rfl⟩, fun _ => ⟨rfl, fun k hk => ?_⟩, fun h => absurd p0 h, ?_⟩
    · show σ1 192 k = _
      rw [r3 k hk]
      unfold lq
      rw [PT_0 _ h4 k hk]
    · show isRd σ1 B c f d x0
      unfold isRd
      rw [r2 195 (by decide), r2 196 (by decide), r2 197 (by decide), r2 200 (by decide), r2 201 (by decide), r2 202 (by decide)]
      exact hx0
