/-! THE CLASS' ORDERS of a day; the reference's walk through all orders -/
theorem X4_ordersOf {ρ : Mem} {B : Bk} (hB : isBk ρ 1 B) (w : WF B) {c : Int} (hc : 0 ≤ c) (hc2 : c < B 8 1) {k : Int} {d : Nat} (hd : d < 5) {f : Int} {a : Nat} (ha : a ≤ 48) {x : Option (Int × Tr)} (h : isWd ρ k B c d f a x) : ∃ τ, f_X4_ordersOf ρ 1 c d k = some τ ∧ isOr τ B c (od B c d) f a ∧ ∀ x, ¬ (36 ≤ x ∧ x ≤ 39) → τ x = ρ x := by
  have hn := w.1
  unfold WFn at hn
  obtain ⟨τ, t1, t2, t3⟩ := X3_gather (Or.inl rfl) hB w hc hc2 (okm_od w hc hc2 d) f ha
  refine ⟨τ, ?_, t2, t3⟩
  unfold f_X4_ordersOf
  rw [chk_pos (by omega), bind_some' (X0_papersOf hB w d)]
  simp only [Option.bind_some]
  rw [chk_pos (by omega), chk_pos (by omega), takes_od hB w hc hc2, h.1, h.2.1, bind_some' t1]
theorem nlw_cons {α : Type} (lw : α → Bool) (y : α) (l : List α) : nlw lw (y :: l) = (if lw y then 1 else 0) + nlw lw l := rfl
theorem nlw_len {α : Type} (lw : α → Bool) : ∀ l : List α, nlw lw l ≤ l.length
  | [] => Nat.le_refl _
  | y :: l => by
    have := nlw_len lw l
    rw [nlw_cons, List.length_cons]
    split <;> omega
theorem nlw_take {α : Type} {lw : α → Bool} {l : List α} {i : Nat} (d : α) (hi : i < l.length) : nlw lw (l.take (i + 1)) = nlw lw (l.take i) + if lw (l.getD i d) then 1 else 0 := by rw [take_s d hi, nlw_app]
/-- the reference lays an order, the i-th -/
theorem X11_lay {σ : Mem} {B : Bk} {c f : Int} {m a : Nat} (hR : isRk σ 182 B) (w : WF B) (hm : okm B m) (hc : 0 ≤ c) (hc2 : c < B 8 1) (hf : 0 ≤ f ∧ f ≤ 60) (ha : a ≤ 48) {L : List Nat} (hL : L ∈ PT (nof m)) (h : ∀ k : Nat, k < nof m → σ 192 k = (lq m L k : Int)) : ∃ τ, f_X11_isLaid σ c (nof m : Int) f a = some (if lwS B c m f a L then 1 else 0, τ) ∧ (∀ x, x ≠ 193 → x ≠ 194 → τ x = σ x) ∧ ∀ k, k < nof m → τ 193 k = bg B c f (lq m L) k ∧ τ 194 k = en B c f (lq m L) k := by
  have h4 := hm.2.1
  obtain ⟨-, -, pin⟩ := PT_ok (nof m) h4
  obtain ⟨τ, h1, h2, h3⟩ := X11_isLaid (a := (a : Int)) hR w hc hc2 hf (by omega) h4 (q := lq m L) (fun k hk => ⟨hm.2.2 _ (nth_in ((pin L hL).2 k hk)).2.1, h k hk⟩)
  refine ⟨τ, ?_, h2, h3⟩
  rw [h1, smq_pt h4 hL]
  have : (fitN B c f (lq m L) (nof m) && decide ((a : Int) + smt B c m (nof m) ≤ B 8 3)) = lwS B c m f a L := Bool.and_comm _ _
  rw [this]
theorem getD_mem {α : Type} {l : List α} {i : Nat} (d : α) (hi : i < l.length) : l.getD i d ∈ l := by
  rw [List.getD_eq_getElem?_getD, List.getElem?_eq_getElem hi]; exact List.getElem_mem hi
theorem X11_lawful44 {σ : Mem} {B : Bk} {c f : Int} {m a d : Nat} (hR : isRk σ 182 B) (w : WF B) (hm : okm B m) (hc : 0 ≤ c) (hc2 : c < B 8 1) (hf : 0 ≤ f ∧ f ≤ 60) (ha : a ≤ 48) (hd : d < 5) (h190 : σ 198 d = f) (h191 : σ 199 d = a) (h184 : ∀ k : Nat, k < nof m → σ 192 k = (nth m k : Int)) :
    ∃ τ, f_X11_lawful_44 σ c d (nof m : Int) 0 1 = some (((nlw (lwS B c m f a) (PT (nof m)) : Nat) : Int), τ) ∧ ∀ x, ¬ (192 ≤ x ∧ x ≤ 194) → τ x = σ x := by
  have h4 := hm.2.1
  obtain ⟨pl, p0, pin⟩ := PT_ok (nof m) h4
  have hnl := nlw_len (lwS B c m f a) (PT (nof m))
  unfold f_X11_lawful_44
  have key := loop_rn (f := f_X11_lawful_44B c d (nof m : Int)) (P := fun k s => ∃ i : Nat, k = 30 - i ∧ i ≤ (PT (nof m)).length ∧ s.1 = ((nlw (lwS B c m f a) ((PT (nof m)).take i) : Nat) : Int) ∧ (∀ x, ¬ (192 ≤ x ∧ x ≤ 194) → s.2.2 x = σ x) ∧ (i < (PT (nof m)).length → s.2.1 = 1 ∧ ∀ k : Nat, k < nof m → s.2.2 192 k = (lq m ((PT (nof m)).getD i []) k : Int)) ∧ (¬ i < (PT (nof m)).length → s.2.1 = 0))
    (Q := fun e => e.1 = ((nlw (lwS B c m f a) (PT (nof m)) : Nat) : Int) ∧ ∀ x, ¬ (192 ≤ x ∧ x ≤ 194) → e.2 x = σ x) ?_ FU 30 (0, 1, σ) ⟨0, rfl, Nat.zero_le _, rfl, fun _ _ => rfl, fun _ => ⟨rfl, fun k hk => by show σ 192 k = _; rw [h184 k hk]; unfold lq; rw [PT_0 _ h4 k hk]⟩, fun h => absurd p0 h⟩ (by decide)
  · obtain ⟨e, e1, e2, e3⟩ := key
    rw [e1]
    exact ⟨e.2, by show some (e.1, e.2) = _; rw [e2], e3⟩
  · rintro k ⟨x4, x5, τ⟩ ⟨i, rfl, hi, k1, k2, k3, k4⟩
    have k1 : x4 = _ := k1
    have k2 : ∀ x, ¬ (192 ≤ x ∧ x ≤ 194) → τ x = σ x := k2
    have k3 : i < (PT (nof m)).length → x5 = 1 ∧ ∀ k : Nat, k < nof m → τ 192 k = (lq m ((PT (nof m)).getD i []) k : Int) := k3
    have k4 : ¬ i < (PT (nof m)).length → x5 = 0 := k4
    show (∃ a' k', f_X11_lawful_44C c d (nof m : Int) x4 x5 τ = _ ∧ _) ∨ ∃ a', f_X11_lawful_44C c d (nof m : Int) x4 x5 τ = _ ∧ _
    unfold f_X11_lawful_44C
    by_cases hiN : i < (PT (nof m)).length
    rotate_left
    · right
      rw [if_pos (k4 hiN)]
      rw [List.take_of_length_le (by omega)] at k1
      exact ⟨_, rfl, k1, k2⟩
    · left
      obtain ⟨e5, krow⟩ := k3 hiN
      have hLin := getD_mem (l := PT (nof m)) [] hiN
      have hRt : isRk τ 182 B := hR.row (k2 182 (by decide))
      rw [if_neg (by omega), chk_pos (by omega), chk_pos (by omega), k2 198 (by decide), k2 199 (by decide), h190, h191]
      obtain ⟨τ2, w1, w2, -⟩ := X11_lay hRt w hm hc hc2 hf ha hLin krow
      rw [bind_some' w1]
      have hni := nlw_len (lwS B c m f a) ((PT (nof m)).take i)
      rw [List.length_take] at hni
      have fin : ∀ z : Int, z = (if lwS B c m f a ((PT (nof m)).getD i []) then 1 else 0) → ∃ a' k', f_X11_lawful_77 τ2 c d (nof m : Int) z x4 = some (.inl a') ∧ k' < 30 - i ∧ ∃ i : Nat, k' = 30 - i ∧ i ≤ (PT (nof m)).length ∧ a'.1 = ((nlw (lwS B c m f a) ((PT (nof m)).take i) : Nat) : Int) ∧ (∀ x, ¬ (192 ≤ x ∧ x ≤ 194) → a'.2.2 x = σ x) ∧ (i < (PT (nof m)).length → a'.2.1 = 1 ∧ ∀ k : Nat, k < nof m → a'.2.2 192 k = (lq m ((PT (nof m)).getD i []) k : Int)) ∧ (¬ i < (PT (nof m)).length → a'.2.1 = 0) := fun z hz => by
        have hz01 : 0 ≤ z ∧ z ≤ 1 := by rw [hz]; split <;> omega
        obtain ⟨r7, τ7, y1, y2, y3, y4⟩ := X11_next (σ := τ2) (P := nth m) h4 (fun x y hxy hy => nth_lt hxy hy) hiN (fun k hk => by rw [w2 192 (by decide) (by decide)]; exact krow k hk)
        unfold f_X11_lawful_77
        simp only [Option.bind_some]
        rw [bind_some' y1, jadd_ok (by omega) (by omega)]
        refine ⟨_, 30 - (i + 1), rfl, by omega, i + 1, rfl, hiN, ?_, fun x hx => by show τ7 x = _; rw [y2 x (by omega), w2 x (by omega) (by omega), k2 x hx], y3, y4⟩
        show x4 + z = _
        rw [nlw_take [] hiN, k1, hz]
        split <;> omega
      cases hl : lwS B c m f a ((PT (nof m)).getD i []) with
      | true =>
        rw [hl] at fin
        exact fin 1 rfl
      | false =>
        rw [hl] at fin
        exact fin 0 rfl
