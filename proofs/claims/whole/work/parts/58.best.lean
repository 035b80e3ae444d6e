/-! BEST: the reference's search -/
theorem msS_b {B : Bk} (w : WF B) {c : Int} (hc : 0 ≤ c) (hc2 : c < B 8 1) {m : Nat} (hm : okm B m) {f : Int} (hf : 0 ≤ f ∧ f ≤ 60) {a : Nat} {by_ : Int} {wo : Nat → Bool} {L : List Nat} (hL : L ∈ PT (nof m)) : 0 ≤ msS B c m f a by_ wo L ∧ msS B c m f a by_ wo L ≤ 5000 := by
  have h4 := hm.2.1
  obtain ⟨-, -, pin⟩ := PT_ok (nof m) h4
  unfold msS msC
  split
  · have := cnt_le (kpB wo a B c f (lq m L) (nof m)) 48
    omega
  · have := mj_b w hc hc2 hf h4 (q := lq m L) (n := nof m) (fun k hk => hm.2.2 _ (nth_in ((pin L hL).2 k hk)).2.1) by_ (nof m) (Nat.le_refl _)
    omega
theorem X11_best66 {σ : Mem} {B : Bk} {c f by_ i0 : Int} {m a d : Nat} (hR : isRk σ 182 B) (w : WF B) (hm : okm B m) (hn0 : 0 < nof m) (hc : 0 ≤ c) (hc2 : c < B 8 1) (hf : 0 ≤ f ∧ f ≤ 60) (ha : a ≤ 48) (hby : 0 ≤ by_ ∧ by_ ≤ 4) (hd : d < 5) (h190 : σ 198 d = f) (h191 : σ 199 d = a) (h184 : ∀ k : Nat, k < nof m → σ 192 k = (nth m k : Int)) :
    ∃ x6 τ, f_X11_best_66 σ c d by_ i0 (nof m : Int) (-1) 1 = f_X11_best_174 τ i0 (nof m : Int) x6 ∧ (∀ x, ¬ (192 ≤ x ∧ x ≤ 194) → x ≠ 203 → τ x = σ x) ∧ (bst (lwS B c m f a) (msS B c m f a by_ (woB B (-1))) (PT (nof m)) none = none → x6 = -1) ∧ ∀ v l, bst (lwS B c m f a) (msS B c m f a by_ (woB B (-1))) (PT (nof m)) none = some (v, l) → x6 = v ∧ 0 ≤ v ∧ ∀ k : Nat, k < nof m → τ 203 k = (lq m l k : Int) := by
  have h4 := hm.2.1
  obtain ⟨pl, p0, pin⟩ := PT_ok (nof m) h4
  obtain ⟨lw, hlw⟩ : ∃ z, z = lwS B c m f a := ⟨_, rfl⟩
  obtain ⟨ms, hms⟩ : ∃ z, z = msS B c m f a by_ (woB B (-1)) := ⟨_, rfl⟩
  rw [← hlw, ← hms]
  unfold f_X11_best_66
  have key := loop_rn (f := f_X11_best_66B c d by_ i0 (nof m : Int)) (P := fun k s => ∃ i : Nat, k = 30 - i ∧ i ≤ (PT (nof m)).length ∧ (∀ x, ¬ (192 ≤ x ∧ x ≤ 194) → x ≠ 203 → s.2.2 x = σ x) ∧ (i < (PT (nof m)).length → s.2.1 = 1 ∧ ∀ k : Nat, k < nof m → s.2.2 192 k = (lq m ((PT (nof m)).getD i []) k : Int)) ∧ (¬ i < (PT (nof m)).length → s.2.1 = 0) ∧ (bst lw ms ((PT (nof m)).take i) none = none → s.1 = -1) ∧ ∀ v l, bst lw ms ((PT (nof m)).take i) none = some (v, l) → s.1 = v ∧ 0 ≤ v ∧ ∀ k : Nat, k < nof m → s.2.2 203 k = (lq m l k : Int))
    (Q := fun e => (∀ x, ¬ (192 ≤ x ∧ x ≤ 194) → x ≠ 203 → e.2 x = σ x) ∧ (bst lw ms (PT (nof m)) none = none → e.1 = -1) ∧ ∀ v l, bst lw ms (PT (nof m)) none = some (v, l) → e.1 = v ∧ 0 ≤ v ∧ ∀ k : Nat, k < nof m → e.2 203 k = (lq m l k : Int)) ?_ FU 30 (-1, 1, σ) ⟨0, rfl, Nat.zero_le _, fun _ _ _ => rfl, fun _ => ⟨rfl, fun k hk => by show σ 192 k = _; rw [h184 k hk]; unfold lq; rw [PT_0 _ h4 k hk]⟩, fun h => absurd p0 h, fun _ => rfl, fun v l h => (by cases h)⟩ (Nat.le_of_ble_eq_true rfl)
  · obtain ⟨e, e1, e2, e3, e4⟩ := key
    rw [e1]
    exact ⟨e.1, e.2, rfl, e2, e3, e4⟩
  · rintro k ⟨x6, x7, τ⟩ ⟨i, rfl, hi, k1, k2, k3, k4, k5⟩
    have k1 : ∀ x, ¬ (192 ≤ x ∧ x ≤ 194) → x ≠ 203 → τ x = σ x := k1
    have k2 : i < (PT (nof m)).length → x7 = 1 ∧ ∀ k : Nat, k < nof m → τ 192 k = (lq m ((PT (nof m)).getD i []) k : Int) := k2
    have k3 : ¬ i < (PT (nof m)).length → x7 = 0 := k3
    have k4 : bst lw ms ((PT (nof m)).take i) none = none → x6 = -1 := k4
    have k5 : ∀ v l, bst lw ms ((PT (nof m)).take i) none = some (v, l) → x6 = v ∧ 0 ≤ v ∧ ∀ k : Nat, k < nof m → τ 203 k = (lq m l k : Int) := k5
    show (∃ a' k', f_X11_best_66C c d by_ i0 (nof m : Int) x6 x7 τ = _ ∧ _) ∨ ∃ a', f_X11_best_66C c d by_ i0 (nof m : Int) x6 x7 τ = _ ∧ _
    unfold f_X11_best_66C
    by_cases hiN : i < (PT (nof m)).length
    rotate_left
    · right
      rw [if_pos (k3 hiN)]
      rw [List.take_of_length_le (by omega)] at k4 k5
      exact ⟨_, rfl, k1, k4, k5⟩
    · left
      obtain ⟨e7, krow⟩ := k2 hiN
      obtain ⟨L, hL⟩ : ∃ L, L = (PT (nof m)).getD i [] := ⟨_, rfl⟩
      have hLin : L ∈ PT (nof m) := by rw [hL]; exact getD_mem [] hiN
      rw [← hL] at krow
      have etk : (PT (nof m)).take (i + 1) = (PT (nof m)).take i ++ [L] := by rw [hL]; exact take_s [] hiN
      have eb : bst lw ms ((PT (nof m)).take (i + 1)) none = stp lw ms L (bst lw ms ((PT (nof m)).take i) none) := by rw [etk, bst_app]
      have hRt : isRk τ 182 B := hR.row (k1 182 (by decide) (by decide))
      have hmb : 0 ≤ ms L ∧ ms L ≤ 5000 := by rw [hms]; exact msS_b w hc hc2 hm hf hLin
      rw [if_neg (by omega), chk_pos (by omega), chk_pos (by omega), k1 198 (by decide) (by decide), k1 199 (by decide) (by decide), h190, h191]
      obtain ⟨τ2, w1, w2, w3⟩ := X11_lay hRt w hm hc hc2 hf ha hLin krow
      rw [bind_some' w1, ← hlw]
      have r2 : ∀ x, ¬ (192 ≤ x ∧ x ≤ 194) → x ≠ 203 → τ2 x = σ x := fun x h1 h2 => by rw [w2 x (by omega) (by omega), k1 x h1 h2]
      have row2 : ∀ k : Nat, k < nof m → τ2 192 k = (lq m L k : Int) := fun k hk => by rw [w2 192 (by decide) (by decide)]; exact krow k hk
      have next : ∀ (z : Int) (ρ : Mem), (∀ x, ¬ (192 ≤ x ∧ x ≤ 194) → x ≠ 203 → ρ x = σ x) → (∀ k : Nat, k < nof m → ρ 192 k = (lq m L k : Int)) → (bst lw ms ((PT (nof m)).take (i + 1)) none = none → z = -1) → (∀ v l, bst lw ms ((PT (nof m)).take (i + 1)) none = some (v, l) → z = v ∧ 0 ≤ v ∧ ∀ k : Nat, k < nof m → ρ 203 k = (lq m l k : Int)) → ∃ a' k', f_X11_best_163 ρ c d by_ i0 (nof m : Int) z = some (.inl a') ∧ k' < 30 - i ∧ ∃ i : Nat, k' = 30 - i ∧ i ≤ (PT (nof m)).length ∧ (∀ x, ¬ (192 ≤ x ∧ x ≤ 194) → x ≠ 203 → a'.2.2 x = σ x) ∧ (i < (PT (nof m)).length → a'.2.1 = 1 ∧ ∀ k : Nat, k < nof m → a'.2.2 192 k = (lq m ((PT (nof m)).getD i []) k : Int)) ∧ (¬ i < (PT (nof m)).length → a'.2.1 = 0) ∧ (bst lw ms ((PT (nof m)).take i) none = none → a'.1 = -1) ∧ ∀ v l, bst lw ms ((PT (nof m)).take i) none = some (v, l) → a'.1 = v ∧ 0 ≤ v ∧ ∀ k : Nat, k < nof m → a'.2.2 203 k = (lq m l k : Int) := fun z ρ h1 h2 h3 h5 => by
        obtain ⟨r7, τ7, y1, y2, y3, y4⟩ := X11_next (σ := ρ) (P := nth m) h4 (fun x y hxy hy => nth_lt hxy hy) hiN (fun k hk => by rw [h2 k hk, hL]; rfl)
        unfold f_X11_best_163
        rw [bind_some' y1]
        simp only [Option.bind_some]
        exact ⟨_, 30 - (i + 1), rfl, by omega, i + 1, rfl, hiN, fun x g1 g2 => by show τ7 x = _; rw [y2 x (by omega), h1 x g1 g2], y3, y4, h3, fun v l h => by
          obtain ⟨q1, q2, q3⟩ := h5 v l h
          exact ⟨q1, q2, fun k hk => by show τ7 203 k = _; rw [y2 203 (by decide)]; exact q3 k hk⟩⟩
      -- a better one
      have betr : bst lw ms ((PT (nof m)).take (i + 1)) none = some (ms L, L) → ∃ a' k', f_X11_best_129 τ2 c d by_ i0 (nof m : Int) (ms L) = some (.inl a') ∧ k' < 30 - i ∧ ∃ i : Nat, k' = 30 - i ∧ i ≤ (PT (nof m)).length ∧ (∀ x, ¬ (192 ≤ x ∧ x ≤ 194) → x ≠ 203 → a'.2.2 x = σ x) ∧ (i < (PT (nof m)).length → a'.2.1 = 1 ∧ ∀ k : Nat, k < nof m → a'.2.2 192 k = (lq m ((PT (nof m)).getD i []) k : Int)) ∧ (¬ i < (PT (nof m)).length → a'.2.1 = 0) ∧ (bst lw ms ((PT (nof m)).take i) none = none → a'.1 = -1) ∧ ∀ v l, bst lw ms ((PT (nof m)).take i) none = some (v, l) → a'.1 = v ∧ 0 ≤ v ∧ ∀ k : Nat, k < nof m → a'.2.2 203 k = (lq m l k : Int) := fun hb => by
        unfold f_X11_best_129 f_X11_best_136
        obtain ⟨τ3, u1, u2, u3⟩ := loop_ex (f := f_X11_best_136B c d by_ i0 (nof m : Int) (ms L)) (fun s => ∃ j : Nat, s.1 = (j : Int) ∧ j ≤ nof m ∧ (∀ x, x ≠ 203 → s.2 x = τ2 x) ∧ ∀ i : Nat, i < j → s.2 203 i = (lq m L i : Int)) (fun s => (4 - s.1).toNat) (fun τ3 => (∀ x, x ≠ 203 → τ3 x = τ2 x) ∧ ∀ i : Nat, i < nof m → τ3 203 i = (lq m L i : Int)) (a := (0, τ2)) ⟨0, rfl, Nat.zero_le _, fun _ _ => rfl, fun i hi => absurd hi (Nat.not_lt_zero _)⟩ (Nat.le_of_ble_eq_true rfl) (by
          rintro ⟨_, τ3⟩ ⟨j, rfl, hj, q1, q2⟩
          have q1 : ∀ x, x ≠ 203 → τ3 x = τ2 x := q1
          have q2 : ∀ i : Nat, i < j → τ3 203 i = (lq m L i : Int) := q2
          show (∃ a', f_X11_best_136C c d by_ i0 (nof m : Int) (ms L) (j : Int) τ3 = _ ∧ _) ∨ ∃ a', f_X11_best_136C c d by_ i0 (nof m : Int) (ms L) (j : Int) τ3 = _ ∧ _
          unfold f_X11_best_136C
          by_cases hkn : (nof m : Int) ≤ j
          · right
            rw [if_pos hkn]
            have : j = nof m := by omega
            subst this
            exact ⟨_, rfl, q1, q2⟩
          · left
            rw [if_neg hkn, chk_pos (by omega), chk_pos (by omega), q1 192 (by decide), row2 j (by omega)]
            simp only [Option.bind_some]
            rw [jadd_ok (by omega) (by omega)]
            refine ⟨_, rfl, ⟨j + 1, by show (j : Int) + 1 = _; omega, by omega, fun x hx => by dsimp only; rw [mup_row hx, q1 x hx], fun i hi => ?_⟩, by show (4 - ((j : Int) + 1)).toNat < (4 - (j : Int)).toNat; omega⟩
            dsimp only
            by_cases e : i = j
            · subst e; rw [mup_hit rfl rfl]
            · rw [mup_miss (by omega)]; exact q2 i (by omega))
        rw [u1]
        show ∃ a' k', f_X11_best_163 τ3 c d by_ i0 (nof m : Int) (ms L) = _ ∧ _
        refine next (ms L) τ3 (fun x g1 g2 => by rw [u2 x g2, r2 x g1 g2]) (fun k hk => by rw [u2 192 (by decide)]; exact row2 k hk) (fun h => by rw [hb] at h; cases h) (fun v l h => ?_)
        rw [hb] at h
        cases h
        exact ⟨rfl, hmb.1, u3⟩
      cases hl : lw L with
      | false =>
        have eb0 : bst lw ms ((PT (nof m)).take (i + 1)) none = bst lw ms ((PT (nof m)).take i) none := by
          rw [eb]; unfold stp; rw [hl]; rfl
        show ∃ a' k', (if (0 : Int) = 0 then f_X11_best_110 τ2 c d by_ i0 (nof m : Int) x6 (-1) else _) = _ ∧ _
        rw [if_pos rfl]
        unfold f_X11_best_110
        rw [if_pos (by decide)]
        refine next x6 τ2 r2 row2 (by rw [eb0]; exact k4) (fun v l h => ?_)
        rw [eb0] at h
        obtain ⟨q1, q2, q3⟩ := k5 v l h
        exact ⟨q1, q2, fun k hk => by rw [w2 203 (by decide) (by decide)]; exact q3 k hk⟩
      | true =>
        show ∃ a' k', (if (1 : Int) = 0 then _ else chk (0 ≤ (d : Int) ∧ (d : Int) < ((5 : Nat) : Int)) ((f_X11_measured τ2 (nof m : Int) by_ (τ2 199 d)).bind fun v18 => f_X11_best_110 τ2 c d by_ i0 (nof m : Int) x6 v18)) = _ ∧ _
        have hq : ∀ k, k < nof m → (lq m L k : Int) < B 8 0 ∧ τ2 192 k = (lq m L k : Int) := fun k hk => ⟨hm.2.2 _ (nth_in ((pin L hLin).2 k hk)).2.1, row2 k hk⟩
        have em : msC B c f by_ (woB B (-1)) a (nof m) (lq m L) = ms L := by rw [hms]; rfl
        rw [if_neg (by decide), chk_pos (by omega), r2 199 (by decide) (by decide), h191, bind_some' (X11_measured (hR.row (r2 182 (by decide) (by decide))) w hc hc2 hf hby hn0 h4 ha hq w3), em]
        unfold f_X11_best_110
        rw [if_neg (by omega)]
        cases hbb : bst lw ms ((PT (nof m)).take i) none with
        | none =>
          rw [if_pos (by rw [k4 hbb]; decide)]
          refine betr ?_
          rw [eb, hbb]; unfold stp; rw [hl]; rfl
        | some y =>
          obtain ⟨v, l⟩ := y
          obtain ⟨q1, q2, q3⟩ := k5 v l hbb
          rw [hbb] at eb
          have eb : bst lw ms ((PT (nof m)).take (i + 1)) none = if ms L < v then some (ms L, L) else some (v, l) := by
            rw [eb]; unfold stp; rw [hl]; rfl
          rw [if_neg (by omega)]
          by_cases hlt : ms L < v
          · rw [if_neg (by omega)]
            exact betr (by rw [eb, if_pos hlt])
          · rw [if_pos (by omega)]
            rw [if_neg hlt] at eb
            refine next x6 τ2 r2 row2 (fun h => by rw [eb] at h; cases h) (fun v' l' h => ?_)
            rw [eb] at h
            cases h
            exact ⟨q1, q2, fun k hk => by rw [w2 203 (by decide) (by decide)]; exact q3 k hk⟩
