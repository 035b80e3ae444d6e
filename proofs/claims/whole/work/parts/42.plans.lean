/-! A WEEK: what it is, and the reference's plans -/
/-- what comes over to a day -/
def ovr (B : Bk) (c : Int) : Nat → Int
  | 0 => -1
  | d + 1 => ov (dpl B c d (ovr B c d))
theorem ovf_in {B : Bk} {c f : Int} {a m : Nat} : ∀ {n : Nat} {v o : Int} {m' : Nat} {l : List Nat}, ovf B c f a m none n = some (v, (o, m', l)) → ∃ p : Nat, p < n ∧ o = p ∧ m.testBit p = true ∧ m' = clr m p ∧ l ∈ PT (nof m') ∧ lwS B c m' f a l = true ∧ v = msS B c m' f a 0 (woB B o) l
  | 0, v, o, m', l, h => by cases h
  | n + 1, v, o, m', l, h => by
    have h : (if m.testBit n && decide (tm B c n ≤ B 8 3) then bst (lwD B c f a) (msD B c f a) (its n (clr m n)) (ovf B c f a m none n) else ovf B c f a m none n) = some (v, (o, m', l)) := h
    split at h
    · rename_i hb
      rw [Bool.and_eq_true] at hb
      rcases bst_in h with q | ⟨q1, q2, q3⟩
      · obtain ⟨p, h1, h2⟩ := ovf_in q
        exact ⟨p, by omega, h2⟩
      · unfold its at q1
        rw [List.mem_map] at q1
        obtain ⟨l', h1, h2⟩ := q1
        cases h2
        exact ⟨n, by omega, rfl, hb.1, rfl, h1, q2, q3⟩
    · obtain ⟨p, h1, h2⟩ := ovf_in h
      exact ⟨p, by omega, h2⟩
theorem dpl_some {B : Bk} (w : WF B) {c : Int} (hc : 0 ≤ c) (hc2 : c < B 8 1) {d o v o' : Int} {m : Nat} {l : List Nat} (h : dpl B c d o = some (v, (o', m, l))) : okm B m ∧ -1 ≤ o' ∧ o' < B 8 0 ∧ l ∈ PT (nof m) ∧ lwS B c m (fre B c o) (ahd B c o) l = true ∧ v = msS B c m (fre B c o) (ahd B c o) 0 (woB B o') l ∧ ((o' = -1 ∧ m = od B c d) ∨ ∃ p : Nat, o' = p ∧ (od B c d).testBit p = true ∧ m = clr (od B c d) p) := by
  have hm := okm_od w hc hc2 d
  have hn := w.1
  unfold WFn at hn
  unfold dpl at h
  cases hb : bst (lwD B c (fre B c o) (ahd B c o)) (msD B c (fre B c o) (ahd B c o)) (its (-1) (od B c d)) none with
  | some x =>
    rw [hb] at h
    have h : some x = some (v, (o', m, l)) := h
    cases h
    rcases bst_in hb with q | ⟨q1, q2, q3⟩
    · cases q
    · unfold its at q1
      rw [List.mem_map] at q1
      obtain ⟨l', h1, h2⟩ := q1
      cases h2
      exact ⟨hm, by omega, by omega, h1, q2, q3, Or.inl ⟨rfl, rfl⟩⟩
  | none =>
    rw [hb] at h
    have h : (if B 5 c = 1 ∧ d < 4 then ovf B c (fre B c o) (ahd B c o) (od B c d) none 12 else none) = some (v, (o', m, l)) := h
    split at h
    · obtain ⟨p, h1, h2, h3, h4, h5, h6, h7⟩ := ovf_in h
      subst h2 h4
      have := hm.2.2 p h3
      exact ⟨hm.clr p, by omega, by omega, h5, h6, h7, Or.inr ⟨p, rfl, h3, rfl⟩⟩
    · cases h
theorem ovr_b {B : Bk} (w : WF B) {c : Int} (hc : 0 ≤ c) (hc2 : c < B 8 1) : ∀ d, -1 ≤ ovr B c d ∧ ovr B c d < B 8 0
  | 0 => by
    have hn := w.1
    unfold WFn at hn
    unfold ovr
    omega
  | d + 1 => by
    have hn := w.1
    unfold WFn at hn
    show -1 ≤ ov (dpl B c d (ovr B c d)) ∧ ov (dpl B c d (ovr B c d)) < B 8 0
    cases h : dpl B c d (ovr B c d) with
    | none => show (-1 : Int) ≤ -1 ∧ (-1 : Int) < _; omega
    | some y =>
      obtain ⟨v, o, m, l⟩ := y
      obtain ⟨-, h1, h2, -⟩ := dpl_some w hc hc2 h
      exact ⟨h1, h2⟩
/-- the reference's frame -/
def pfr (σ τ : Mem) (d : Int) : Prop := (∀ x, ¬ (192 ≤ x ∧ x ≤ 202) → τ x = σ x) ∧ (∀ x e, 195 ≤ x → x ≤ 200 → e ≠ d → τ x e = σ x e) ∧ ∀ x i, 201 ≤ x → x ≤ 202 → ¬ (4 * d ≤ i ∧ i < 4 * d + 4) → τ x i = σ x i
theorem pfr.rfl {σ : Mem} {d : Int} : pfr σ σ d := ⟨fun _ _ => Eq.refl _, fun _ _ _ _ _ => Eq.refl _, fun _ _ _ _ _ => Eq.refl _⟩
theorem pfr.trans {σ τ ρ : Mem} {d : Int} (h : pfr σ τ d) (g : pfr τ ρ d) : pfr σ ρ d :=
  ⟨fun x h1 => by rw [g.1 x h1, h.1 x h1], fun x e h1 h2 h3 => by rw [g.2.1 x e h1 h2 h3, h.2.1 x e h1 h2 h3], fun x i h1 h2 h3 => by rw [g.2.2 x i h1 h2 h3, h.2.2 x i h1 h2 h3]⟩
theorem pfr.mupd {σ : Mem} {d x v : Int} (h1 : 195 ≤ x) (h2 : x ≤ 200) : pfr σ (mup σ x d v) d :=
  ⟨fun y g => mup_row (by omega), fun y e _ _ g => mup_miss (fun q => g q.2), fun y i _ _ _ => mup_miss (by omega)⟩
theorem isRd_ov {σ : Mem} {B : Bk} {c f d : Int} {x : Option (Int × Tr)} (h : isRd σ B c f d x) : σ 197 d = ov x := by
  cases x with
  | none => exact (h.1 rfl).2.2.1
  | some y => obtain ⟨v, o, m, l⟩ := y; exact (h.2 v o m l rfl).2.2.1
/-- the reference's rows of a day, as the plan is -/
def isRw (σ : Mem) (B : Bk) (c : Int) (d : Nat) : Prop := isRd σ B c (fre B c (ovr B c d)) d (dpl B c d (ovr B c d)) ∧ σ 198 d = fre B c (ovr B c d) ∧ σ 199 d = (ahd B c (ovr B c d) : Int)
theorem isRw.keep {σ τ : Mem} {B : Bk} (w : WF B) {c : Int} (hc : 0 ≤ c) (hc2 : c < B 8 1) {d : Nat} (h : isRw σ B c d) (e1 : ∀ x, 195 ≤ x → x ≤ 200 → τ x d = σ x d) (e2 : ∀ x i, 201 ≤ x → x ≤ 202 → 4 * (d : Int) ≤ i → i < 4 * (d : Int) + 4 → τ x i = σ x i) : isRw τ B c d := by
  refine ⟨⟨fun h0 => ?_, fun v o m l h0 => ?_⟩, by rw [e1 198 (by decide) (by decide)]; exact h.2.1, by rw [e1 199 (by decide) (by decide)]; exact h.2.2⟩
  · rw [e1 195 (by decide) (by decide), e1 196 (by decide) (by decide), e1 197 (by decide) (by decide), e1 200 (by decide) (by decide)]
    exact h.1.1 h0
  · rw [e1 195 (by decide) (by decide), e1 196 (by decide) (by decide), e1 197 (by decide) (by decide), e1 200 (by decide) (by decide)]
    have h4 := (dpl_some w hc hc2 h0).1.2.1
    obtain ⟨z1, z2, z3, z4, z5⟩ := h.1.2 v o m l h0
    refine ⟨z1, z2, z3, z4, fun k hk => ?_⟩
    rw [e2 201 _ (by decide) (by decide) (by omega) (by omega), e2 202 _ (by decide) (by decide) (by omega) (by omega)]
    exact z5 k hk
theorem X11_try {σ : Mem} {B : Bk} {c f o d : Int} {m a : Nat} (hR : isRk σ 182 B) (w : WF B) (hm : okm B m) (hc : 0 ≤ c) (hc2 : c < B 8 1) (hf : 0 ≤ f ∧ f ≤ 60) (ha : a ≤ 48) (hd : 0 ≤ d ∧ d < 5) (ho : -1 ≤ o ∧ o < B 8 0) (h190 : σ 198 d = f) (h191 : σ 199 d = a) {x0 : Option (Int × Tr)} (hx0 : isRd σ B c f d x0) :
    ∃ τ, f_X11_tries σ c d m o = some τ ∧ pfr σ τ d ∧ τ 198 d = f ∧ τ 199 d = a ∧ isRd τ B c f d (bst (lwD B c f a) (msD B c f a) (its o m) x0) := by
  obtain ⟨τ, h1, h2, h3, h4, h5⟩ := X11_tries hR w hm hc hc2 hf ha hd ho h190 h191 hx0
  unfold trS at h2
  refine ⟨τ, h1, ⟨fun x hx => h2 x (by omega), fun x e g1 g2 g3 => ?_, fun x i g1 g2 g3 => ?_⟩, by rw [h2 198 (by decide), h190], by rw [h2 199 (by decide), h191], h5⟩
  · obtain ⟨z1, z2, z3, z4⟩ := h3 e g3
    by_cases e0 : x = 195
    · subst e0; exact z1
    by_cases e1 : x = 196
    · subst e1; exact z2
    by_cases e2 : x = 197
    · subst e2; exact z3
    by_cases e3 : x = 200
    · subst e3; exact z4
    rw [h2 x (by omega)]
  · obtain ⟨z1, z2⟩ := h4 i g3
    by_cases e0 : x = 201
    · subst e0; exact z1
    have : x = 202 := by omega
    subst this; exact z2
theorem X11_plans {σ : Mem} {B : Bk} (hR : isRk σ 182 B) (w : WF B) {c : Int} (hc : 0 ≤ c) (hc2 : c < B 8 1) : ∃ τ, f_X11_plans σ c = some τ ∧ (∀ x, ¬ (192 ≤ x ∧ x ≤ 202) → τ x = σ x) ∧ ∀ d : Nat, d < 5 → isRw τ B c d := by
  have hn := w.1
  unfold WFn at hn
  unfold f_X11_plans f_X11_plans_2
  obtain ⟨τ, g1, g2, g3⟩ := loop_ex (f := f_X11_plans_2B c) (fun s => ∃ d : Nat, s.1 = (d : Int) ∧ d ≤ 5 ∧ (∀ x, ¬ (192 ≤ x ∧ x ≤ 202) → s.2 x = σ x) ∧ ∀ e : Nat, e < d → isRw s.2 B c e) (fun s => (5 - s.1).toNat) (fun τ => (∀ x, ¬ (192 ≤ x ∧ x ≤ 202) → τ x = σ x) ∧ ∀ e : Nat, e < 5 → isRw τ B c e) (a := (0, σ)) ⟨0, rfl, by omega, fun _ _ => rfl, fun e he => absurd he (Nat.not_lt_zero _)⟩ (Nat.le_of_ble_eq_true rfl) (by
    rintro ⟨_, τ⟩ ⟨d, rfl, hd, k1, k2⟩
    have k1 : ∀ x, ¬ (192 ≤ x ∧ x ≤ 202) → τ x = σ x := k1
    have k2 : ∀ e : Nat, e < d → isRw τ B c e := k2
    show (∃ a', f_X11_plans_2C c (d : Int) τ = _ ∧ _) ∨ ∃ a', f_X11_plans_2C c (d : Int) τ = _ ∧ _
    unfold f_X11_plans_2C
    by_cases hd5 : (5 : Int) ≤ d
    · right
      rw [if_pos hd5]
      have : d = 5 := by omega
      subst this
      exact ⟨_, rfl, k1, k2⟩
    · left
      rw [if_neg hd5]
      have hRt : isRk τ 182 B := hR.row (k1 182 (by decide))
      obtain ⟨o, eo⟩ : ∃ o, o = ovr B c d := ⟨_, rfl⟩
      have ho := ovr_b w hc hc2 d
      have hf := fre_b w hc hc2 ho.2
      have ha := ahd_b w hc hc2 ho.2
      have hm := okm_od w hc hc2 d
      have isRw_d : ∀ ρ : Mem, isRw ρ B c d = (isRd ρ B c (fre B c o) d (dpl B c d o) ∧ ρ 198 d = fre B c o ∧ ρ 199 d = (ahd B c o : Int)) := fun ρ => by rw [eo]; rfl
      rw [← eo] at ho hf ha
      have efo : fre B c o = if o < 0 then 0 else tm B c o + rs B c := rfl
      have eao : ahd B c o = if o < 0 then 0 else (tm B c o).toNat := rfl
      have ed : dpl B c d o = match bst (lwD B c (fre B c o) (ahd B c o)) (msD B c (fre B c o) (ahd B c o)) (its (-1) (od B c d)) none with
        | some x => some x
        | none => if B 5 c = 1 ∧ (d : Int) < 4 then ovf B c (fre B c o) (ahd B c o) (od B c d) none 12 else none := rfl
      obtain ⟨f, ef⟩ : ∃ f, f = fre B c o := ⟨_, rfl⟩
      obtain ⟨a, ea⟩ : ∃ a, a = ahd B c o := ⟨_, rfl⟩
      obtain ⟨m, em⟩ : ∃ m, m = od B c d := ⟨_, rfl⟩
      rw [← ef] at hf efo ed
      rw [← ea] at ha eao ed
      rw [← em] at hm ed
      -- the next day
      have next : ∀ ρ : Mem, pfr τ ρ d → isRd ρ B c f d (dpl B c d o) → ρ 198 d = f → ρ 199 d = (a : Int) → ∃ a', f_X11_plans_212 ρ c (d : Int) = some (.inl a') ∧ (∃ d : Nat, a'.1 = (d : Int) ∧ d ≤ 5 ∧ (∀ x, ¬ (192 ≤ x ∧ x ≤ 202) → a'.2 x = σ x) ∧ ∀ e : Nat, e < d → isRw a'.2 B c e) ∧ (5 - a'.1).toNat < (5 - (d : Int)).toNat := fun ρ h1 h2 h3 h5 => by
        unfold f_X11_plans_212
        simp only [Option.bind_some]
        rw [jadd_ok (by omega) (by omega)]
        refine ⟨_, rfl, ⟨d + 1, by show (d : Int) + 1 = _; omega, by omega, fun x hx => by show ρ x = _; rw [h1.1 x hx, k1 x hx], fun e he => ?_⟩, by show (5 - ((d : Int) + 1)).toNat < (5 - (d : Int)).toNat; omega⟩
        show isRw ρ B c e
        by_cases ee : e = d
        · subst ee
          rw [isRw_d, ← ef, ← ea]
          exact ⟨h2, h3, h5⟩
        · exact (k2 e (by omega)).keep w hc hc2 (fun x q1 q2 => h1.2.1 x e q1 q2 (by omega)) (fun x i q1 q2 q3 q4 => h1.2.2 x i q1 q2 (by omega))
      have main : ∀ τ1 : Mem, pfr τ τ1 d → τ1 199 d = (a : Int) → ∃ a', f_X11_plans_69 τ1 c d f d = some (.inl a') ∧ (∃ d : Nat, a'.1 = (d : Int) ∧ d ≤ 5 ∧ (∀ x, ¬ (192 ≤ x ∧ x ≤ 202) → a'.2 x = σ x) ∧ ∀ e : Nat, e < d → isRw a'.2 B c e) ∧ (5 - a'.1).toNat < (5 - (d : Int)).toNat := fun τ1 h1 h191 => by
        unfold f_X11_plans_69
        rw [chk_pos (by omega)]
        simp only [Option.bind_some]
        rw [chk_pos (by omega), chk_pos (by omega), chk_pos (by omega), chk_pos (by omega)]
        obtain ⟨τ2, hτ2⟩ : ∃ z, z = mup (mup (mup (mup (mup τ1 198 d f) 195 d 0) 196 d 0) 197 d (-1)) 200 d 0 := ⟨_, rfl⟩
        rw [← hτ2]
        have p2 : pfr τ τ2 d := by
          rw [hτ2]
          exact (((h1.trans (pfr.mupd (by omega) (by omega))).trans (pfr.mupd (by omega) (by omega))).trans ((pfr.mupd (by omega) (by omega)).trans (pfr.mupd (by omega) (by omega)))).trans (pfr.mupd (by omega) (by omega))
        have a190 : τ2 198 d = f := by rw [hτ2, mup_miss (by omega), mup_miss (by omega), mup_miss (by omega), mup_miss (by omega), mup_hit rfl rfl]
        have a191 : τ2 199 d = (a : Int) := by rw [hτ2, mup_miss (by omega), mup_miss (by omega), mup_miss (by omega), mup_miss (by omega), mup_miss (by omega), h191]
        have a0 : isRd τ2 B c f d none := by
          refine ⟨fun _ => ⟨?_, ?_, ?_, ?_⟩, fun v o m l h => (by cases h)⟩
          · rw [hτ2, mup_miss (by omega), mup_miss (by omega), mup_miss (by omega), mup_hit rfl rfl]
          · rw [hτ2, mup_miss (by omega), mup_miss (by omega), mup_hit rfl rfl]
          · rw [hτ2, mup_miss (by omega), mup_hit rfl rfl]
          · rw [hτ2, mup_hit rfl rfl]
        have hR2 : isRk τ2 182 B := hRt.row (p2.1 182 (by decide))
        rw [bind_some' (X11_ofDay hR2 w hc hc2 d), ← em]
        obtain ⟨τ3, t1, t2, t3, t4, t5⟩ := X11_try hR2 w hm hc hc2 hf ha (by omega) (o := -1) (by omega) a190 a191 a0
        rw [bind_some' t1, chk_pos (by omega)]
        have p3 : pfr τ τ3 d := p2.trans t2
        have hR3 : isRk τ3 182 B := hRt.row (p3.1 182 (by decide))
        cases hb : bst (lwD B c f a) (msD B c f a) (its (-1) m) none with
        | some y =>
          obtain ⟨v, o', m', l'⟩ := y
          have ed2 : dpl B c d o = some (v, (o', m', l')) := by rw [ed, hb]
          rw [hb] at t5
          rw [(t5.2 v o' m' l' rfl).1, if_pos (by decide)]
          exact next τ3 p3 (by rw [ed2]; exact t5) t3 t4
        | none =>
          have ed2 : dpl B c d o = if B 5 c = 1 ∧ (d : Int) < 4 then ovf B c f a m none 12 else none := by rw [ed, hb]
          rw [hb] at t5
          rw [(t5.1 rfl).1, if_neg (by decide), bind_some' (X11_who2 hR3 (by omega))]
          by_cases n1 : B 5 c ≠ 1
          · rw [if_pos n1]
            exact next τ3 p3 (by rw [ed2, if_neg (fun h => n1 h.1)]; exact t5) t3 t4
          have n1 : B 5 c = 1 := by omega
          rw [if_neg (by omega)]
          by_cases d4 : (4 : Int) ≤ d
          · rw [if_pos d4]
            exact next τ3 p3 (by rw [ed2, if_neg (by omega)]; exact t5) t3 t4
          rw [if_neg d4]
          rw [if_pos ⟨n1, by omega⟩] at ed2
          unfold f_X11_plans_142
          have hm1 := hm.1
          obtain ⟨τ4, u1, u2, u3, u4, u5⟩ := loop_ex (f := f_X11_plans_142B c d m) (fun s => ∃ p : Nat, s.1 = (p : Int) ∧ p ≤ 12 ∧ pfr τ s.2 d ∧ s.2 198 d = f ∧ s.2 199 d = (a : Int) ∧ isRd s.2 B c f d (ovf B c f a m none p)) (fun s => (12 - s.1).toNat) (fun τ4 => pfr τ τ4 d ∧ τ4 198 d = f ∧ τ4 199 d = (a : Int) ∧ isRd τ4 B c f d (ovf B c f a m none 12)) (a := (0, τ3)) ⟨0, rfl, by omega, p3, t3, t4, t5⟩ (Nat.le_of_ble_eq_true rfl) (by
            rintro ⟨_, ρ⟩ ⟨p, rfl, hp, q1, q2, q3, q4⟩
            have q1 : pfr τ ρ d := q1
            have q2 : ρ 198 d = f := q2
            have q3 : ρ 199 d = (a : Int) := q3
            have q4 : isRd ρ B c f d (ovf B c f a m none p) := q4
            show (∃ a', f_X11_plans_142C c d m (p : Int) ρ = _ ∧ _) ∨ ∃ a', f_X11_plans_142C c d m (p : Int) ρ = _ ∧ _
            unfold f_X11_plans_142C
            by_cases h12 : (12 : Int) ≤ p
            · right
              rw [if_pos h12]
              have : p = 12 := by omega
              subst this
              exact ⟨_, rfl, q1, q2, q3, q4⟩
            · left
              have hRr : isRk ρ 182 B := hRt.row (q1.1 182 (by decide))
              have e1 : jadd (p : Int) 1 = ((p + 1 : Nat) : Int) := by rw [jadd_ok (by omega) (by omega)]; omega
              have skip : ∀ ρ : Mem, pfr τ ρ d → ρ 198 d = f → ρ 199 d = (a : Int) → isRd ρ B c f d (ovf B c f a m none (p + 1)) → ∃ a', f_X11_plans_206 ρ c d m (p : Int) = some (.inl a') ∧ (∃ p : Nat, a'.1 = (p : Int) ∧ p ≤ 12 ∧ pfr τ a'.2 d ∧ a'.2 198 d = f ∧ a'.2 199 d = (a : Int) ∧ isRd a'.2 B c f d (ovf B c f a m none p)) ∧ (12 - a'.1).toNat < (12 - (p : Int)).toNat := fun ρ h1 h2 h3 h4 => by
                unfold f_X11_plans_206
                rw [e1]
                exact ⟨_, rfl, ⟨p + 1, rfl, by omega, h1, h2, h3, h4⟩, by show (12 - ((p + 1 : Nat) : Int)).toNat < (12 - (p : Int)).toNat; omega⟩
              have eov : ovf B c f a m none (p + 1) = if m.testBit p && decide (tm B c p ≤ B 8 3) then bst (lwD B c f a) (msD B c f a) (its p (clr m p)) (ovf B c f a m none p) else ovf B c f a m none p := rfl
              rw [if_neg h12, jbit (by omega) (by omega)]
              cases hbit : m.testBit p with
              | false =>
                rw [hbit, Bool.false_and, if_neg (by decide)] at eov
                rw [if_pos (by decide)]
                exact skip ρ q1 q2 q3 (by rw [eov]; exact q4)
              | true =>
                have hp2 := hm.2.2 p hbit
                have htm := tm_b w hc hc2 (p := (p : Int)) (by omega) hp2
                rw [if_neg (by decide), bind_some' (X11_timed hRr w hc hc2 (by omega) hp2), if_neg (by omega), bind_some' (X11_timed hRr w hc hc2 (by omega) hp2), chk_pos (by decide), hRr.hours]
                by_cases hh : tm B c p ≤ B 8 3
                rotate_left
                · rw [hbit, decide_eq_false hh, Bool.and_false, if_neg (by decide)] at eov
                  rw [if_pos (by omega)]
                  exact skip ρ q1 q2 q3 (by rw [eov]; exact q4)
                · rw [hbit, decide_eq_true hh, Bool.and_true, if_pos rfl] at eov
                  rw [if_neg (by omega), jclr_n hm1 (by omega)]
                  obtain ⟨ρ2, y1, y2, y3, y4, y5⟩ := X11_try hRr w (hm.clr p) hc hc2 hf ha (by omega) (o := (p : Int)) (by omega) q2 q3 q4
                  rw [bind_some' y1]
                  exact skip ρ2 (q1.trans y2) y3 y4 (by rw [eov]; exact y5))
          rw [bind_some' u1]
          exact next τ4 u2 (by rw [ed2]; exact u5) u3 u4
      have day : ∃ a', f_X11_plans_23 τ c d o = some (.inl a') ∧ (∃ d : Nat, a'.1 = (d : Int) ∧ d ≤ 5 ∧ (∀ x, ¬ (192 ≤ x ∧ x ≤ 202) → a'.2 x = σ x) ∧ ∀ e : Nat, e < d → isRw a'.2 B c e) ∧ (5 - a'.1).toNat < (5 - (d : Int)).toNat := by
        unfold f_X11_plans_23
        by_cases h0 : o < 0
        · rw [if_neg (by omega)]
          unfold f_X11_plans_43
          rw [if_pos h0] at efo eao
          rw [chk_pos (by omega)]
          simp only [Option.bind_some]
          rw [if_neg (by omega)]
          rw [efo] at main
          exact main _ (pfr.mupd (by omega) (by omega)) (by rw [mup_hit rfl rfl, eao]; rfl)
        · have htm := tm_b w hc hc2 (p := o) (by omega) ho.2
          have hrs := rs_b w hc hc2
          rw [if_neg h0] at efo eao
          rw [if_pos (by omega), bind_some' (X11_timed hRt w hc hc2 (by omega) ho.2)]
          unfold f_X11_plans_43
          rw [chk_pos (by omega)]
          simp only [Option.bind_some]
          have hR1 : isRk (mup τ 199 d (tm B c o)) 182 B := hRt.row (mup_row (by decide))
          rw [if_pos (by omega), chk_pos (by omega), bind_some' (X11_rest hR1 w hc hc2), mup_hit rfl rfl, jadd_ok (by omega) (by omega), ← efo]
          exact main _ (pfr.mupd (by omega) (by omega)) (by rw [mup_hit rfl rfl]; omega)
      cases d with
      | zero =>
        rw [if_neg (by decide)]
        have e0 : o = -1 := eo
        rw [e0] at day
        exact day
      | succ d =>
        rw [if_pos (by omega), jsub_ok (by omega) (by omega), chk_pos (by omega), show ((d + 1 : Nat) : Int) - 1 = (d : Int) by omega, isRd_ov (k2 d (by omega)).1, show ov (dpl B c d (ovr B c d)) = o from eo.symm]
        exact day)
  exact ⟨τ, by rw [g1]; rfl, g2, g3⟩
