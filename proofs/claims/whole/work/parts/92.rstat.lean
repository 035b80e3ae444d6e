/-! TEXTS: the reference and a statement -/
def rdO (σ : Mem) (o : St) (r : Option Mem) : Prop := ∃ τ, r = some τ ∧ (∀ x, x ≠ 181 → x ≠ 182 → τ x = σ x) ∧ (∀ i, i ≠ 10 → i ≠ 11 → i ≠ 12 → i ≠ 13 → τ 181 i = σ 181 i) ∧ match o with
  | .inl q => τ 181 13 = (q : Int)
  | .inr y => τ 181 13 = -1 ∧ τ 181 10 = (y.2 : Int) ∧ isRk τ 182 y.1
theorem rdO.tr {σ σ' : Mem} {o : St} {r : Option Mem} (h : rdO σ' o r) (e1 : ∀ x, x ≠ 181 → σ' x = σ x) (e2 : ∀ i, i ≠ 10 → i ≠ 11 → i ≠ 12 → i ≠ 13 → σ' 181 i = σ 181 i) : rdO σ o r := by
  obtain ⟨τ, h1, h2, h3, h4⟩ := h
  exact ⟨τ, h1, fun x x1 x2 => by rw [h2 x x1 x2, e1 x x1], fun i i1 i2 i3 i4 => by rw [h3 i i1 i2 i3 i4, e2 i i1 i2 i3 i4], h4⟩
theorem rdO.no {σ τ : Mem} {q : Nat} (e1 : ∀ x, x ≠ 181 → τ x = σ x) (e2 : ∀ i, i ≠ 10 → i ≠ 11 → i ≠ 12 → i ≠ 13 → τ 181 i = σ 181 i) (h : τ 181 13 = (q : Int)) : rdO σ (.inl q) (some τ) := ⟨τ, rfl, fun x x1 _ => e1 x x1, e2, h⟩
theorem rdO.ok {σ τ : Mem} {B : Bk} {a : Nat} (e1 : ∀ x, x ≠ 182 → τ x = σ x) (h13 : σ 181 13 = -1) (h10 : σ 181 10 = (a : Int)) (hR : isRk τ 182 B) : rdO σ (.inr (B, a)) (some τ) := ⟨τ, rfl, fun x _ x2 => e1 x x2, fun i _ _ _ _ => by rw [e1 181 (by decide)], by rw [e1 181 (by decide)]; exact h13, by rw [e1 181 (by decide)]; exact h10, hR⟩
theorem rdO.bad {σ : Mem} {t : Nat} (h13 : σ 181 13 = -1) (h11 : σ 181 11 = (t : Int)) : rdO σ (.inl t) (f_X11_statement_85 σ) := by
  unfold f_X11_statement_85
  rw [bind_some' (X11_wrong h13), h11]
  exact ⟨_, rfl, fun x x1 _ => mup_row x1, fun i _ _ _ i4 => mup_miss (fun z => i4 z.2), mup_hit rfl rfl⟩
def txR (σ : Mem) (f : Int → Int) (S : Nat) (B : Bk) (a : Nat) : Prop := TR σ f S ∧ isRk σ 182 B ∧ σ 181 10 = (a : Int) ∧ a ≤ S ∧ σ 181 13 = -1
theorem txR.num {σ : Mem} {f : Int → Int} {S : Nat} {B : Bk} {a : Nat} (h : txR σ f S B a) (lo hi : Int) : ∃ τ, f_X11_number σ lo hi = some τ ∧ (∀ x, x ≠ 181 → τ x = σ x) ∧ (∀ i, i ≠ 10 → i ≠ 11 → i ≠ 12 → i ≠ 13 → τ 181 i = σ 181 i) ∧ τ 181 11 = (nb f S a : Int) ∧ ((∃ q : Nat, nm f S lo hi a = .inl q ∧ τ 181 13 = (q : Int)) ∨ ∃ y, nm f S lo hi a = .inr y ∧ lo ≤ y.1 ∧ y.1 ≤ hi ∧ a < y.2 ∧ τ 181 12 = y.1 ∧ txR τ f S B y.2) := by
  obtain ⟨hT, hR, h10, ha, h13⟩ := h
  obtain ⟨τ, a1, a2, a3, a4, a5⟩ := X11_number hT ha h10 h13 lo hi
  refine ⟨τ, a1, a2, a3, a4, ?_⟩
  cases hn : nm f S lo hi a with
  | inl q =>
    rw [hn] at a5
    exact Or.inl ⟨q, rfl, a5⟩
  | inr y =>
    rw [hn] at a5
    obtain ⟨n1, n2, n3, n4⟩ := nmr hn ha
    exact Or.inr ⟨y, rfl, n1, n2, n3, a5.2.1, hT.keep (a3 9 (by decide) (by decide) (by decide) (by decide)) (a2 189 (by decide)) (a2 190 (by decide)), hR.row (a2 182 (by decide)), a5.2.2, n4, a5.1⟩
theorem X11_436 {σ : Mem} {B : Bk} (hR : isRk σ 182 B) (h : 0 ≤ B 8 2 ∧ B 8 2 ≤ 6) : ∃ ρ, f_X11_statement_436 σ 0 (σ 182 84) 84 = some ρ ∧ isRk ρ 182 B ∧ ∀ x, x ≠ 182 → ρ x = σ x := by
  have h84 := hR.nR
  refine ⟨mup σ 182 84 (σ 182 84), ?_, ?_, fun x hx => mup_row hx⟩
  · unfold f_X11_statement_436
    rw [chk_pos (by decide), bsm, jadd_ok (by omega) (by omega), Int.add_zero]
  · refine hR.pt fun i => ?_
    by_cases e : i = 84
    · rw [mup_hit rfl e, e]
    · rw [mup_miss (fun z => e z.2)]
theorem X11_417 {σ ρ : Mem} {B' : Bk} {x1 s2 s1 : Int} (h5 : x1 ≠ 5) (hs : 0 ≤ s1 ∧ s1 < 88) (hρ : ρ = mup σ 182 s1 s2) (hR : isRk ρ 182 B') (h : 0 ≤ B' 8 2 ∧ B' 8 2 ≤ 6) : ∃ τ, f_X11_statement_417 σ x1 s2 s1 = some τ ∧ isRk τ 182 B' ∧ ∀ x, x ≠ 182 → τ x = σ x := by
  obtain ⟨τ, a1, a2, a3⟩ := X11_436 hR h
  refine ⟨τ, ?_, a2, fun x hx => by rw [a3 x hx, hρ, mup_row hx]⟩
  unfold f_X11_statement_417
  rw [chk_pos (by omega), bsm, ← hρ, chk_pos (by decide), if_pos h5, a1]
theorem r_hours {σ : Mem} {f : Int → Int} {S : Nat} {B : Bk} (w : WF B) {e : Nat} (h : txR σ f S B e) : rdO σ (stH f S B e) (f_X11_statement_170 σ 6 40 8) := by
  have hn := w.1
  unfold WFn at hn
  obtain ⟨τ, a1, a2, a3, a4, a5⟩ := h.num 8 40
  unfold f_X11_statement_170 stH
  rw [bind_some' a1, bsm, if_pos (show (6 : Int) ≠ 0 by decide), if_pos (show (6 : Int) ≠ 1 by decide), if_neg (show ¬ (6 : Int) = 2 by decide), if_pos (show (6 : Int) ≠ 3 by decide)]
  rcases a5 with ⟨q, n1, n3⟩ | ⟨y, n1, n3, n4, n5, n2, n6⟩
  · rw [n1, if_pos (by omega)]
    exact .no a2 a3 n3
  · obtain ⟨hT, hR, h10, hy, h13⟩ := n6
    rw [n1, if_neg (by omega), if_pos (show (6 : Int) ≠ 4 by decide), if_pos (show (6 : Int) ≠ 5 by decide), if_neg (show ¬ (6 : Int) ≠ 6 by decide), n2]
    unfold f_X11_statement_407
    rw [if_pos (show (6 : Int) ≠ 4 by decide)]
    have e8 : mup B 8 3 y.1 8 2 = B 8 2 := mup_miss (by decide)
    obtain ⟨ρ, b1, b2, b3⟩ := X11_417 (σ := τ) (x1 := 6) (s2 := y.1) (s1 := 85) (by decide) (by decide) rfl (hR.putn (i := 3) (by decide)) (by rw [e8]; exact hn.2.2.1)
    rw [b1]
    exact rdO.tr (.ok b3 h13 h10 b2) a2 a3
theorem r_turn {σ : Mem} {f : Int → Int} {S : Nat} {B : Bk} (w : WF B) {e : Nat} (h : txR σ f S B e) : rdO σ (stU f S B e) (f_X11_statement_170 σ 7 8 0) := by
  have hn := w.1
  unfold WFn at hn
  obtain ⟨τ, a1, a2, a3, a4, a5⟩ := h.num 0 8
  unfold f_X11_statement_170 stU
  rw [bind_some' a1, bsm, if_pos (show (7 : Int) ≠ 0 by decide), if_pos (show (7 : Int) ≠ 1 by decide), if_neg (show ¬ (7 : Int) = 2 by decide), if_pos (show (7 : Int) ≠ 3 by decide)]
  rcases a5 with ⟨q, n1, n3⟩ | ⟨y, n1, n3, n4, n5, n2, n6⟩
  · rw [n1, if_pos (by omega)]
    exact .no a2 a3 n3
  · obtain ⟨hT, hR, h10, hy, h13⟩ := n6
    rw [n1, if_neg (by omega), if_pos (show (7 : Int) ≠ 4 by decide), if_pos (show (7 : Int) ≠ 5 by decide), if_pos (show (7 : Int) ≠ 6 by decide), n2]
    unfold f_X11_statement_407
    rw [if_pos (show (7 : Int) ≠ 4 by decide)]
    have e8 : mup B 8 4 y.1 8 2 = B 8 2 := mup_miss (by decide)
    obtain ⟨ρ, b1, b2, b3⟩ := X11_417 (σ := τ) (x1 := 7) (s2 := y.1) (s1 := 86) (by decide) (by decide) rfl (hR.putn (i := 4) (by decide)) (by rw [e8]; exact hn.2.2.1)
    rw [b1]
    exact rdO.tr (.ok b3 h13 h10 b2) a2 a3
theorem r_night {σ : Mem} {f : Int → Int} {S : Nat} {B : Bk} (w : WF B) {e : Nat} (h : txR σ f S B e) : rdO σ (stN f S B e) (f_X11_statement_170 σ 4 (B 8 1 - 1) 0) := by
  have hn := w.1
  unfold WFn at hn
  obtain ⟨τ, a1, a2, a3, a4, a5⟩ := h.num 0 (B 8 1 - 1)
  unfold f_X11_statement_170 stN
  rw [bind_some' a1, bsm, if_pos (show (4 : Int) ≠ 0 by decide), if_pos (show (4 : Int) ≠ 1 by decide), if_neg (show ¬ (4 : Int) = 2 by decide), if_pos (show (4 : Int) ≠ 3 by decide)]
  rcases a5 with ⟨q, n1, n3⟩ | ⟨y, n1, n3, n4, n5, n2, n6⟩
  · rw [n1, if_pos (by omega)]
    exact .no a2 a3 n3
  · obtain ⟨hT, hR, h10, hy, h13⟩ := n6
    have hv : jadd (jadd 36 (jmul 4 y.1)) 2 = 36 + 4 * y.1 + 2 := by rw [jmul_ok (by omega) (by omega), jadd_ok (a := 36) (by omega) (by omega), jadd_ok (by omega) (by omega)]
    rw [n1, if_neg (by omega), if_neg (show ¬ (4 : Int) ≠ 4 by decide), n2, hv]
    unfold f_X11_statement_407
    rw [if_neg (show ¬ (4 : Int) ≠ 4 by decide)]
    have e8 : mup B 5 y.1 1 8 2 = B 8 2 := mup_miss (by omega)
    obtain ⟨ρ, b1, b2, b3⟩ := X11_417 (σ := τ) (x1 := 4) (s2 := 1) (s1 := 36 + 4 * y.1 + 2) (by decide) (by omega) rfl (hR.put4 (t := 2) (by decide) (by omega)) (by rw [show (3 : Int) + 2 = 5 from rfl, e8]; exact hn.2.2.1)
    rw [b1]
    exact rdO.tr (.ok b3 h13 h10 b2) a2 a3
theorem r_room {σ : Mem} {f : Int → Int} {S : Nat} {B : Bk} (w : WF B) (h6 : ¬ 6 ≤ B 8 2) {e t : Nat} (h : txR σ f S B e) : rdO σ (stR f S B e t) (f_X11_statement_170 σ 5 9 1) := by
  have hn := w.1
  unfold WFn at hn
  obtain ⟨τ, a1, a2, a3, a4, a5⟩ := h.num 1 9
  unfold f_X11_statement_170 stR
  rw [if_neg h6, bind_some' a1, bsm, if_pos (show (5 : Int) ≠ 0 by decide), if_pos (show (5 : Int) ≠ 1 by decide), if_neg (show ¬ (5 : Int) = 2 by decide), if_pos (show (5 : Int) ≠ 3 by decide)]
  rcases a5 with ⟨q, n1, n3⟩ | ⟨y, n1, n3, n4, n5, n2, n6⟩
  · rw [n1, if_pos (by omega)]
    exact .no a2 a3 n3
  · obtain ⟨hT, hR, h10, hy, h13⟩ := n6
    rw [n1, if_neg (by omega), if_pos (show (5 : Int) ≠ 4 by decide), if_neg (show ¬ (5 : Int) ≠ 5 by decide), chk_pos (by decide), n2, hR.nR, jadd_ok (by omega) (by omega)]
    unfold f_X11_statement_407 f_X11_statement_417 f_X11_statement_436
    have k1 := hR.put7 (i := B 8 2) (v := y.1) (by omega)
    have k2 := k1.putn (i := 2) (v := B 8 2 + 1) (by decide)
    have n84 := hR.nR
    rw [if_pos (show (5 : Int) ≠ 4 by decide), chk_pos (by omega), bsm, chk_pos (by decide), if_neg (show ¬ (5 : Int) ≠ 5 by decide), chk_pos (by decide), bsm, mup_miss (by omega), n84, jadd_ok (by omega) (by omega)]
    exact rdO.tr (.ok (fun x hx => by rw [mup_row hx, mup_row hx]) h13 h10 k2) a2 a3
theorem r_cand {σ : Mem} {f : Int → Int} {S : Nat} {B : Bk} (w : WF B) (h6 : ¬ 10 ≤ B 8 1) {e t : Nat} (h : txR σ f S B e) : rdO σ (stC f S B e t) (f_X11_statement_170 σ 1 5 0) := by
  obtain ⟨τ, a1, a2, a3, a4, a5⟩ := h.num 0 5
  unfold f_X11_statement_170 stC
  rw [if_neg h6, bind_some' a1, bsm, if_pos (show (1 : Int) ≠ 0 by decide), if_neg (show ¬ (1 : Int) ≠ 1 by decide)]
  rcases a5 with ⟨q, n1, n3⟩ | ⟨y, n1, n3, n4, n5, n2, n6⟩
  · rw [n1, bind_some' (X11_num0 (by omega) 0 9), if_pos (by omega)]
    exact .no a2 a3 n3
  obtain ⟨τ', b1, b2, b3, b4, b5⟩ := n6.num 0 9
  rw [n1, bind_some' b1, n2]
  show rdO σ (match nm f S 0 9 y.2 with | .inl q => .inl q | .inr a => _) _
  rcases b5 with ⟨q, m1, m3⟩ | ⟨z, m1, m3, m4, m5, m2, m6⟩
  · rw [m1, if_pos (by omega)]
    exact rdO.tr (.no b2 b3 m3) a2 a3
  · obtain ⟨hT, hR, h10, hy, h13⟩ := m6
    obtain ⟨ρ, r1, r2, r3⟩ := X11_cand_ok hR w (by omega) (k := y.1) (a := z.1) (by omega) (by omega)
    rw [m1, if_neg (by omega), m2, bind_some' r1]
    exact rdO.tr (rdO.tr (.ok r3 h13 h10 r2) b2 b3) a2 a3
theorem r_paper {σ : Mem} {f : Int → Int} {S : Nat} {B : Bk} (w : WF B) (h6 : ¬ 12 ≤ B 8 0) {e t : Nat} (h : txR σ f S B e) : rdO σ (stP f S B e t) (f_X11_statement_170 σ 0 4 0) := by
  obtain ⟨τ, a1, a2, a3, a4, a5⟩ := h.num 0 4
  unfold f_X11_statement_170 stP
  rw [if_neg h6, bind_some' a1, bsm, if_neg (show ¬ (0 : Int) ≠ 0 by decide)]
  rcases a5 with ⟨q, n1, n3⟩ | ⟨y, n1, n3, n4, n5, n2, n6⟩
  · rw [n1, bind_some' (X11_num0 (by omega) 0 47), bsm, bind_some' (X11_num0 (by omega) 1 12), if_pos (by omega)]
    exact .no a2 a3 n3
  obtain ⟨τ', b1, b2, b3, b4, b5⟩ := n6.num 0 47
  rw [n1, bind_some' b1, bsm, n2]
  show rdO σ (match nm f S 0 47 y.2 with | .inl q => .inl q | .inr a => _) _
  rcases b5 with ⟨q, m1, m3⟩ | ⟨z, m1, m3, m4, m5, m2, m6⟩
  · rw [m1, bind_some' (X11_num0 (by omega) 1 12), if_pos (by omega)]
    exact rdO.tr (.no b2 b3 m3) a2 a3
  obtain ⟨τ'', c1, c2, c3, c4, c5⟩ := m6.num 1 12
  rw [m1, bind_some' c1, m2]
  show rdO σ (match nm f S 1 12 z.2 with | .inl q => .inl q | .inr a => _) _
  rcases c5 with ⟨q, k1, k3⟩ | ⟨u, k1, k3, k4, k5, k2, k6⟩
  · rw [k1, if_pos (by omega)]
    exact rdO.tr (rdO.tr (.no c2 c3 k3) b2 b3) a2 a3
  · obtain ⟨hT, hR, h10, hy, h13⟩ := k6
    obtain ⟨ρ, r1, r2, r3⟩ := X11_paper_ok hR w (by omega) (d := y.1) (s := z.1) (l := u.1) (by omega) (by omega) (by omega)
    rw [k1, if_neg (by omega), k2, bind_some' r1]
    exact rdO.tr (rdO.tr (rdO.tr (.ok r3 h13 h10 r2) c2 c3) b2 b3) a2 a3
theorem r_takes {σ : Mem} {f : Int → Int} {S : Nat} {B : Bk} (w : WF B) {e : Nat} (h : txR σ f S B e) : rdO σ (stT f S B e) (f_X11_statement_170 σ 2 (B 8 1 - 1) 0) := by
  have hn := w.1
  unfold WFn at hn
  have dn : ∀ (ρ : Mem) (v : Int), 0 ≤ ρ 181 13 → f_X11_statement_308 ρ 2 v = some ρ := fun ρ v h => by
    unfold f_X11_statement_308
    rw [if_pos h]
  obtain ⟨τ, a1, a2, a3, a4, a5⟩ := h.num 0 (B 8 1 - 1)
  unfold f_X11_statement_170 stT
  rw [bind_some' a1, bsm, if_pos (show (2 : Int) ≠ 0 by decide), if_pos (show (2 : Int) ≠ 1 by decide), if_pos (show (2 : Int) = 2 from rfl)]
  unfold f_X11_statement_266
  rw [chk_pos (by decide)]
  rcases a5 with ⟨q, n1, n3⟩ | ⟨y, n1, n3, n4, n5, n2, n6⟩
  · rw [n1, bind_some' (X11_num0 (by omega) 0 _), if_pos (by omega), dn _ _ (by omega)]
    exact .no a2 a3 n3
  obtain ⟨τ', b1, b2, b3, b4, b5⟩ := n6.num 0 (B 8 0 - 1)
  rw [n1, n6.2.1.nP, jsub_ok (by omega) (by omega), bind_some' b1, n2]
  show rdO σ (match nm f S 0 (B 8 0 - 1) y.2 with | .inl q => .inl q | .inr a => _) _
  rcases b5 with ⟨q, m1, m3⟩ | ⟨z, m1, m3, m4, m5, m2, m6⟩
  · rw [m1, if_pos (by omega), dn _ _ (by omega)]
    exact rdO.tr (.no b2 b3 m3) a2 a3
  obtain ⟨hT, hR, h10, hy, h13⟩ := m6
  obtain ⟨p, hp⟩ := n_of m3
  rw [m1]
  show rdO σ (if tk B y.1 z.1.toNat = true then _ else _) _
  rw [hp, Int.toNat_natCast]
  rw [hp] at m2
  rw [if_neg (show ¬ 0 ≤ τ' 181 13 by omega), if_neg (show ¬ (2 : Int) ≠ 2 by decide), m2, bind_some' (X11_isFifth hR w n3 (by omega) (by omega))]
  have has := X11_has hR w n3 (show y.1 < B 8 1 by omega) (p := p) (by omega)
  cases hk : tk B y.1 p with
  | true =>
    have hf : fifth B y.1 p = false := by unfold fifth; rw [hk]; rfl
    rw [hk, bt] at has
    rw [bt, hf, bf, if_pos (show (0 : Int) = 0 from rfl)]
    unfold f_X11_statement_308 f_X11_statement_334
    rw [if_neg (show ¬ 0 ≤ τ' 181 13 by omega), m2, bind_some' has, if_neg (show ¬ (2 : Int) ≠ 2 by decide), if_pos (show (1 : Int) = 1 from rfl)]
    exact rdO.tr (rdO.tr (.ok (fun _ _ => rfl) h13 h10 hR) b2 b3) a2 a3
  | false =>
    cases hf : fifth B y.1 p with
    | true =>
      rw [bt, bf, bt, if_neg (show ¬ (1 : Int) = 0 by decide), bind_some' (X11_wrong h13), b4, dn _ _ (by rw [mup_hit rfl rfl]; omega)]
      exact rdO.tr (rdO.tr (.no (fun x hx => mup_row hx) (fun i _ _ _ i4 => mup_miss (fun z => i4 z.2)) (mup_hit rfl rfl)) b2 b3) a2 a3
    | false =>
      obtain ⟨ρ, r1, r2, r3, -⟩ := X11_flip hR w n3 (show y.1 < B 8 1 by omega) (p := p) (by omega)
      rw [hk, bf] at has
      rw [bf, bf, bf, if_pos (show (0 : Int) = 0 from rfl)]
      unfold f_X11_statement_308 f_X11_statement_334
      rw [if_neg (show ¬ 0 ≤ τ' 181 13 by omega), m2, bind_some' has, if_neg (show ¬ (2 : Int) ≠ 2 by decide), if_neg (show ¬ (0 : Int) = 1 by decide), bind_some' r1]
      exact rdO.tr (rdO.tr (.ok r3 h13 h10 r2) b2 b3) a2 a3
theorem r_drops {σ : Mem} {f : Int → Int} {S : Nat} {B : Bk} (w : WF B) {e : Nat} (h : txR σ f S B e) : rdO σ (stD f S B e) (f_X11_statement_170 σ 3 (B 8 1 - 1) 0) := by
  have hn := w.1
  unfold WFn at hn
  have dn : ∀ (ρ : Mem) (v : Int), 0 ≤ ρ 181 13 → f_X11_statement_308 ρ 3 v = some ρ := fun ρ v h => by
    unfold f_X11_statement_308
    rw [if_pos h]
  obtain ⟨τ, a1, a2, a3, a4, a5⟩ := h.num 0 (B 8 1 - 1)
  unfold f_X11_statement_170 stD
  rw [bind_some' a1, bsm, if_pos (show (3 : Int) ≠ 0 by decide), if_pos (show (3 : Int) ≠ 1 by decide), if_neg (show ¬ (3 : Int) = 2 by decide), if_neg (show ¬ (3 : Int) ≠ 3 by decide)]
  unfold f_X11_statement_266
  rw [chk_pos (by decide)]
  rcases a5 with ⟨q, n1, n3⟩ | ⟨y, n1, n3, n4, n5, n2, n6⟩
  · rw [n1, bind_some' (X11_num0 (by omega) 0 _), if_pos (by omega), dn _ _ (by omega)]
    exact .no a2 a3 n3
  obtain ⟨τ', b1, b2, b3, b4, b5⟩ := n6.num 0 (B 8 0 - 1)
  rw [n1, n6.2.1.nP, jsub_ok (by omega) (by omega), bind_some' b1, n2]
  show rdO σ (match nm f S 0 (B 8 0 - 1) y.2 with | .inl q => .inl q | .inr a => _) _
  rcases b5 with ⟨q, m1, m3⟩ | ⟨z, m1, m3, m4, m5, m2, m6⟩
  · rw [m1, if_pos (by omega), dn _ _ (by omega)]
    exact rdO.tr (.no b2 b3 m3) a2 a3
  obtain ⟨hT, hR, h10, hy, h13⟩ := m6
  obtain ⟨p, hp⟩ := n_of m3
  rw [m1]
  show rdO σ (if tk B y.1 z.1.toNat = true then _ else _) _
  rw [hp, Int.toNat_natCast]
  rw [hp] at m2
  have has := X11_has hR w n3 (show y.1 < B 8 1 by omega) (p := p) (by omega)
  rw [if_neg (show ¬ 0 ≤ τ' 181 13 by omega), if_pos (show (3 : Int) ≠ 2 by decide)]
  unfold f_X11_statement_308 f_X11_statement_334
  rw [if_neg (show ¬ 0 ≤ τ' 181 13 by omega), m2, bind_some' has, if_pos (show (3 : Int) ≠ 2 by decide)]
  cases hk : tk B y.1 p with
  | true =>
    obtain ⟨ρ, r1, r2, r3, -⟩ := X11_flip hR w n3 (show y.1 < B 8 1 by omega) (p := p) (by omega)
    rw [bt, bt, if_neg (show ¬ (1 : Int) = 0 by decide), bind_some' r1]
    exact rdO.tr (rdO.tr (.ok r3 h13 h10 r2) b2 b3) a2 a3
  | false =>
    rw [bf, bf, if_pos (show (0 : Int) = 0 from rfl)]
    exact rdO.tr (rdO.tr (.ok (fun _ _ => rfl) h13 h10 hR) b2 b3) a2 a3
def dsp (σ : Mem) (v3 : Int) : Option Mem := (if v3 ≠ 0 then (if v3 ≠ (1 : Int) then (if v3 ≠ (5 : Int) then (f_X11_statement_71 σ v3) else (chk (0 ≤ (84 : Int) ∧ (84 : Int) < ((88 : Nat) : Int)) (if (6 : Int) ≤ (σ (182 : Int) (84 : Int)) then (f_X11_statement_76 σ v3 (0 : Int)) else (f_X11_statement_71 σ v3)))) else (chk (0 ≤ (83 : Int) ∧ (83 : Int) < ((88 : Nat) : Int)) (if (10 : Int) ≤ (σ (182 : Int) (83 : Int)) then (f_X11_statement_76 σ v3 (0 : Int)) else (f_X11_statement_76 σ v3 (1 : Int))))) else (chk (0 ≤ (82 : Int) ∧ (82 : Int) < ((88 : Nat) : Int)) (if (12 : Int) ≤ (σ (182 : Int) (82 : Int)) then (f_X11_statement_76 σ v3 (0 : Int)) else (f_X11_statement_76 σ v3 (1 : Int)))))
theorem st_dsp (σ : Mem) : f_X11_statement σ = (f_X11_word σ).bind fun v1 => dsp v1.2 v1.1 := rfl
theorem X11_dsp {σ : Mem} {f : Int → Int} {S : Nat} {B : Bk} (w : WF B) {e t : Nat} (h : txR σ f S B e) (h11 : σ 181 11 = (t : Int)) {p : Nat → Bool} : rdO σ (stW f S B e t (wdx p)) (dsp σ (oI (wdx p))) := by
  have hn := w.1
  unfold WFn at hn
  have h13 := h.2.2.2.2
  have hR := h.2.1
  rcases wdx_cases p with ⟨i, hi, -, h2⟩ | ⟨-, h2⟩
  rotate_left
  · rw [h2]
    show rdO σ (.inl t) (dsp σ (-1))
    unfold dsp f_X11_statement_71 f_X11_statement_76
    rw [if_pos (show (-1 : Int) ≠ 0 by decide), if_pos (show (-1 : Int) ≠ 1 by decide), if_pos (show (-1 : Int) ≠ 5 by decide), if_pos (show (-1 : Int) < 0 by decide)]
    exact .bad h13 h11
  rw [h2]
  rcases (show i = 0 ∨ i = 1 ∨ i = 2 ∨ i = 3 ∨ i = 4 ∨ i = 5 ∨ i = 6 ∨ i = 7 by omega) with q | q | q | q | q | q | q | q
  · subst q
    show rdO σ (stP f S B e t) (dsp σ 0)
    unfold dsp f_X11_statement_76 f_X11_statement_112
    rw [if_neg (show ¬ (0 : Int) ≠ 0 by decide), chk_pos (by decide), hR.nP]
    by_cases c : 12 ≤ B 8 0
    · rw [if_pos c, if_neg (show ¬ (0 : Int) < 0 by decide)]
      unfold stP
      rw [if_pos c]
      exact .bad h13 h11
    · rw [if_neg c, if_neg (show ¬ (0 : Int) < 0 by decide), if_pos (show (1 : Int) ≠ 0 by decide), if_pos (show (0 : Int) ≠ 5 by decide), if_pos (show (0 : Int) ≠ 6 by decide), if_neg (show ¬ (0 : Int) ≠ 0 by decide)]
      exact r_paper w c h
  · subst q
    show rdO σ (stC f S B e t) (dsp σ 1)
    unfold dsp f_X11_statement_76 f_X11_statement_112
    rw [if_pos (show (1 : Int) ≠ 0 by decide), if_neg (show ¬ (1 : Int) ≠ 1 by decide), chk_pos (by decide), hR.nC]
    by_cases c : 10 ≤ B 8 1
    · rw [if_pos c, if_neg (show ¬ (1 : Int) < 0 by decide), if_neg (show ¬ (0 : Int) ≠ 0 by decide)]
      unfold stC
      rw [if_pos c]
      exact .bad h13 h11
    · rw [if_neg c, if_neg (show ¬ (1 : Int) < 0 by decide), if_pos (show (1 : Int) ≠ 0 by decide), if_pos (show (1 : Int) ≠ 5 by decide), if_pos (show (1 : Int) ≠ 6 by decide), if_pos (show (1 : Int) ≠ 0 by decide), if_neg (show ¬ (1 : Int) ≠ 1 by decide)]
      exact r_cand w c h
  · subst q
    show rdO σ (stT f S B e) (dsp σ 2)
    unfold dsp f_X11_statement_71 f_X11_statement_76 f_X11_statement_112
    rw [if_pos (show (2 : Int) ≠ 0 by decide), if_pos (show (2 : Int) ≠ 1 by decide), if_pos (show (2 : Int) ≠ 5 by decide), if_neg (show ¬ (2 : Int) < 0 by decide), if_pos (show (1 : Int) ≠ 0 by decide), if_pos (show (2 : Int) ≠ 5 by decide), if_pos (show (2 : Int) ≠ 6 by decide), if_pos (show (2 : Int) ≠ 0 by decide), if_pos (show (2 : Int) ≠ 1 by decide), if_pos (show (2 : Int) ≠ 5 by decide), if_pos (show (2 : Int) ≠ 6 by decide), if_pos (show (2 : Int) ≠ 7 by decide), chk_pos (by decide), hR.nC, jsub_ok (by omega) (by omega)]
    exact r_takes w h
  · subst q
    show rdO σ (stD f S B e) (dsp σ 3)
    unfold dsp f_X11_statement_71 f_X11_statement_76 f_X11_statement_112
    rw [if_pos (show (3 : Int) ≠ 0 by decide), if_pos (show (3 : Int) ≠ 1 by decide), if_pos (show (3 : Int) ≠ 5 by decide), if_neg (show ¬ (3 : Int) < 0 by decide), if_pos (show (1 : Int) ≠ 0 by decide), if_pos (show (3 : Int) ≠ 5 by decide), if_pos (show (3 : Int) ≠ 6 by decide), if_pos (show (3 : Int) ≠ 0 by decide), if_pos (show (3 : Int) ≠ 1 by decide), if_pos (show (3 : Int) ≠ 5 by decide), if_pos (show (3 : Int) ≠ 6 by decide), if_pos (show (3 : Int) ≠ 7 by decide), chk_pos (by decide), hR.nC, jsub_ok (by omega) (by omega)]
    exact r_drops w h
  · subst q
    show rdO σ (stN f S B e) (dsp σ 4)
    unfold dsp f_X11_statement_71 f_X11_statement_76 f_X11_statement_112
    rw [if_pos (show (4 : Int) ≠ 0 by decide), if_pos (show (4 : Int) ≠ 1 by decide), if_pos (show (4 : Int) ≠ 5 by decide), if_neg (show ¬ (4 : Int) < 0 by decide), if_pos (show (1 : Int) ≠ 0 by decide), if_pos (show (4 : Int) ≠ 5 by decide), if_pos (show (4 : Int) ≠ 6 by decide), if_pos (show (4 : Int) ≠ 0 by decide), if_pos (show (4 : Int) ≠ 1 by decide), if_pos (show (4 : Int) ≠ 5 by decide), if_pos (show (4 : Int) ≠ 6 by decide), if_pos (show (4 : Int) ≠ 7 by decide), chk_pos (by decide), hR.nC, jsub_ok (by omega) (by omega)]
    exact r_night w h
  · subst q
    show rdO σ (stR f S B e t) (dsp σ 5)
    unfold dsp f_X11_statement_71 f_X11_statement_76 f_X11_statement_112
    rw [if_pos (show (5 : Int) ≠ 0 by decide), if_pos (show (5 : Int) ≠ 1 by decide), if_neg (show ¬ (5 : Int) ≠ 5 by decide), chk_pos (by decide), hR.nR]
    by_cases c : 6 ≤ B 8 2
    · rw [if_pos c, if_neg (show ¬ (5 : Int) < 0 by decide), if_neg (show ¬ (0 : Int) ≠ 0 by decide)]
      unfold stR
      rw [if_pos c]
      exact .bad h13 h11
    · rw [if_neg c, if_neg (show ¬ (5 : Int) < 0 by decide), if_pos (show (1 : Int) ≠ 0 by decide), if_neg (show ¬ (5 : Int) ≠ 5 by decide), if_pos (show (5 : Int) ≠ 0 by decide), if_pos (show (5 : Int) ≠ 1 by decide), if_neg (show ¬ (5 : Int) ≠ 5 by decide)]
      exact r_room w c h
  · subst q
    show rdO σ (stH f S B e) (dsp σ 6)
    unfold dsp f_X11_statement_71 f_X11_statement_76 f_X11_statement_112
    rw [if_pos (show (6 : Int) ≠ 0 by decide), if_pos (show (6 : Int) ≠ 1 by decide), if_pos (show (6 : Int) ≠ 5 by decide), if_neg (show ¬ (6 : Int) < 0 by decide), if_pos (show (1 : Int) ≠ 0 by decide), if_pos (show (6 : Int) ≠ 5 by decide), if_neg (show ¬ (6 : Int) ≠ 6 by decide), if_pos (show (6 : Int) ≠ 0 by decide), if_pos (show (6 : Int) ≠ 1 by decide), if_pos (show (6 : Int) ≠ 5 by decide), if_neg (show ¬ (6 : Int) ≠ 6 by decide)]
    exact r_hours w h
  · subst q
    show rdO σ (stU f S B e) (dsp σ 7)
    unfold dsp f_X11_statement_71 f_X11_statement_76 f_X11_statement_112
    rw [if_pos (show (7 : Int) ≠ 0 by decide), if_pos (show (7 : Int) ≠ 1 by decide), if_pos (show (7 : Int) ≠ 5 by decide), if_neg (show ¬ (7 : Int) < 0 by decide), if_pos (show (1 : Int) ≠ 0 by decide), if_pos (show (7 : Int) ≠ 5 by decide), if_pos (show (7 : Int) ≠ 6 by decide), if_pos (show (7 : Int) ≠ 0 by decide), if_pos (show (7 : Int) ≠ 1 by decide), if_pos (show (7 : Int) ≠ 5 by decide), if_pos (show (7 : Int) ≠ 6 by decide), if_neg (show ¬ (7 : Int) ≠ 7 by decide)]
    exact r_turn w h
theorem X11_statement {σ : Mem} {f : Int → Int} {S : Nat} {B : Bk} (w : WF B) {a : Nat} (h : txR σ f S B a) : rdO σ (stS f S B a) (f_X11_statement σ) := by
  obtain ⟨hT, hR, h10, ha, h13⟩ := h
  obtain ⟨τ, a1, a2, a3, a4, a5⟩ := X11_word hT ha h10
  have g1 := go_ok (txB f S) S _ a rfl ha
  have g2 := go_ok (pL f S) S _ (nb f S a) rfl g1.2.1
  rw [st_dsp, bind_some' a1]
  have hx : txR τ f S B (go (pL f S) S (nb f S a)) := ⟨hT.keep (a3 9 (by decide) (by decide)) (a2 189 (by decide)) (a2 190 (by decide)), hR.row (a2 182 (by decide)), a4, g2.2.1, by rw [a3 13 (by decide) (by decide)]; exact h13⟩
  exact rdO.tr (X11_dsp w hx a5) a2 fun i i1 i2 _ _ => a3 i i1 i2
