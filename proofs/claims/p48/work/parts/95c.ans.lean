/-! WHAT THE CLASS ANSWERS: edits, the image -/
/-- nothing has been made yet of this edition -/
def FRESH (σ : Mem) : Prop := σ 164 9 < σ 43 3 ∧ σ 171 8 < σ 43 3
section
variable {k : Nat} {σ ρ : Mem} {B B' : Bk} {J : Option Bk}
theorem KS.ed (K : KS k σ B J) (w' : WF B') (fr : ∀ x i, ¬ (1 ≤ x ∧ x ≤ 18) → (x = 43 → i ≠ 3) → x ≠ 53 → ρ x i = σ x i) (hB : isBk ρ 1 B') (hW : ∀ c, 0 ≤ c → c < B' 8 1 → ρ 53 c ≠ 0 → σ 53 c ≠ 0 ∧ c < B 8 1 ∧ ∀ d : Nat, agr B B' c d) (he : ρ 43 3 = σ 43 3 + 1 ∨ (ρ 43 3 = σ 43 3 ∧ FRESH σ)) : KS (k + 1) ρ B' J ∧ FRESH ρ := by
  obtain ⟨⟨-, -, w, hW0⟩, h2, h3, h4, h5, h6, h7⟩ := K
  have q : ∀ x i, ¬ (1 ≤ x ∧ x ≤ 18) → x ≠ 43 → x ≠ 53 → ρ x i = σ x i := fun x i g1 g2 g3 => fr x i g1 (fun e => absurd e g2) g3
  have hn' := w'.1
  unfold WFn at hn'
  unfold DUC at h3
  unfold SEC at h4
  have f1 : FRESH ρ := by
    unfold FRESH
    rw [q 164 9 (by decide) (by decide) (by decide), q 171 8 (by decide) (by decide) (by decide)]
    rcases he with he | ⟨he, f⟩
    · omega
    · unfold FRESH at f
      omega
  have f2 := f1
  unfold FRESH at f2
  refine ⟨⟨⟨hB, trivial, w', fun c c1 c2 c3 => ?_⟩, ?_, ⟨by omega, fun e => by omega⟩, ⟨by omega, fun e => by omega⟩, fun s s1 s2 => ?_, ?_, ?_⟩, f1⟩
  · obtain ⟨g1, g2, g3⟩ := hW c c1 c2 c3
    exact (isWk_agr w c1 g2 g3 (hW0 c c1 g2 g1)).keep fun x y1 y2 => funext fun i => q x i (by omega) (by omega) (by omega)
  · clear h3 h4 f2 hn'
    rcases he with he | ⟨he, -⟩
    · exact ⟨by omega, by omega⟩
    · exact ⟨by omega, by omega⟩
  · rw [q 31 s (by decide) (by decide) (by decide)]; exact h5 s s1 s2
  · rw [q 28 1 (by decide) (by decide) (by decide)]; exact h6
  · exact h7.keep (q 0 3 (by decide) (by decide) (by decide)) fun x i x1 x2 => q x i (by omega) (by omega) (by omega)
/-- hours -/
theorem a_hours (K : KS k σ B J) (hk : k < 90000) {v : Int} (h1 : 8 ≤ v ∧ v ≤ 40) : GIVES (f_X10_hours σ v) (B 8 3) (k + 1) (mup B 8 3 v) J := by
  obtain ⟨hB, hR, w, hW⟩ := K.1
  have hn := w.1
  unfold WFn at hn
  obtain ⟨hd1, hd2⟩ := K.2.1
  have eB : isBk (mup σ 1 11 v) 1 (mup B 8 3 v) := hB.putn (i := 3)
  have e8 : ∀ i, i ≠ 3 → mup B 8 3 v 8 i = B 8 i := fun i hi => mup_miss (fun z => hi z.2)
  obtain ⟨ρ, f1, f2, f3, f4⟩ := X9_forgetAll (σ := mup σ 1 11 v) (by rw [mup_miss (by omega)]; omega)
  rw [mup_miss (by omega)] at f3
  refine ⟨ρ, ?_, (K.ed (WF_hours w h1) (fun x i g1 g2 g3 => by rw [f2 x i g2 g3, mup_miss (by omega)]) (eB.pt fun x i g1 g2 => by rw [f2 x i (by omega) (by omega)]) (fun c g1 g2 g3 => absurd (f4 c g1 (by rw [e8 1 (by decide)] at g2; omega)) g3) (Or.inl f3)).1⟩
  unfold f_X10_hours
  rw [if_neg (show ¬ v < 8 by omega), if_pos (show v ≤ 40 by omega)]
  simp only [Option.bind_some]
  rw [hB.hours, f1]
  rfl
/-- turn -/
theorem WF_turn (w : WF B) {v : Int} (h1 : 0 ≤ v ∧ v ≤ 8) : WF (mup B 8 4 v) := by
  have hn := w.1
  unfold WFn at hn
  have e8 : ∀ i, i ≠ 4 → mup B 8 4 v 8 i = B 8 i := fun i hi => mup_miss (fun z => hi z.2)
  obtain ⟨w1, w2, w3, w4⟩ := w
  refine ⟨?_, w2.of (mup_row (by decide)) (mup_row (by decide)) (mup_row (by decide)) (e8 _ (by decide)), w3.of (mup_row (by decide)) (mup_row (by decide)) (mup_row (by decide)) (mup_row (by decide)) (mup_row (by decide)) (e8 _ (by decide)) (e8 _ (by decide)), w4.of (mup_row (by decide)) (e8 _ (by decide))⟩
  unfold WFn
  rw [e8 0 (by decide), e8 1 (by decide), e8 2 (by decide), e8 3 (by decide), e8 5 (by decide), mup_hit rfl rfl]
  exact ⟨hn.1, hn.2.1, hn.2.2.1, hn.2.2.2.1, h1, hn.2.2.2.2.2⟩
theorem a_turn (K : KS k σ B J) (hk : k < 90000) {v : Int} (h1 : 0 ≤ v ∧ v ≤ 8) : ∃ ρ, f_X10_turn σ v = some (B 8 4, ρ) ∧ KS (k + 1) ρ (mup B 8 4 v) J ∧ FRESH ρ := by
  obtain ⟨hB, hR, w, hW⟩ := K.1
  have hn := w.1
  unfold WFn at hn
  obtain ⟨hd1, hd2⟩ := K.2.1
  have eB : isBk (mup σ 1 12 v) 1 (mup B 8 4 v) := hB.putn (i := 4)
  have e8 : ∀ i, i ≠ 4 → mup B 8 4 v 8 i = B 8 i := fun i hi => mup_miss (fun z => hi z.2)
  have f1 := X9_forgetOthers (σ := mup σ 1 12 v) (by rw [mup_miss (by omega)]; omega)
  rw [mup_miss (by omega)] at f1
  obtain ⟨ρ, hρ⟩ : ∃ ρ, ρ = mup (mup σ 1 12 v) 43 3 (σ 43 3 + 1) := ⟨_, rfl⟩
  rw [← hρ] at f1
  have f2 : ∀ x i, x ≠ 1 → (x = 43 → i ≠ 3) → ρ x i = σ x i := fun x i g1 g2 => by rw [hρ, mup_miss (by omega), mup_miss (by omega)]
  refine ⟨ρ, ?_, K.ed (WF_turn w h1) (fun x i g1 g2 g3 => f2 x i (by omega) g2) (eB.pt fun x i g1 g2 => by rw [hρ, mup_miss (by omega)]) (fun q g1 g2 g3 => ?_) (Or.inl (by rw [hρ, mup_hit rfl rfl]))⟩
  · unfold f_X10_turn
    rw [if_neg (show ¬ v < 0 by omega), if_pos (show v ≤ 8 by omega)]
    simp only [Option.bind_some]
    rw [hB.turn, f1]
    rfl
  · rw [f2 53 q (by omega) (by omega)] at g3
    rw [e8 1 (by decide)] at g2
    exact ⟨g3, g2, fun d => ⟨by rw [e8 3 (by decide)], by rw [mup_row (by decide)], by rw [mup_row (by decide)], by rw [mup_row (by decide)], fun p _ _ => by rw [mup_row (by decide)], od_congr (e8 _ (by decide)) (mup_row (by decide)) (by rw [mup_row (by decide)]), fun p _ => by rw [mup_row (by decide)]⟩⟩
/-- night -/
theorem WF_night (w : WF B) {c v : Int} (h2 : 0 ≤ v ∧ v ≤ 1) : WF (mup B 5 c v) := by
  have e8 : mup B 5 c v 8 = B 8 := mup_row (by decide)
  obtain ⟨w1, w2, w3, w4⟩ := w
  refine ⟨by unfold WFn; rw [e8]; exact w1, w2.of (mup_row (by decide)) (mup_row (by decide)) (mup_row (by decide)) (by rw [e8]), fun q q1 q2 => ?_, w4.of (mup_row (by decide)) (by rw [e8])⟩
  rw [e8] at q2
  obtain ⟨g1, g2, g3, g4, g5, g6⟩ := w3 q q1 q2
  rw [mup_row (show (3 : Int) ≠ 5 by decide), mup_row (show (4 : Int) ≠ 5 by decide), mup_row (show (6 : Int) ≠ 5 by decide), e8]
  refine ⟨g1, g2, ?_, g4, fun p hp => g5 p ?_, fun d => ?_⟩
  · by_cases e : q = c
    · rw [mup_hit rfl e]; omega
    · rw [mup_miss (fun z => e z.2)]; exact g3
  · unfold tk at hp ⊢
    rw [mup_row (by decide)] at hp
    exact hp
  · rw [od_congr (by rw [e8]) (mup_row (by decide)) (by rw [mup_row (by decide)])]
    exact g6 d
theorem a_night (K : KS k σ B J) (hk : k < 90000) {c : Int} (hc : 0 ≤ c) (hc2 : c < B 8 1) {v : Int} (h2 : 0 ≤ v ∧ v ≤ 1) : GIVES (f_X10_night σ c v) (B 5 c) (k + 1) (mup B 5 c v) J := by
  obtain ⟨hB, hR, w, hW⟩ := K.1
  have hn := w.1
  unfold WFn at hn
  obtain ⟨hd1, hd2⟩ := K.2.1
  have eB : isBk (mup σ 7 c v) 1 (mup B 5 c v) := hB.put (t := 5) (by decide) (by decide)
  have e8 : mup B 5 c v 8 = B 8 := mup_row (by decide)
  have f1 := X9_forget (σ := mup σ 7 c v) (c := c) (by omega) (by rw [mup_miss (by omega)]; omega)
  rw [mup_miss (by omega)] at f1
  obtain ⟨ρ, hρ⟩ : ∃ ρ, ρ = mup (mup (mup σ 7 c v) 53 c 0) 43 3 (σ 43 3 + 1) := ⟨_, rfl⟩
  rw [← hρ] at f1
  have f2 : ∀ x i, x ≠ 7 → (x = 43 → i ≠ 3) → x ≠ 53 → ρ x i = σ x i := fun x i g1 g2 g3 => by rw [hρ, mup_miss (by omega), mup_miss (by omega), mup_miss (by omega)]
  refine ⟨ρ, ?_, (K.ed (WF_night w h2) (fun x i g1 g2 g3 => f2 x i (by omega) g2 g3) (eB.pt fun x i g1 g2 => by rw [hρ, mup_miss (by omega), mup_miss (by omega)]) (fun q g1 g2 g3 => ?_) (Or.inl (by rw [hρ, mup_hit rfl rfl]))).1⟩
  · unfold f_X10_night
    rw [bind_some' (X0_hasCand hB c), if0, if_pos ⟨hc, hc2⟩, bind_some' (X10_isYesOrNo v), if1, if_pos h2]
    rw [chk_pos (by omega)]
    simp only [Option.bind_some]
    rw [chk_pos (by omega), show σ 7 c = B 5 c from hB.night hc (by omega), f1]
    rfl
  · rw [e8] at g2
    have hqc : q ≠ c := fun e => g3 (by rw [hρ, mup_miss (by omega), mup_hit rfl e])
    refine ⟨fun e => g3 ?_, g2, fun d => ⟨by rw [mup_row (by decide)], by rw [mup_row (by decide)], by rw [mup_row (by decide)], by rw [mup_miss (fun z => hqc z.2)], fun p _ _ => by rw [mup_row (by decide)], od_congr (by rw [e8]) (mup_row (by decide)) (by rw [mup_row (by decide)]), fun p _ => by rw [mup_row (by decide)]⟩⟩
    rw [hρ, mup_miss (by omega), mup_miss (fun z => hqc z.2), mup_miss (by omega), e]
/-- paper -/
theorem a_paper (K : KS k σ B J) (hF : FRESH σ) (hk : k < 90000) (hf : B 8 0 < 12) {d s l : Int} (h1 : 0 ≤ d ∧ d < 5) (h2 : 0 ≤ s ∧ s < 48) (h3 : 1 ≤ l ∧ l ≤ 12) : ∃ ρ, f_X10_paper σ d s l = some (B 8 0, ρ) ∧ KS (k + 1) ρ (addP B d s l) J ∧ FRESH ρ := by
  obtain ⟨hB, hR, w, hW⟩ := K.1
  have hn := w.1
  unfold WFn at hn
  obtain ⟨ρ, f1, f2, f3⟩ := X0_addPaper hB hn.1.1 hf d s l
  have e8 := addP_8 (B := B) (d := d) (s := s) (l := l)
  refine ⟨ρ, ?_, K.ed (WF_addP w hf h1 h2 h3) (fun x i x1 x2 x3 => by rw [f3 x (by omega)]) f2 (fun q q1 q2 q3 => ?_) (Or.inr ⟨by rw [f3 43 (by decide)], hF⟩)⟩
  · unfold f_X10_paper
    rw [bind_some' (X10_isDay d), if0, if_pos h1, bind_some' (X10_isSlot s), if0, if_pos h2, if_neg (show ¬ l < 1 by omega), if_pos (show l ≤ 12 by omega)]
    rw [hB.nP, if_pos hf, bind_some' f1]
  · rw [f3 53 (by decide)] at q3
    rw [e8.2 1 (by decide)] at q2
    exact ⟨q3, q2, fun e => addP_agr w q1 q2 e⟩
/-- cand -/
theorem a_cand (K : KS k σ B J) (hk : k < 90000) (hf : B 8 1 < 10) {x a : Int} (h1 : 0 ≤ x ∧ x ≤ 5) (h2 : 0 ≤ a ∧ a ≤ 9) : GIVES (f_X10_cand σ x a) (B 8 1) (k + 1) (addC B x a) J := by
  obtain ⟨hB, hR, w, hW⟩ := K.1
  have hn := w.1
  unfold WFn at hn
  obtain ⟨hd1, hd2⟩ := K.2.1
  obtain ⟨ρ0, f1, f2, f3⟩ := X0_addCand hB hn.2.1.1 hf x a
  have f4 := X9_forget (σ := ρ0) (c := B 8 1) (by omega) (by rw [f3 43 (by decide)]; omega)
  obtain ⟨ρ, hρ⟩ : ∃ ρ, ρ = mup (mup ρ0 53 (B 8 1) 0) 43 3 (ρ0 43 3 + 1) := ⟨_, rfl⟩
  rw [← hρ] at f4
  have f5 : ∀ x i, (x = 43 → i ≠ 3) → x ≠ 53 → ρ x i = ρ0 x i := fun x i g1 g2 => by rw [hρ, mup_miss (by omega), mup_miss (by omega)]
  have e8 := addC_8 (B := B) (k := x) (a := a)
  refine ⟨ρ, ?_, (K.ed (WF_addC w hf h1 h2) (fun x i x1 x2 x3 => by rw [f5 x i x2 x3, f3 x (by omega)]) (f2.pt fun x i x1 x2 => f5 x i (by omega) (by omega)) (fun q q1 q2 q3 => ?_) (Or.inl (by rw [hρ, mup_hit rfl rfl, f3 43 (by decide)]))).1⟩
  · unfold f_X10_cand
    rw [bind_some' (X2_isKind x), if0, if_pos h1, if_neg (show ¬ a < 0 by omega), if_pos (show a ≤ 9 by omega)]
    rw [hB.nC, if_pos hf, bind_some' f1]
    simp only [Option.bind_some]
    rw [f4]
    rfl
  · rw [e8.1] at q2
    have hq : q ≠ B 8 1 := fun e => q3 (by rw [hρ, mup_miss (by omega), mup_hit rfl e])
    refine ⟨fun e => q3 ?_, by omega, fun d => addC_agr hq⟩
    rw [hρ, mup_miss (by omega), mup_miss (fun z => hq z.2), f3 53 (by decide), e]
/-- room -/
theorem a_room (K : KS k σ B J) (hk : k < 90000) (hf : B 8 2 < 6) {s : Int} (h1 : 1 ≤ s ∧ s ≤ 9) : GIVES (f_X10_room σ s) (B 8 2) (k + 1) (addR B s) J := by
  obtain ⟨hB, hR, w, hW⟩ := K.1
  have hn := w.1
  unfold WFn at hn
  obtain ⟨hd1, hd2⟩ := K.2.1
  have f4 := X9_forgetOthers (σ := σ) (by omega)
  have hB1 : isBk (mup σ 43 3 (σ 43 3 + 1)) 1 B := hB.pt fun x i x1 x2 => mup_miss (by omega)
  obtain ⟨ρ, f1, f2, f3⟩ := X0_addRoom hB1 hn.2.2.1.1 hf s
  have e8 := addR_8 (B := B) (s := s)
  refine ⟨ρ, ?_, (K.ed (WF_addR w hf h1) (fun x i x1 x2 x3 => by rw [f3 x (by omega), mup_miss (by omega)]) f2 (fun q q1 q2 q3 => ?_) (Or.inl (by rw [f3 43 (by decide), mup_hit rfl rfl]))).1⟩
  · unfold f_X10_room
    rw [if_neg (show ¬ s < 1 by omega), if_pos (show s ≤ 9 by omega)]
    rw [hB.nR, if_pos hf, bind_some' f4, bind_some' f1]
  · rw [f3 53 (by decide), mup_miss (by omega)] at q3
    rw [e8.2 1 (by decide)] at q2
    exact ⟨q3, q2, fun d => addR_agr⟩
/-- takes: a change -/
theorem a_flip (K : KS k σ B J) (hk : k < 90000) {c : Int} (hc : 0 ≤ c) (hc2 : c < B 8 1) {p : Nat} (hp : (p : Int) < B 8 0) (hf : fifth B c p = false) {t : Int} (ht : t = if tk B c p then 0 else 1) : GIVES (f_X10_takes σ c p t) (if tk B c p then 1 else 0) (k + 1) (flp B c p) J := by
  obtain ⟨hB, hR, w, hW⟩ := K.1
  have hn := w.1
  unfold WFn at hn
  obtain ⟨hd1, hd2⟩ := K.2.1
  have h2 : 0 ≤ (p : Int) ∧ (p : Int) < B 8 0 := ⟨by omega, hp⟩
  have h3 : 0 ≤ t ∧ t ≤ 1 := by rw [ht]; split <;> decide
  have f0 := X0_flip hB w hc hc2 (p := p) (by omega)
  have eB : isBk (mup σ 8 c (((B 6 c).toNat ^^^ 2 ^ p : Nat) : Int)) 1 (flp B c p) := hB.put (t := 6) (by decide) (by decide)
  have f1 := X9_forget (σ := mup σ 8 c (((B 6 c).toNat ^^^ 2 ^ p : Nat) : Int)) (c := c) (by omega) (by rw [mup_miss (by omega)]; omega)
  rw [mup_miss (by omega)] at f1
  obtain ⟨ρ, hρ⟩ : ∃ ρ, ρ = mup (mup (mup σ 8 c (((B 6 c).toNat ^^^ 2 ^ p : Nat) : Int)) 53 c 0) 43 3 (σ 43 3 + 1) := ⟨_, rfl⟩
  rw [← hρ] at f1
  have f2 : ∀ x i, x ≠ 8 → (x = 43 → i ≠ 3) → x ≠ 53 → ρ x i = σ x i := fun x i g1 g2 g3 => by rw [hρ, mup_miss (by omega), mup_miss (by omega), mup_miss (by omega)]
  have e8 : flp B c p 8 = B 8 := flp_r (by decide)
  have key : ∀ s0 : Int, t ≠ s0 → f_X10_takes_54 σ c p t s0 = some (s0, ρ) := fun s0 hs => by
    unfold f_X10_takes_54
    rw [if_neg hs, bind_some' (X0_mayFlip hB w hc hc2 hp), hf, bf, if_pos (by decide), bind_some' f0]
    show (f_X9_forget (mup σ 8 c _) c).bind _ = _
    rw [f1]
    rfl
  refine ⟨ρ, ?_, (K.ed (WF_flp w hc hc2 hp hf) (fun x i x1 x2 x3 => f2 x i (by omega) x2 x3) (eB.pt fun x i x1 x2 => by rw [hρ, mup_miss (by omega), mup_miss (by omega)]) (fun q q1 q2 q3 => ?_) (Or.inl (by rw [hρ, mup_hit rfl rfl]))).1⟩
  · unfold f_X10_takes
    rw [bind_some' (X0_hasCand hB c), if0, if_pos ⟨hc, hc2⟩, bind_some' (X0_hasPaper hB p), if0, if_pos h2, bind_some' (X10_isYesOrNo t), if1, if_pos h3]
    rw [bind_some' (X0_doesTake hB w hc hc2 (by omega))]
    cases htk : tk B c p with
    | true =>
      rw [htk] at ht
      have ht : t = 0 := ht
      show f_X10_takes_54 σ c p t 1 = _
      rw [key 1 (by omega)]
      rfl
    | false =>
      rw [htk] at ht
      have ht : t = 1 := ht
      show f_X10_takes_54 σ c p t 0 = _
      rw [key 0 (by omega)]
      rfl
  · rw [e8] at q2
    have hq : q ≠ c := fun e => q3 (by rw [hρ, mup_miss (by omega), mup_hit rfl e])
    refine ⟨fun e => q3 ?_, q2, fun d => agr_flp2 hq⟩
    rw [hρ, mup_miss (by omega), mup_miss (fun z => hq z.2), mup_miss (by omega), e]
/-- takes: none of it -/
theorem a_stay (K : KS k σ B J) {c : Int} (hc : 0 ≤ c) (hc2 : c < B 8 1) {p : Nat} (hp : (p : Int) < B 8 0) {t : Int} (ht : t = if tk B c p then 1 else 0) : GIVES (f_X10_takes σ c p t) t k B J := by
  obtain ⟨hB, hR, w, hW⟩ := K.1
  have hn := w.1
  unfold WFn at hn
  have h2 : 0 ≤ (p : Int) ∧ (p : Int) < B 8 0 := ⟨by omega, hp⟩
  have h3 : 0 ≤ t ∧ t ≤ 1 := by rw [ht]; split <;> decide
  refine GIVES.ok K ?_ CFr.rfl hW
  unfold f_X10_takes
  rw [bind_some' (X0_hasCand hB c), if0, if_pos ⟨hc, hc2⟩, bind_some' (X0_hasPaper hB p), if0, if_pos h2, bind_some' (X10_isYesOrNo t), if1, if_pos h3]
  rw [bind_some' (X0_doesTake hB w hc hc2 (by omega))]
  unfold f_X10_takes_54
  cases htk : tk B c p with
  | true =>
    rw [htk] at ht
    have ht : t = 1 := ht
    show (if t = 1 then _ else _) = _
    rw [if_pos ht, ht]
  | false =>
    rw [htk] at ht
    have ht : t = 0 := ht
    show (if t = 0 then _ else _) = _
    rw [if_pos ht, ht]
/-- takes: a fifth one -/
theorem a_stuck (K : KS k σ B J) {c : Int} (hc : 0 ≤ c) (hc2 : c < B 8 1) {p : Nat} (hp : (p : Int) < B 8 0) (hf : fifth B c p = true) : GIVES (f_X10_takes σ c p 1) (-55) k B J := by
  obtain ⟨hB, hR, w, hW⟩ := K.1
  have hn := w.1
  unfold WFn at hn
  have h2 : 0 ≤ (p : Int) ∧ (p : Int) < B 8 0 := ⟨by omega, hp⟩
  have htk : tk B c p = false := by
    unfold fifth at hf
    cases h : tk B c p with
    | false => rfl
    | true => rw [h] at hf; cases hf
  refine GIVES.no K ?_ CFr.rfl hW
  unfold f_X10_takes
  rw [bind_some' (X0_hasCand hB c), if0, if_pos ⟨hc, hc2⟩, bind_some' (X0_hasPaper hB p), if0, if_pos h2, bind_some' (X10_isYesOrNo 1), if1, if_pos (by decide)]
  rw [bind_some' (X0_doesTake hB w hc hc2 (by omega)), htk]
  show f_X10_takes_54 σ c p 1 0 = _
  unfold f_X10_takes_54
  rw [if_neg (by decide), bind_some' (X0_mayFlip hB w hc hc2 hp), hf, bt, if_neg (by decide)]
  exact c_no (by decide)
/-- image, back -/
theorem a_image (K : KS k σ B J) : GIVES (f_X10_image σ) 1 k B (some B) := by
  obtain ⟨⟨hB, hR, w, hW⟩, h2, h3, h4, h5, h6, h7⟩ := K
  have hn := w.1
  unfold WFn at hn
  obtain ⟨σ1, b1, b2, b3⟩ := X0_become (σ := σ) (b0 := 19) hB (by decide)
  obtain ⟨ρ, hρ⟩ : ∃ ρ, ρ = mup σ1 0 3 1 := ⟨_, rfl⟩
  have f1 : ∀ x, x ≠ 0 → ¬ (19 ≤ x ∧ x ≤ 27) → ρ x = σ x := fun x x1 x2 => by rw [hρ, mup_row x1, b3 x (by omega)]
  refine ⟨ρ, ?_, ⟨hB.rows fun x x1 x2 => f1 x (by omega) (by omega), trivial, w, hW.keep (by omega) fun x x1 x2 => f1 x (by omega) (by omega)⟩, by rw [f1 43 (by decide) (by decide)]; exact h2, h3.keep (fun x i x1 x2 => by rw [f1 x (by omega) (by omega)]) (by rw [f1 43 (by decide) (by decide)]), h4.keep (fun x i x1 x2 => by rw [f1 x (by omega) (by omega)]) (by rw [f1 43 (by decide) (by decide)]), fun s s1 s2 => by rw [f1 31 (by decide) (by decide)]; exact h5 s s1 s2, by rw [f1 28 (by decide) (by decide)]; exact h6, ?_, w, ?_⟩
  · unfold f_X10_image
    rw [bind_some' b1, hρ]
    rfl
  · rw [hρ, mup_hit rfl rfl]
  · exact b2.rows fun x x1 x2 => by rw [hρ, mup_row (by omega)]
theorem a_back {I : Bk} (K : KS k σ B (some I)) (hk : k < 90000) : GIVES (f_X10_back σ) 1 (k + 1) I (some I) := by
  obtain ⟨⟨hB, hR, w, hW⟩, h2, h3, h4, h5, h6, m2, wI, hI⟩ := K
  have hn := w.1
  unfold WFn at hn
  have hnI := wI.1
  unfold WFn at hnI
  obtain ⟨σ1, b1, b2, b3⟩ := X0_become (σ := σ) (b0 := 1) hI (by decide)
  obtain ⟨σ2, c1, c2, c3⟩ := X6_drop (σ := σ1) hnI.2.1.1 (fun s s1 s2 => by rw [b3 31 (by decide), h5 s s1 s2]; decide)
  have e43 : σ2 43 3 = σ 43 3 := by rw [c2 43 (by decide), b3 43 (by decide)]
  obtain ⟨ρ, f1, f2, f3, f4⟩ := X9_forgetAll (σ := σ2) (by rw [e43]; omega)
  have g1 : ∀ x i, ¬ (1 ≤ x ∧ x ≤ 9) → x ≠ 31 → (x = 43 → i ≠ 3) → x ≠ 53 → ρ x i = σ x i := fun x i x1 x2 x3 x4 => by rw [f2 x i x3 x4, c2 x x2, b3 x (by omega)]
  have e9 : ρ 164 9 = σ 164 9 := g1 164 9 (by decide) (by decide) (fun z => absurd z (by decide)) (by decide)
  have e8 : ρ 171 8 = σ 171 8 := g1 171 8 (by decide) (by decide) (fun z => absurd z (by decide)) (by decide)
  unfold DUC at h3
  unfold SEC at h4
  refine ⟨ρ, ?_, ⟨b2.pt fun x i x1 x2 => by rw [f2 x i (by omega) (by omega), c2 x (by omega)], trivial, wI, fun c c1 c2 c3 => absurd (f4 c c1 (by omega)) c3⟩, by omega, ⟨by omega, fun e => by omega⟩, ⟨by omega, fun e => by omega⟩, fun s s1 s2 => ?_, by rw [g1 28 1 (by decide) (by decide) (fun z => absurd z (by decide)) (by decide)]; exact h6, by rw [g1 0 3 (by decide) (by decide) (fun z => absurd z (by decide)) (by decide)]; exact m2, wI, hI.pt fun x i x1 x2 => g1 x i (by omega) (by omega) (by omega) (by omega)⟩
  · unfold f_X10_back
    rw [if_pos (by omega), bind_some' b1, b2.nC, bind_some' c1, bind_some' f1]
  · rw [f2 31 s (fun z => absurd z (by decide)) (by decide), c3 s s1 s2, b3 31 (by decide), h5 s s1 s2]
    split <;> rfl
end
