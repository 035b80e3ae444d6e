/-! WHAT A DAY'S PLAN LOOKS AT: books that agree on a day have the same plan there -/
theorem nx_congr {B B' : Bk} {c f : Int} {q : Nat → Nat} {n : Nat} (hr : rs B' c = rs B c) (h : ∀ k, k < n → B' 1 (q k) = B 1 (q k) ∧ tm B' c (q k) = tm B c (q k)) : ∀ k, k ≤ n → nx B' c f q k = nx B c f q k
  | 0, _ => rfl
  | k + 1, hk => by
    obtain ⟨h1, h2⟩ := h k (by omega)
    show max (B' 1 (q k)) (nx B' c f q k) + tm B' c (q k) + rs B' c = max (B 1 (q k)) (nx B c f q k) + tm B c (q k) + rs B c
    rw [nx_congr hr h k (by omega), h1, h2, hr]
theorem bg_congr {B B' : Bk} {c f : Int} {q : Nat → Nat} {n : Nat} (hr : rs B' c = rs B c) (h : ∀ k, k < n → B' 1 (q k) = B 1 (q k) ∧ tm B' c (q k) = tm B c (q k)) {k : Nat} (hk : k < n) : bg B' c f q k = bg B c f q k ∧ en B' c f q k = en B c f q k := by
  unfold en bg
  rw [nx_congr hr h k (by omega), (h k hk).1, (h k hk).2]
  exact ⟨rfl, rfl⟩
theorem anyN_congr {p q : Nat → Bool} : ∀ {n : Nat}, (∀ k, k < n → p k = q k) → anyN p n = anyN q n
  | 0, _ => rfl
  | n + 1, h => by rw [anyN_s, anyN_s, anyN_congr fun k hk => h k (by omega), h n (by omega)]
theorem fitN_congr {B B' : Bk} {c f : Int} {q : Nat → Nat} : ∀ {n : Nat}, (∀ k, k < n → en B' c f q k = en B c f q k) → fitN B' c f q n = fitN B c f q n
  | 0, _ => rfl
  | n + 1, h => by
    show (fitN B' c f q n && decide (en B' c f q n ≤ 48)) = (fitN B c f q n && decide (en B c f q n ≤ 48))
    rw [fitN_congr fun k hk => h k (by omega), h n (by omega)]
theorem kpB_congr {B B' : Bk} {c f : Int} {a : Nat} {q : Nat → Nat} {n t : Nat} {wo wo' : Nat → Bool} (hw : wo' t = wo t) (hb : ∀ k, k < n → bg B' c f q k = bg B c f q k ∧ en B' c f q k = en B c f q k) (h1 : ∀ k, k < n → B' 1 (q k) = B 1 (q k)) : kpB wo' a B' c f q n t = kpB wo a B c f q n t := by
  have e1 : anyN (fun j => decide (B' 1 (q j) ≤ t) && decide ((t : Int) < bg B' c f q j)) n = anyN (fun j => decide (B 1 (q j) ≤ t) && decide ((t : Int) < bg B c f q j)) n := anyN_congr fun k hk => by rw [h1 k hk, (hb k hk).1]
  have e2 : anyN (fun j => decide (bg B' c f q j ≤ t) && decide ((t : Int) < en B' c f q j)) n = anyN (fun j => decide (bg B c f q j ≤ t) && decide ((t : Int) < en B c f q j)) n := anyN_congr fun k hk => by rw [(hb k hk).1, (hb k hk).2]
  unfold kpB wtB saB siB
  rw [hw, e1, e2]
theorem smt_congr {B B' : Bk} {c : Int} {m : Nat} : ∀ {n : Nat}, (∀ k, k < n → tm B' c (nth m k) = tm B c (nth m k)) → smt B' c m n = smt B c m n
  | 0, _ => rfl
  | n + 1, h => by
    show smt B' c m n + tm B' c (nth m n) = smt B c m n + tm B c (nth m n)
    rw [smt_congr fun k hk => h k (by omega), h n (by omega)]
theorem bst_congr {α : Type} {lw lw' : α → Bool} {ms ms' : α → Int} : ∀ {l : List α} {x : Option (Int × α)}, (∀ y ∈ l, lw' y = lw y ∧ ms' y = ms y) → bst lw' ms' l x = bst lw ms l x
  | [], _, _ => rfl
  | y :: l, x, h => by
    obtain ⟨h1, h2⟩ := h y List.mem_cons_self
    show bst lw' ms' l (stp lw' ms' y x) = bst lw ms l (stp lw ms y x)
    have e : stp lw' ms' y x = stp lw ms y x := by unfold stp; rw [h1, h2]
    rw [e]
    exact bst_congr fun z hz => h z (List.mem_cons_of_mem _ hz)
def agr (B B' : Bk) (c d : Int) : Prop := B' 8 3 = B 8 3 ∧ B' 3 c = B 3 c ∧ B' 4 c = B 4 c ∧ B' 5 c = B 5 c ∧ (∀ p : Int, 0 ≤ p → p < B 8 0 → B' 2 p = B 2 p) ∧ od B' c d = od B c d ∧ ∀ p : Nat, (od B c d).testBit p = true → B' 1 p = B 1 p
theorem agr_rs {B B' : Bk} {c d : Int} (h : agr B B' c d) : rs B' c = rs B c := by
  have h3 := h.2.1
  have h4 := h.2.2.1
  unfold rs
  rw [h3, h4]
theorem agr_tm {B B' : Bk} {c d : Int} (h : agr B B' c d) {p : Int} (h0 : 0 ≤ p) (h1 : p < B 8 0) : tm B' c p = tm B c p := by
  have h3 := h.2.1
  have h4 := h.2.2.1
  have h5 := h.2.2.2.2.1 p h0 h1
  unfold tm
  rw [h3, h4, h5]
theorem agr_fre {B B' : Bk} {c d : Int} (h : agr B B' c d) {o : Int} (h1 : o < B 8 0) : fre B' c o = fre B c o ∧ ahd B' c o = ahd B c o := by
  unfold fre ahd
  by_cases h0 : o < 0
  · rw [if_pos h0, if_pos h0, if_pos h0, if_pos h0]; exact ⟨rfl, rfl⟩
  · rw [if_neg h0, if_neg h0, if_neg h0, if_neg h0, agr_tm h (by omega) h1, agr_rs h]; exact ⟨rfl, rfl⟩
/-- a mask of papers of the day -/
theorem agr_q {B B' : Bk} (w : WF B) {c d : Int} (hc : 0 ≤ c) (hc2 : c < B 8 1) (h : agr B B' c d) {m : Nat} (hm : ∀ i, m.testBit i = true → (od B c d).testBit i = true) {l : List Nat} (hl : l ∈ PT (nof m)) (h4 : nof m ≤ 4) : ∀ k, k < nof m → B' 1 (lq m l k) = B 1 (lq m l k) ∧ tm B' c (lq m l k) = tm B c (lq m l k) := fun k hk => by
  obtain ⟨-, -, pin⟩ := PT_ok (nof m) h4
  have h1 := hm _ (nth_in ((pin l hl).2 k hk)).2.1
  exact ⟨h.2.2.2.2.2.2 _ h1, agr_tm h (by omega) ((okm_od w hc hc2 d).2.2 _ h1)⟩
theorem woB_agr {B B' : Bk} {o : Int} (h : 0 ≤ o → B' 1 o = B 1 o) (t : Nat) : woB B' o t = woB B o t := by
  unfold woB
  by_cases h0 : 0 ≤ o
  · rw [h h0]
  · rw [decide_eq_false h0]; rfl
theorem its_agr {B B' : Bk} (w : WF B) {c d : Int} (hc : 0 ≤ c) (hc2 : c < B 8 1) (h : agr B B' c d) {f : Int} {a : Nat} {m : Nat} (hm : ∀ i, m.testBit i = true → (od B c d).testBit i = true) (h4 : nof m ≤ 4) {o : Int} (ho : 0 ≤ o → B' 1 o = B 1 o) {x : Option (Int × Tr)} : bst (lwD B' c f a) (msD B' c f a) (its o m) x = bst (lwD B c f a) (msD B c f a) (its o m) x := by
  refine bst_congr fun y hy => ?_
  unfold its at hy
  rw [List.mem_map] at hy
  obtain ⟨l, hl, rfl⟩ := hy
  have hq := agr_q w hc hc2 h hm hl h4
  have hb : ∀ k, k < nof m → bg B' c f (lq m l) k = bg B c f (lq m l) k ∧ en B' c f (lq m l) k = en B c f (lq m l) k := fun k hk => bg_congr (agr_rs h) hq hk
  have hs : smt B' c m (nof m) = smt B c m (nof m) := smt_congr fun k hk => agr_tm h (by omega) ((okm_od w hc hc2 d).2.2 _ (hm _ (nth_in hk).2.1))
  constructor
  · show (decide (a + smt B' c m (nof m) ≤ B' 8 3) && fitN B' c f (lq m l) (nof m)) = (decide (a + smt B c m (nof m) ≤ B 8 3) && fitN B c f (lq m l) (nof m))
    rw [hs, h.1, fitN_congr fun k hk => (hb k hk).2]
  · show msC B' c f 0 (woB B' o) a (nof m) (lq m l) = msC B c f 0 (woB B o) a (nof m) (lq m l)
    unfold msC
    rw [if_pos rfl, if_pos rfl, cnt_congr fun t _ => kpB_congr (woB_agr ho t) hb fun k hk => (hq k hk).1]
theorem ovf_agr {B B' : Bk} (w : WF B) {c d : Int} (hc : 0 ≤ c) (hc2 : c < B 8 1) (h : agr B B' c d) {f : Int} {a : Nat} : ∀ n, ovf B' c f a (od B c d) none n = ovf B c f a (od B c d) none n
  | 0 => rfl
  | n + 1 => by
    have hm := okm_od w hc hc2 d
    show (if (od B c d).testBit n && decide (tm B' c n ≤ B' 8 3) then bst (lwD B' c f a) (msD B' c f a) (its n (clr (od B c d) n)) (ovf B' c f a (od B c d) none n) else ovf B' c f a (od B c d) none n) = (if (od B c d).testBit n && decide (tm B c n ≤ B 8 3) then bst (lwD B c f a) (msD B c f a) (its n (clr (od B c d) n)) (ovf B c f a (od B c d) none n) else ovf B c f a (od B c d) none n)
    rw [ovf_agr w hc hc2 h n]
    cases hb : (od B c d).testBit n with
    | false => rfl
    | true =>
      have hn := hm.2.2 n hb
      rw [agr_tm h (by omega) hn, h.1, its_agr w hc hc2 h (m := clr (od B c d) n) (fun i hi => by
        rw [clr_tb] at hi
        cases hb2 : (od B c d).testBit i with
        | true => rfl
        | false => rw [hb2] at hi; cases hi) (hm.clr n).2.1 (fun _ => h.2.2.2.2.2.2 n hb)]
theorem dpl_agr {B B' : Bk} (w : WF B) {c d : Int} (hc : 0 ≤ c) (hc2 : c < B 8 1) (h : agr B B' c d) {o : Int} (ho : o < B 8 0) : dpl B' c d o = dpl B c d o := by
  have hm := okm_od w hc hc2 d
  obtain ⟨e1, e2⟩ := agr_fre h ho
  unfold dpl
  rw [e1, e2, h.2.2.2.2.2.1, its_agr w hc hc2 h (fun i hi => hi) hm.2.1 (fun h0 => absurd h0 (by decide)), h.2.2.2.1, ovf_agr w hc hc2 h]
theorem isWd_agr {B B' : Bk} (w : WF B) {c d : Int} (hc : 0 ≤ c) (hc2 : c < B 8 1) (h : agr B B' c d) {o : Int} (ho : o < B 8 0) {σ : Mem} {k : Int} (hs : isWd σ k B c d (fre B c o) (ahd B c o) (dpl B c d o)) : isWd σ k B' c d (fre B' c o) (ahd B' c o) (dpl B' c d o) := by
  have hm := okm_od w hc hc2 d
  obtain ⟨e1, e2⟩ := agr_fre h ho
  rw [e1, e2, dpl_agr w hc hc2 h ho]
  refine ⟨hs.1, hs.2.1, hs.2.2.1, fun v o' m l hx => ?_⟩
  obtain ⟨z1, z2, z3, z4, z5⟩ := hs.2.2.2 v o' m l hx
  obtain ⟨d1, d2, d3, d4, d5, d6, d7⟩ := dpl_some w hc hc2 hx
  have hsub : ∀ i, m.testBit i = true → (od B c d).testBit i = true := by
    rcases d7 with ⟨-, e⟩ | ⟨p, -, -, e⟩
    · rw [e]; exact fun i hi => hi
    · intro i hi
      rw [e, clr_tb] at hi
      cases hb2 : (od B c d).testBit i with
      | true => rfl
      | false => rw [hb2] at hi; cases hi
  have ho' : 0 ≤ o' → B' 1 o' = B 1 o' := by
    rcases d7 with ⟨e, -⟩ | ⟨p, e, hp, -⟩
    · omega
    · intro _; rw [e]; exact h.2.2.2.2.2.2 p hp
  have hq := agr_q w hc hc2 h hsub d4 d1.2.1
  have hb : ∀ k, k < nof m → bg B' c (fre B c o) (lq m l) k = bg B c (fre B c o) (lq m l) k ∧ en B' c (fre B c o) (lq m l) k = en B c (fre B c o) (lq m l) k := fun k hk => bg_congr (agr_rs h) hq hk
  refine ⟨z1, z2, z3, ?_, fun j hj => ?_⟩
  · rw [z4, mset_congr fun t _ => kpB_congr (woB_agr ho' t) hb fun k hk => (hq k hk).1]
  · rw [(hb j hj).1, (hb j hj).2]; exact z5 j hj
