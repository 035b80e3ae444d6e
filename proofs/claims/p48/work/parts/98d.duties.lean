/-! THE DUTIES: sorted, none empty, their slots are the kept ones -/
theorem w_eq {T : Int} {l : List Du} (hT : 0 ≤ T) (hs : ∀ i j, i < j → j < l.length → dbg (l.getD i du0) ≤ dbg (l.getD j du0)) (hp : ∀ i, i < l.length → 0 < (l.getD i du0).2.2.2) : (wgv T l).1 = aoN l T l.length := by
  have h := w_all hT hs hp
  have h1 := h.2.2.2.2.2
  have h2 : ∀ n, n ≤ l.length → aoN l T n ≤ (wgv T l).1 := fun n => by
    induction n with
    | zero => intro _; exact Nat.zero_le _
    | succ n ih =>
      intro hn
      have a1 := ih (by omega)
      have a2 := near_le h (i := n) (by omega)
      show max (aoN l T n) (cnt (near l T n) l.length) ≤ _
      omega
  have := h2 l.length (Nat.le_refl _)
  omega
section
variable {K : Nat → Nat → Nat → Bool} {N : Nat}
theorem st_rl {p : Nat → Bool} {t : Nat} (ht : t < 48) (h : stB p t = true) : 0 < rl p (48 - t) t := by
  unfold stB at h
  rw [Bool.and_eq_true] at h
  rw [rl_s ht, h.1, bt]
  exact Nat.succ_pos _
theorem dC_in {d t : Nat} (ht : t < 48) : ∀ c, ∀ x ∈ dC K d t c, x.2.1 = d ∧ x.2.2.1 = t ∧ 0 < x.2.2.2
  | 0, x, h => by cases h
  | c + 1, x, h => by
    have e : dC K d t (c + 1) = if stB (K c d) t then dC K d t c ++ [(c, d, t, rl (K c d) (48 - t) t)] else dC K d t c := rfl
    rw [e] at h
    cases hs : stB (K c d) t with
    | true =>
      rw [hs, bt] at h
      rcases List.mem_append.mp h with h | h
      · exact dC_in ht c x h
      · rw [List.mem_singleton.mp h]
        exact ⟨rfl, rfl, st_rl ht hs⟩
    | false =>
      rw [hs, bf] at h
      exact dC_in ht c x h
theorem dT_in {d : Nat} : ∀ t, t ≤ 48 → ∀ x ∈ dT K N d t, x.2.1 = d ∧ x.2.2.1 < t ∧ 0 < x.2.2.2
  | 0, _, x, h => by cases h
  | t + 1, ht, x, h => by
    have e : dT K N d (t + 1) = dT K N d t ++ dC K d t N := rfl
    rw [e] at h
    rcases List.mem_append.mp h with h | h
    · obtain ⟨a1, a2, a3⟩ := dT_in t (by omega) x h
      exact ⟨a1, by omega, a3⟩
    · obtain ⟨a1, a2, a3⟩ := dC_in (by omega) N x h
      exact ⟨a1, by omega, a3⟩
theorem dD_in : ∀ d, ∀ x ∈ dD K N d, x.2.1 < d ∧ x.2.2.1 < 48 ∧ 0 < x.2.2.2
  | 0, x, h => by cases h
  | d + 1, x, h => by
    have e : dD K N (d + 1) = dD K N d ++ dT K N d 48 := rfl
    rw [e] at h
    rcases List.mem_append.mp h with h | h
    · obtain ⟨a1, a2, a3⟩ := dD_in d x h
      exact ⟨by omega, a2, a3⟩
    · obtain ⟨a1, a2, a3⟩ := dT_in 48 (Nat.le_refl _) x h
      exact ⟨by omega, a2, a3⟩
def srtD (l : List Du) : Prop := l.Pairwise fun x y => dbg x ≤ dbg y
theorem dC_srt {d t : Nat} (ht : t < 48) : ∀ c, srtD (dC K d t c)
  | 0 => List.Pairwise.nil
  | c + 1 => by
    have e : dC K d t (c + 1) = if stB (K c d) t then dC K d t c ++ [(c, d, t, rl (K c d) (48 - t) t)] else dC K d t c := rfl
    rw [e]
    cases hs : stB (K c d) t with
    | true =>
      rw [bt]
      refine List.pairwise_append.mpr ⟨dC_srt ht c, List.pairwise_singleton _ _, fun x hx y hy => ?_⟩
      rw [List.mem_singleton.mp hy]
      obtain ⟨a1, a2, -⟩ := dC_in ht c x hx
      unfold dbg
      rw [a1, a2]
      exact Int.le_refl _
    | false => rw [bf]; exact dC_srt ht c
theorem dT_srt {d : Nat} : ∀ t, t ≤ 48 → srtD (dT K N d t)
  | 0, _ => List.Pairwise.nil
  | t + 1, ht => by
    have e : dT K N d (t + 1) = dT K N d t ++ dC K d t N := rfl
    rw [e]
    refine List.pairwise_append.mpr ⟨dT_srt t (by omega), dC_srt (by omega) N, fun x hx y hy => ?_⟩
    obtain ⟨a1, a2, -⟩ := dT_in t (by omega) x hx
    obtain ⟨b1, b2, -⟩ := dC_in (by omega) N y hy
    unfold dbg
    rw [a1, b1, b2]
    omega
theorem dD_srt : ∀ d, srtD (dD K N d)
  | 0 => List.Pairwise.nil
  | d + 1 => by
    have e : dD K N (d + 1) = dD K N d ++ dT K N d 48 := rfl
    rw [e]
    refine List.pairwise_append.mpr ⟨dD_srt d, dT_srt 48 (Nat.le_refl _), fun x hx y hy => ?_⟩
    obtain ⟨a1, a2, -⟩ := dD_in d x hx
    obtain ⟨b1, b2, -⟩ := dT_in 48 (Nat.le_refl _) y hy
    unfold dbg
    rw [b1]
    omega
theorem srtD_at {l : List Du} (h : srtD l) {i j : Nat} (hij : i < j) (hj : j < l.length) : dbg (l.getD i du0) ≤ dbg (l.getD j du0) := by
  have := List.pairwise_iff_getElem.mp h i j (by omega) hj hij
  rw [List.getD_eq_getElem?_getD, List.getD_eq_getElem?_getD, List.getElem?_eq_getElem (by omega), List.getElem?_eq_getElem hj]
  exact this
/-- the slots of a list of duties -/
def slL : List Du → Nat
  | [] => 0
  | x :: l => x.2.2.2 + slL l
theorem slL_app : ∀ a b : List Du, slL (a ++ b) = slL a + slL b
  | [], b => by show slL b = 0 + slL b; omega
  | x :: a, b => by
    show x.2.2.2 + slL (a ++ b) = x.2.2.2 + slL a + slL b
    rw [slL_app a b]
    omega
def smN (g : Nat → Nat) : Nat → Nat
  | 0 => 0
  | n + 1 => smN g n + g n
theorem smN_add (f g : Nat → Nat) : ∀ n, smN (fun i => f i + g i) n = smN f n + smN g n
  | 0 => rfl
  | n + 1 => by
    show smN (fun i => f i + g i) n + (f n + g n) = smN f n + f n + (smN g n + g n)
    rw [smN_add f g n]
    omega
def sR (p : Nat → Bool) (t : Nat) : Nat := if stB p t then rl p (48 - t) t else 0
theorem sR_sum (p : Nat → Bool) : ∀ T, T ≤ 48 → smN (sR p) T = cnt p T + (if 0 < T ∧ p (T - 1) = true then rl p (48 - T) T else 0)
  | 0, _ => rfl
  | T + 1, h => by
    have ih := sR_sum p T (by omega)
    have hr := rl_s (p := p) (t := T) (by omega)
    show smN (sR p) T + sR p T = _
    rw [ih, cnt_s, show T + 1 - 1 = T from rfl]
    unfold sR stB
    cases hp : p T with
    | false =>
      rw [hp, bf] at hr
      rw [hr, Bool.false_and, bf, if_neg (show ¬ (0 < T + 1 ∧ false = true) from fun z => by cases z.2), bf]
      split <;> rfl
    | true =>
      rw [hp, bt] at hr
      rw [if_pos (show 0 < T + 1 ∧ true = true from ⟨Nat.succ_pos _, rfl⟩), bt, Bool.true_and, hr]
      by_cases g : 0 < T ∧ p (T - 1) = true
      · rw [if_pos g, decide_eq_true g.1, g.2]
        show cnt p T + (rl p (48 - (T + 1)) (T + 1) + 1) + 0 = _
        omega
      · rw [if_neg g]
        have e : (decide (0 < T) && p (T - 1)) = false := by
          by_cases g1 : 0 < T
          · cases hq : p (T - 1) with
            | false => simp
            | true => exact absurd ⟨g1, hq⟩ g
          · rw [decide_eq_false g1]; rfl
        rw [e]
        show cnt p T + 0 + (rl p (48 - (T + 1)) (T + 1) + 1) = _
        omega
theorem sR_all (p : Nat → Bool) : smN (sR p) 48 = cnt p 48 := by
  rw [sR_sum p 48 (Nat.le_refl _)]
  split <;> rfl
theorem sl_dC (d t : Nat) : ∀ c, slL (dC K d t c) = smN (fun i => sR (K i d) t) c
  | 0 => rfl
  | c + 1 => by
    have e : dC K d t (c + 1) = if stB (K c d) t then dC K d t c ++ [(c, d, t, rl (K c d) (48 - t) t)] else dC K d t c := rfl
    show _ = smN (fun i => sR (K i d) t) c + sR (K c d) t
    rw [e, ← sl_dC d t c]
    unfold sR
    cases stB (K c d) t with
    | true => rw [bt, bt, slL_app]; rfl
    | false => rw [bf, bf]; rfl
theorem sl_dT (d : Nat) : ∀ t, slL (dT K N d t) = smN (fun i => smN (sR (K i d)) t) N
  | 0 => by
    show 0 = smN (fun _ => 0) N
    induction N with
    | zero => rfl
    | succ n ih => show 0 = smN (fun _ => 0) n + 0; omega
  | t + 1 => by
    have e : dT K N d (t + 1) = dT K N d t ++ dC K d t N := rfl
    rw [e, slL_app, sl_dT d t, sl_dC]
    exact (smN_add (fun i => smN (sR (K i d)) t) (fun i => sR (K i d) t) N).symm
theorem sl_dD : ∀ d, slL (dD K N d) = smN (fun i => smN (fun e => cnt (K i e) 48) d) N
  | 0 => by
    show 0 = smN (fun _ => 0) N
    induction N with
    | zero => rfl
    | succ n ih => show 0 = smN (fun _ => 0) n + 0; omega
  | d + 1 => by
    have e : dD K N (d + 1) = dD K N d ++ dT K N d 48 := rfl
    have e2 : (fun i => smN (sR (K i d)) 48) = fun i => cnt (K i d) 48 := funext fun i => sR_all _
    rw [e, slL_app, sl_dD d, sl_dT, e2]
    exact (smN_add (fun i => smN (fun e => cnt (K i e) 48) d) (fun i => cnt (K i d) 48) N).symm
end
theorem kpt_sm {B : Bk} (w : WF B) {c : Nat} (hc2 : (c : Int) < B 8 1) : ∀ d, ((smN (fun e => cnt (kp B c e) 48) d : Nat) : Int) = kpt B c d
  | 0 => rfl
  | d + 1 => by
    have ih := kpt_sm w hc2 d
    have hk : ((cnt (kp B c d) 48 : Nat) : Int) = kv (dpl B c d (ovr B c d)) := by
      cases hx : dpl B c d (ovr B c d) with
      | none =>
        rw [cnt_none fun i _ => kp_none w (by omega) hc2 hx i]
        rfl
      | some y =>
        obtain ⟨v, o', mm, l⟩ := y
        rw [cnt_congr fun i _ => kp_some w (by omega) hc2 hx i]
        exact (dpl_v w (by omega) hc2 hx).symm
    show ((smN (fun e => cnt (kp B c e) 48) d + cnt (kp B c d) 48 : Nat) : Int) = kpt B c d + kv (dpl B c d (ovr B c d))
    omega
theorem sl_dL {B : Bk} (w : WF B) : ∀ a : Nat, (a : Int) ≤ B 8 1 → ((smN (fun i => smN (fun e => cnt (KK B i e) 48) 5) a : Nat) : Int) = ktB B a
  | 0, _ => rfl
  | a + 1, h => by
    have ih := sl_dL w a (by omega)
    have h2 := kpt_sm w (c := a) (by omega) 5
    have h3 : smN (fun e => cnt (KK B a e) 48) 5 = smN (fun e => cnt (kp B a e) 48) 5 := rfl
    show ((smN (fun i => smN (fun e => cnt (KK B i e) 48) 5) a + smN (fun e => cnt (KK B a e) 48) 5 : Nat) : Int) = ktB B a + kpt B a 5
    rw [h3]
    omega
