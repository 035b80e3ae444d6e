/-! ARITHMETIC of the mirrors: ints and longs as whole numbers, bits, counts, loops -/
theorem jadd_ok {a b : Int} (h1 : -2147483648 ≤ a + b) (h2 : a + b ≤ 2147483647) : jadd a b = a + b := by
  unfold jadd; rw [← Int32.ofInt_add]; exact oi32 ⟨h1, h2⟩
theorem jsub_ok {a b : Int} (h1 : -2147483648 ≤ a - b) (h2 : a - b ≤ 2147483647) : jsub a b = a - b := by
  unfold jsub; rw [← Int32.ofInt_sub]; exact oi32 ⟨h1, h2⟩
theorem jmul_ok {a b : Int} (h1 : -2147483648 ≤ a * b) (h2 : a * b ≤ 2147483647) : jmul a b = a * b := by
  unfold jmul; rw [← Int32.ofInt_mul]; exact oi32 ⟨h1, h2⟩
theorem jdiv_ok {a b : Int} (h0 : 0 ≤ a) (h1 : a ≤ 2147483647) (h2 : 0 < b) (h3 : b ≤ 2147483647) : jdiv a b = a / b := by
  unfold jdiv
  rw [Int32.toInt_div, oi32 ⟨by omega, h1⟩, oi32 ⟨by omega, h3⟩, Int.tdiv_eq_ediv_of_nonneg h0]
  have : 0 ≤ a / b := Int.ediv_nonneg h0 (by omega)
  have : a / b ≤ a := Int.ediv_le_self b h0
  exact Int.bmod_eq_of_le (by omega) (by omega)
theorem jrem_ok {a b : Int} (h0 : 0 ≤ a) (h1 : a ≤ 2147483647) (h2 : 0 < b) (h3 : b ≤ 2147483647) : jrem a b = a % b := by
  have hd := jdiv_ok h0 h1 h2 h3
  have e : jrem a b = jsub a (jmul (jdiv a b) b) := by
    unfold jrem jsub jmul jdiv
    rw [Int32.ofInt_toInt, Int32.ofInt_toInt]
  have h4 : 0 ≤ a % b := Int.emod_nonneg a (by omega)
  have h5 : a % b < b := Int.emod_lt_of_pos a h2
  have h6 : b * (a / b) + a % b = a := Int.mul_ediv_add_emod a b
  have h7 : a / b * b = b * (a / b) := Int.mul_comm _ _
  have h8 : 0 ≤ b * (a / b) := Int.mul_nonneg (by omega) (Int.ediv_nonneg h0 (by omega))
  rw [e, hd, jmul_ok (by omega) (by omega), jsub_ok (by omega) (by omega)]
  omega
theorem lj_ok {a : Int} (h1 : -2147483648 ≤ a) (h2 : a ≤ 2147483647) : lj a = a := by
  unfold lj
  rw [Int64.toInt_toInt32, oi64 ⟨by omega, by omega⟩]
  exact Int.bmod_eq_of_le (by omega) (by omega)
/-- whole numbers as bits -/
theorem n_of {x : Int} (h : 0 ≤ x) : ∃ n : Nat, x = n := Int.eq_ofNat_of_zero_le h
theorem of_nI {n : Nat} (h : n < 2 ^ 31) : Int32.ofInt (n : Int) = nI n := by
  rw [← Int32.toInt_inj, oi32 ⟨by omega, by omega⟩, nI_toInt h]
theorem nI_bv (n : Nat) : (nI n).toBitVec = BitVec.ofNat 32 n := rfl
theorem nI_and (a b : Nat) : nI a &&& nI b = nI (a &&& b) := by
  apply Int32.toBitVec_inj.1
  show BitVec.ofNat 32 a &&& BitVec.ofNat 32 b = BitVec.ofNat 32 (a &&& b)
  apply BitVec.eq_of_getLsbD_eq
  intro i hi
  simp [hi]
theorem nI_or (a b : Nat) : nI a ||| nI b = nI (a ||| b) := by
  apply Int32.toBitVec_inj.1
  show BitVec.ofNat 32 a ||| BitVec.ofNat 32 b = BitVec.ofNat 32 (a ||| b)
  apply BitVec.eq_of_getLsbD_eq
  intro i hi
  simp [hi]
theorem nI_xor (a b : Nat) : nI a ^^^ nI b = nI (a ^^^ b) := by
  apply Int32.toBitVec_inj.1
  show BitVec.ofNat 32 a ^^^ BitVec.ofNat 32 b = BitVec.ofNat 32 (a ^^^ b)
  apply BitVec.eq_of_getLsbD_eq
  intro i hi
  simp [hi]
theorem jand_n {a b : Nat} (ha : a < 2 ^ 31) (hb : b < 2 ^ 31) : jand (a : Int) (b : Int) = ((a &&& b : Nat) : Int) := by
  unfold jand
  rw [of_nI ha, of_nI hb, nI_and, nI_toInt (Nat.and_lt_two_pow _ hb)]
theorem jor_n {a b : Nat} (ha : a < 2 ^ 31) (hb : b < 2 ^ 31) : jor (a : Int) (b : Int) = ((a ||| b : Nat) : Int) := by
  unfold jor
  rw [of_nI ha, of_nI hb, nI_or, nI_toInt (Nat.or_lt_two_pow ha hb)]
theorem jxor_n {a b : Nat} (ha : a < 2 ^ 31) (hb : b < 2 ^ 31) : jxor (a : Int) (b : Int) = ((a ^^^ b : Nat) : Int) := by
  unfold jxor
  rw [of_nI ha, of_nI hb, nI_xor, nI_toInt (Nat.xor_lt_two_pow ha hb)]
theorem jshl_n {p : Nat} (hp : p < 31) : jshl 1 (p : Int) = ((2 ^ p : Nat) : Int) := (by decide +kernel : ∀ p : Nat, p < 31 → jshl 1 (p : Int) = ((2 ^ p : Nat) : Int)) p hp
theorem sh31 : ∀ n : Nat, n < 32 → ((nI n &&& 31).toBitVec.smod 32).toNat = n := by decide +kernel
theorem jshr_n {a p : Nat} (ha : a < 2 ^ 31) (hp : p < 31) : jshr (a : Int) (p : Int) = ((a >>> p : Nat) : Int) := by
  unfold jshr
  rw [of_nI ha, of_nI (by omega)]
  have e : nI a >>> (nI p &&& 31) = nI (a >>> p) := by
    apply Int32.toBitVec_inj.1
    rw [Int32.toBitVec_shiftRight]
    show ((nI a).toBitVec.sshiftRight ((nI p &&& 31).toBitVec.smod 32).toNat) = _
    rw [sh31 p (by omega), nI_bv, nI_bv]
    apply BitVec.eq_of_toInt_eq
    rw [BitVec.toInt_sshiftRight]
    have h1 : a >>> p < 2 ^ 31 := Nat.lt_of_le_of_lt (by rw [Nat.shiftRight_eq_div_pow]; exact Nat.div_le_self _ _) ha
    have e1 : (BitVec.ofNat 32 a).toInt = (a : Int) := nI_toInt ha
    have e2 : (BitVec.ofNat 32 (a >>> p)).toInt = ((a >>> p : Nat) : Int) := nI_toInt h1
    rw [e1, e2]
    rfl
  rw [e, nI_toInt]
  exact Nat.lt_of_le_of_lt (by rw [Nat.shiftRight_eq_div_pow]; exact Nat.div_le_self _ _) ha
/-- a mask without one bit -/
def clr (m p : Nat) : Nat := m &&& (m ^^^ 2 ^ p)
theorem clr_tb (m p i : Nat) : (clr m p).testBit i = (m.testBit i && !decide (i = p)) := by
  unfold clr
  rw [Nat.testBit_and, Nat.testBit_xor, Nat.testBit_two_pow]
  by_cases h : p = i
  · subst h; simp
  · have h2 : ¬ i = p := fun e => h e.symm
    simp [h, h2]
theorem clr_lt {m p k : Nat} (h : m < 2 ^ k) : clr m p < 2 ^ k := Nat.lt_of_le_of_lt Nat.and_le_left h
theorem clr_le (m p : Nat) : clr m p ≤ m := Nat.and_le_left
theorem jclr_n {m p : Nat} (hm : m < 4096) (hp : p < 12) : jand (m : Int) (jxor (jshl 1 (p : Int)) (-1)) = ((clr m p : Nat) : Int) := by
  unfold jand jxor
  have h2 : (2 : Nat) ^ p < 2 ^ 12 := Nat.pow_lt_pow_right (by decide) hp
  rw [jshl_n (by omega), of_nI (by omega), Int32.ofInt_toInt, of_nI (by omega)]
  have e : nI m &&& (nI (2 ^ p) ^^^ Int32.ofInt (-1)) = nI (clr m p) := by
    apply Int32.toBitVec_inj.1
    show BitVec.ofNat 32 m &&& (BitVec.ofNat 32 (2 ^ p) ^^^ BitVec.allOnes 32) = BitVec.ofNat 32 (clr m p)
    apply BitVec.eq_of_getLsbD_eq
    intro i hi
    simp only [BitVec.getLsbD_and, BitVec.getLsbD_xor, BitVec.getLsbD_ofNat, BitVec.getLsbD_allOnes, hi, decide_true, Bool.true_and, clr_tb, Nat.testBit_two_pow]
    by_cases q : p = i
    · subst q; simp
    · have q2 : ¬ i = p := fun e => q e.symm
      simp [q, q2]
  rw [e, nI_toInt (by have := clr_lt (p := p) (k := 12) hm; omega)]
/-- longs -/
theorem of_lN {n : Nat} (h : n < 2 ^ 63) : Int64.ofInt (n : Int) = lN n := by
  rw [← Int64.toInt_inj, oi64 ⟨by omega, by omega⟩]
  exact (lg_ofNat_toInt (by omega)).symm
theorem lN_ti {n : Nat} (h : n < 2 ^ 63) : (lN n).toInt = (n : Int) := lg_ofNat_toInt (by omega)
theorem lN_and (a b : Nat) : lN a &&& lN b = lN (a &&& b) := by
  apply Int64.toBitVec_inj.1
  show BitVec.ofNat 64 a &&& BitVec.ofNat 64 b = BitVec.ofNat 64 (a &&& b)
  apply BitVec.eq_of_getLsbD_eq
  intro i hi
  simp [hi]
theorem lN_or (a b : Nat) : lN a ||| lN b = lN (a ||| b) := by
  apply Int64.toBitVec_inj.1
  show BitVec.ofNat 64 a ||| BitVec.ofNat 64 b = BitVec.ofNat 64 (a ||| b)
  apply BitVec.eq_of_getLsbD_eq
  intro i hi
  simp [hi]
theorem kand_n {a b : Nat} (ha : a < 2 ^ 63) (hb : b < 2 ^ 63) : kand (a : Int) (b : Int) = ((a &&& b : Nat) : Int) := by
  unfold kand
  rw [of_lN ha, of_lN hb, lN_and, lN_ti (Nat.and_lt_two_pow _ hb)]
theorem kor_n {a b : Nat} (ha : a < 2 ^ 63) (hb : b < 2 ^ 63) : kor (a : Int) (b : Int) = ((a ||| b : Nat) : Int) := by
  unfold kor
  rw [of_lN ha, of_lN hb, lN_or, lN_ti (Nat.or_lt_two_pow ha hb)]
def andn (a b : Nat) : Nat := a &&& (a ^^^ b)
theorem andn_tb (a b i : Nat) : (andn a b).testBit i = (a.testBit i && !b.testBit i) := by
  unfold andn
  rw [Nat.testBit_and, Nat.testBit_xor]
  cases a.testBit i <;> cases b.testBit i <;> rfl
theorem andn_lt {a b k : Nat} (h : a < 2 ^ k) : andn a b < 2 ^ k := Nat.lt_of_le_of_lt Nat.and_le_left h
theorem kandn_n {a b : Nat} (ha : a < 2 ^ 63) (hb : b < 2 ^ 63) : kand (a : Int) (kxor (b : Int) (-1)) = ((andn a b : Nat) : Int) := by
  unfold kand kxor
  rw [of_lN hb, Int64.ofInt_toInt, of_lN ha]
  have e : lN a &&& (lN b ^^^ Int64.ofInt (-1)) = lN (andn a b) := by
    apply Int64.toBitVec_inj.1
    show BitVec.ofNat 64 a &&& (BitVec.ofNat 64 b ^^^ BitVec.allOnes 64) = BitVec.ofNat 64 (andn a b)
    apply BitVec.eq_of_getLsbD_eq
    intro i hi
    simp only [BitVec.getLsbD_and, BitVec.getLsbD_xor, BitVec.getLsbD_ofNat, BitVec.getLsbD_allOnes, hi, decide_true, Bool.true_and, andn_tb]
    cases a.testBit i <;> cases b.testBit i <;> rfl
  rw [e, lN_ti (andn_lt ha)]
/-- the mask of what holds, the count of what holds -/
def mset (f : Nat → Bool) : Nat → Nat
  | 0 => 0
  | n + 1 => if f n then mset f n ||| 2 ^ n else mset f n
theorem mset_tb (f : Nat → Bool) (i : Nat) : ∀ n, (mset f n).testBit i = (decide (i < n) && f i)
  | 0 => by simp [mset]
  | n + 1 => by
    have ih := mset_tb f i n
    unfold mset
    by_cases hn : f n = true
    · rw [if_pos hn, Nat.testBit_or, ih, Nat.testBit_two_pow]
      by_cases h : n = i
      · subst h; simp [hn]
      · by_cases h2 : i < n
        · simp [h, h2, show i < n + 1 by omega]
        · simp [h, h2, show ¬ i < n + 1 by omega]
    · rw [if_neg hn, ih]
      by_cases h : i = n
      · subst h
        simp at hn
        simp [hn]
      · by_cases h2 : i < n
        · simp [h2, show i < n + 1 by omega]
        · simp [h2, show ¬ i < n + 1 by omega]
theorem mset_lt (f : Nat → Bool) : ∀ n, mset f n < 2 ^ n
  | 0 => by simp [mset]
  | n + 1 => by
    have ih := mset_lt f n
    unfold mset
    have h2 : 2 ^ (n + 1) = 2 ^ n + 2 ^ n := by rw [Nat.pow_succ]; omega
    split
    · exact Nat.or_lt_two_pow (by omega) (by omega)
    · omega
def cnt (f : Nat → Bool) : Nat → Nat
  | 0 => 0
  | n + 1 => if f n then cnt f n + 1 else cnt f n
theorem cnt_congr {f g : Nat → Bool} : ∀ {n : Nat}, (∀ i, i < n → f i = g i) → cnt f n = cnt g n
  | 0, _ => rfl
  | n + 1, h => by unfold cnt; rw [cnt_congr (n := n) (fun i hi => h i (by omega)), h n (by omega)]
theorem cnt_le (f : Nat → Bool) : ∀ n, cnt f n ≤ n
  | 0 => Nat.le_refl _
  | n + 1 => by have := cnt_le f n; unfold cnt; split <;> omega
theorem mset_congr {f g : Nat → Bool} : ∀ {n : Nat}, (∀ i, i < n → f i = g i) → mset f n = mset g n
  | 0, _ => rfl
  | n + 1, h => by unfold mset; rw [mset_congr (n := n) (fun i hi => h i (by omega)), h n (by omega)]
theorem tb_ext {a b n : Nat} (ha : a < 2 ^ n) (hb : b < 2 ^ n) (h : ∀ i, i < n → a.testBit i = b.testBit i) : a = b := by
  apply Nat.eq_of_testBit_eq
  intro i
  by_cases hi : i < n
  · exact h i hi
  · have h2 : 2 ^ n ≤ 2 ^ i := Nat.pow_le_pow_right (by decide) (by omega)
    rw [Nat.testBit_lt_two_pow (by omega), Nat.testBit_lt_two_pow (by omega)]
/-- a span of slots -/
def spn (a b : Nat) : Nat := mset (fun i => decide (a ≤ i)) b
theorem spn_tb (a b i : Nat) : (spn a b).testBit i = (decide (a ≤ i) && decide (i < b)) := by
  unfold spn; rw [mset_tb, Bool.and_comm]
theorem spn_lt {a b : Nat} (h : b ≤ 48) : spn a b < 2 ^ 48 := Nat.lt_of_lt_of_le (mset_lt _ _) (Nat.pow_le_pow_right (by decide) h)
theorem span_n {σ : Mem} {a b : Nat} (ha : a ≤ 48) (hb : b ≤ 48) : f_X10_span σ (a : Int) (b : Int) = some ((spn a b : Nat) : Int) := by
  unfold f_X10_span
  have := (by decide +kernel : ∀ a : Nat, a < 49 → ∀ b : Nat, b < 49 → kand (ksub (kshl 1 (b : Int)) 1) (kxor (ksub (kshl 1 (a : Int)) 1) (-1)) = ((spn a b : Nat) : Int)) a (by omega) b (by omega)
  rw [this]
theorem hasBit_n {σ : Mem} {a p : Nat} (ha : a < 2 ^ 31) (hp : p < 31) : f_X10_hasBit σ (a : Int) (p : Int) = some (if a.testBit p then 1 else 0) := by
  unfold f_X10_hasBit
  have h1 : a >>> p < 2 ^ 31 := Nat.lt_of_le_of_lt (by rw [Nat.shiftRight_eq_div_pow]; exact Nat.div_le_self _ _) ha
  rw [jshr_n ha hp, show (1 : Int) = ((1 : Nat) : Int) from rfl, jand_n h1 (by decide)]
  rw [Nat.testBit_eq_decide_div_mod_eq, Nat.and_one_is_mod, Nat.shiftRight_eq_div_pow]
  have h2 : a / 2 ^ p % 2 = 0 ∨ a / 2 ^ p % 2 = 1 := by omega
  rcases h2 with h | h <;> rw [h] <;> rfl
-- counts of bits by the JDK
set_option maxRecDepth 100000 in
theorem bitCount32_n {σ : Mem} {n : Nat} (h : n < 4096) : f_J6_bitCount_0f7a4 σ (n : Int) = some ((cnt (fun i => n.testBit i) 12 : Nat) : Int) := by
  have e : f_J6_bitCount_0f7a4 σ (n : Int) = f_J6_bitCount_0f7a4 (fun _ _ => 0) (n : Int) := rfl
  rw [e]
  exact (by decide +kernel : ∀ n : Nat, n < 4096 → f_J6_bitCount_0f7a4 (fun _ _ => 0) (n : Int) = some ((cnt (fun i => n.testBit i) 12 : Nat) : Int)) n h
theorem wb_inj {a b : Int64} (h : a.toBitVec = b.toBitVec) : a = b := Int64.toBitVec_inj.mp h
theorem wb_tb (n : Nat) : (lN n).toBitVec = BitVec.ofNat 64 n := rfl
theorem wb_tn {n : Nat} (h : n < 2 ^ 64) : (lN n).toBitVec.toNat = n := by rw [wb_tb, BitVec.toNat_ofNat, Nat.mod_eq_of_lt h]
theorem wb_c : ∀ k, k < 64 → ((nI k).toInt64 &&& 63) = lN k := by decide +kernel
theorem wb_cu : ∀ k, k < 64 → ((nI k).toInt64.toUInt64 &&& Int64.toUInt64 63) = UInt64.ofNat k := by decide +kernel
theorem wb_sm : ∀ k, k < 64 → (BitVec.ofNat 64 k).smod 64 = BitVec.ofNat 64 k := by decide +kernel
theorem wb_shr {n k : Nat} (hn : n < 2 ^ 64) (hk : k < 64) : ((lN n).toUInt64 >>> ((nI k).toInt64.toUInt64 &&& Int64.toUInt64 63)).toInt64 = lN (n / 2 ^ k) := by
  rw [wb_cu k hk]
  apply wb_inj
  apply BitVec.eq_of_toNat_eq
  show ((lN n).toUInt64 >>> UInt64.ofNat k).toNat = (BitVec.ofNat 64 _).toNat
  have h1 : (UInt64.ofNat k).toNat = k := by
    show (BitVec.ofNat 64 k).toNat = k
    rw [BitVec.toNat_ofNat, Nat.mod_eq_of_lt (by omega)]
  have h2 : (lN n).toUInt64.toNat = n := wb_tn hn
  rw [UInt64.toNat_shiftRight, h1, h2, Nat.mod_eq_of_lt hk, Nat.shiftRight_eq_div_pow, BitVec.toNat_ofNat, Nat.mod_eq_of_lt (Nat.lt_of_le_of_lt (Nat.div_le_self _ _) hn)]
theorem kushr_n {a k : Nat} (ha : a < 2 ^ 63) (hk : k < 31) : kushr (a : Int) (k : Int) = ((a / 2 ^ k : Nat) : Int) := by
  unfold kushr
  rw [of_lN ha, of_nI (by omega), wb_shr (by omega) (by omega), lN_ti (Nat.lt_of_le_of_lt (Nat.div_le_self _ _) ha)]
theorem kushr_32 {a : Nat} (ha : a < 2 ^ 63) : kushr (a : Int) 32 = ((a / 2 ^ 32 : Nat) : Int) := by
  unfold kushr
  rw [of_lN ha, show Int32.ofInt 32 = nI 32 from rfl, wb_shr (by omega) (by decide), lN_ti (Nat.lt_of_le_of_lt (Nat.div_le_self _ _) ha)]
theorem kadd_n {a b : Nat} (h : a + b < 2 ^ 63) : kadd (a : Int) (b : Int) = ((a + b : Nat) : Int) := by
  unfold kadd; rw [← Int64.ofInt_add, oi64 ⟨by omega, by omega⟩]; omega
theorem ksub_n {a b : Nat} (ha : a < 2 ^ 63) (h : b ≤ a) : ksub (a : Int) (b : Int) = ((a - b : Nat) : Int) := by
  unfold ksub; rw [← Int64.ofInt_sub, oi64 ⟨by omega, by omega⟩]; omega
/-- lanes of eight bits -/
def rep (c : Nat) : Nat → Nat
  | 0 => 0
  | k + 1 => 256 * rep c k + c
theorem lane_and {h l H L : Nat} (hl : l < 256) (hL : L < 256) : (256 * h + l) &&& (256 * H + L) = 256 * (h &&& H) + (l &&& L) := by
  have h1 := Nat.and_div_two_pow (a := 256 * h + l) (b := 256 * H + L) (n := 8)
  have h2 := Nat.and_mod_two_pow (a := 256 * h + l) (b := 256 * H + L) (n := 8)
  rw [show (2 : Nat) ^ 8 = 256 from rfl] at h1 h2
  rw [show (256 * h + l) / 256 = h by omega, show (256 * H + L) / 256 = H by omega] at h1
  rw [show (256 * h + l) % 256 = l by omega, show (256 * H + L) % 256 = L by omega] at h2
  have h3 := Nat.div_add_mod ((256 * h + l) &&& (256 * H + L)) 256
  rw [h1, h2] at h3
  omega
def ln1 (k n : Nat) : Nat := n - ((n / 2) &&& rep 85 k)
def ln2 (k n : Nat) : Nat := (n &&& rep 51 k) + ((n / 4) &&& rep 51 k)
def ln3 (k n : Nat) : Nat := (n + n / 16) &&& rep 15 k
theorem ln1_s {k h l : Nat} (hl : l < 256) : ln1 (k + 1) (256 * h + l) = 256 * ln1 k h + (l - ((l / 2) &&& 85)) := by
  have e1 : (256 * h + l) / 2 = 256 * (h / 2) + (128 * (h % 2) + l / 2) := by omega
  have e2 := (by decide +kernel : ∀ e, e < 2 → ∀ l, l < 256 → (128 * e + l / 2) &&& 85 = (l / 2) &&& 85) (h % 2) (by omega) l hl
  have e3 : (h / 2) &&& rep 85 k ≤ h / 2 := Nat.and_le_left
  have e4 : (l / 2) &&& 85 ≤ l / 2 := Nat.and_le_left
  unfold ln1
  rw [e1, show rep 85 (k + 1) = 256 * rep 85 k + 85 from rfl, lane_and (by omega) (by decide), e2]
  omega
theorem ln2_s {k h l : Nat} (hl : l < 256) : ln2 (k + 1) (256 * h + l) = 256 * ln2 k h + ((l &&& 51) + ((l / 4) &&& 51)) := by
  have e1 : (256 * h + l) / 4 = 256 * (h / 4) + (64 * (h % 4) + l / 4) := by omega
  have e2 := (by decide +kernel : ∀ e, e < 4 → ∀ l, l < 256 → (64 * e + l / 4) &&& 51 = (l / 4) &&& 51) (h % 4) (by omega) l hl
  unfold ln2
  rw [e1, show rep 51 (k + 1) = 256 * rep 51 k + 51 from rfl, lane_and hl (by decide), lane_and (by omega) (by decide), e2]
  omega
theorem ln3_s {k h l : Nat} (hl : l ≤ 68) (hh : h % 16 ≤ 4) : ln3 (k + 1) (256 * h + l) = 256 * ln3 k h + ((l + l / 16) &&& 15) := by
  have e1 : 256 * h + l + (256 * h + l) / 16 = 256 * (h + h / 16) + (l + 16 * (h % 16) + l / 16) := by omega
  have e2 := (by decide +kernel : ∀ e, e < 5 → ∀ l, l < 69 → (l + 16 * e + l / 16) &&& 15 = (l + l / 16) &&& 15) (h % 16) (by omega) l (by omega)
  unfold ln3
  rw [e1, show rep 15 (k + 1) = 256 * rep 15 k + 15 from rfl, lane_and (by omega) (by decide), e2]
def by2 (l : Nat) : Nat := ((l - ((l / 2) &&& 85)) &&& 51) + (((l - ((l / 2) &&& 85)) / 4) &&& 51)
theorem by2_ok : ∀ l, l < 256 → by2 l ≤ 68 ∧ by2 l % 16 ≤ 4 ∧ (by2 l + by2 l / 16) &&& 15 = cnt (fun i => l.testBit i) 8 := by decide +kernel
theorem ln12_s {k h l : Nat} (hl : l < 256) : ln2 (k + 1) (ln1 (k + 1) (256 * h + l)) = 256 * ln2 k (ln1 k h) + by2 l := by
  rw [ln1_s hl, ln2_s (by omega)]; rfl
theorem ln12_m : ∀ k h, ln2 k (ln1 k h) % 16 ≤ 4
  | 0, h => by unfold ln2 rep; simp
  | k + 1, h => by
    have e : h = 256 * (h / 256) + h % 256 := (Nat.div_add_mod h 256).symm
    rw [e, ln12_s (Nat.mod_lt _ (by decide))]
    have := (by2_ok (h % 256) (Nat.mod_lt _ (by decide))).2.1
    omega
theorem ln_s {k h l : Nat} (hl : l < 256) : ln3 (k + 1) (ln2 (k + 1) (ln1 (k + 1) (256 * h + l))) = 256 * ln3 k (ln2 k (ln1 k h)) + cnt (fun i => l.testBit i) 8 := by
  rw [ln12_s hl, ln3_s (by2_ok l hl).1 (ln12_m k h), (by2_ok l hl).2.2]
theorem cnt_add (f : Nat → Bool) (m : Nat) : ∀ n, cnt f (m + n) = cnt f m + cnt (fun i => f (m + i)) n
  | 0 => rfl
  | n + 1 => by
    have ih := cnt_add f m n
    have e1 : cnt f (m + (n + 1)) = if f (m + n) then cnt f (m + n) + 1 else cnt f (m + n) := rfl
    have e2 : cnt (fun i => f (m + i)) (n + 1) = if f (m + n) then cnt (fun i => f (m + i)) n + 1 else cnt (fun i => f (m + i)) n := rfl
    rw [e1, e2, ih]
    split <;> omega
theorem cnt_8 {n m : Nat} : cnt (fun i => n.testBit i) (8 + m) = cnt (fun i => (n % 256).testBit i) 8 + cnt (fun i => (n / 256).testBit i) m := by
  rw [cnt_add]
  congr 1
  · refine cnt_congr fun i hi => ?_
    rw [show 256 = 2 ^ 8 from rfl, Nat.testBit_mod_two_pow]
    simp [hi]
  · refine cnt_congr fun i hi => ?_
    rw [show 256 = 2 ^ 8 from rfl, Nat.testBit_div_two_pow, Nat.add_comm]
theorem ln_all {n : Nat} (h : n < 2 ^ 48) : ∃ c0 c1 c2 c3 c4 c5 : Nat, c0 ≤ 8 ∧ c1 ≤ 8 ∧ c2 ≤ 8 ∧ c3 ≤ 8 ∧ c4 ≤ 8 ∧ c5 ≤ 8 ∧ ln3 6 (ln2 6 (ln1 6 n)) = c0 + 256 * c1 + 65536 * c2 + 16777216 * c3 + 4294967296 * c4 + 1099511627776 * c5 ∧ cnt (fun i => n.testBit i) 48 = c0 + c1 + c2 + c3 + c4 + c5 := by
  have sp : ∀ x : Nat, x = 256 * (x / 256) + x % 256 := fun x => (Nat.div_add_mod x 256).symm
  have md : ∀ x : Nat, x % 256 < 256 := fun x => Nat.mod_lt _ (by decide)
  obtain ⟨n1, e1⟩ : ∃ z, z = n / 256 := ⟨_, rfl⟩
  obtain ⟨n2, e2⟩ : ∃ z, z = n1 / 256 := ⟨_, rfl⟩
  obtain ⟨n3, e3⟩ : ∃ z, z = n2 / 256 := ⟨_, rfl⟩
  obtain ⟨n4, e4⟩ : ∃ z, z = n3 / 256 := ⟨_, rfl⟩
  obtain ⟨n5, e5⟩ : ∃ z, z = n4 / 256 := ⟨_, rfl⟩
  have h6 : n5 / 256 = 0 := by omega
  refine ⟨cnt (fun i => (n % 256).testBit i) 8, cnt (fun i => (n1 % 256).testBit i) 8, cnt (fun i => (n2 % 256).testBit i) 8, cnt (fun i => (n3 % 256).testBit i) 8, cnt (fun i => (n4 % 256).testBit i) 8, cnt (fun i => (n5 % 256).testBit i) 8, cnt_le _ _, cnt_le _ _, cnt_le _ _, cnt_le _ _, cnt_le _ _, cnt_le _ _, ?_, ?_⟩
  · have step : ∀ k x, ln3 (k + 1) (ln2 (k + 1) (ln1 (k + 1) x)) = 256 * ln3 k (ln2 k (ln1 k (x / 256))) + cnt (fun i => (x % 256).testBit i) 8 := fun k x => by
      have := ln_s (k := k) (h := x / 256) (md x)
      rw [← sp x] at this
      exact this
    rw [step 5, ← e1, step 4, ← e2, step 3, ← e3, step 2, ← e4, step 1, ← e5, step 0]
    have z : ln3 0 (ln2 0 (ln1 0 (n5 / 256))) = 0 := by unfold ln3 rep; simp
    rw [z]
    omega
  · have q : ∀ m x, cnt (fun i => x.testBit i) (8 + m) = cnt (fun i => (x % 256).testBit i) 8 + cnt (fun i => (x / 256).testBit i) m := fun m x => cnt_8
    have g0 : cnt (fun i => n.testBit i) 48 = _ := q 40 n
    have g1 : cnt (fun i => n1.testBit i) 40 = _ := q 32 n1
    have g2 : cnt (fun i => n2.testBit i) 32 = _ := q 24 n2
    have g3 : cnt (fun i => n3.testBit i) 24 = _ := q 16 n3
    have g4 : cnt (fun i => n4.testBit i) 16 = _ := q 8 n4
    have g5 : cnt (fun i => n5.testBit i) 8 = _ := q 0 n5
    have g6 : cnt (fun i => (n5 / 256).testBit i) 0 = 0 := rfl
    rw [← e1] at g0
    rw [← e2] at g1
    rw [← e3] at g2
    rw [← e4] at g3
    rw [← e5] at g4
    rw [g0, g1, g2, g3, g4, g5, g6]
    omega
theorem lj_n {a : Nat} : lj (a : Int) = Int.bmod (a : Int) (2 ^ 32) ∨ 2 ^ 63 ≤ a := by
  by_cases h : a < 2 ^ 63
  · left; unfold lj; rw [Int64.toInt_toInt32, oi64 ⟨by omega, by omega⟩]
  · right; omega
theorem bitCount48_n {σ : Mem} {n : Nat} (h : n < 2 ^ 48) : f_J13_bitCount_95d88 σ (n : Int) = some ((cnt (fun i => n.testBit i) 48 : Nat) : Int) := by
  obtain ⟨c0, c1, c2, c3, c4, c5, h0, h1, h2, h3, h4, h5, hw, hc⟩ := ln_all h
  have m1 : (6148914691236517205 : Int) = ((6148914691236517205 : Nat) : Int) := rfl
  have m2 : (3689348814741910323 : Int) = ((3689348814741910323 : Nat) : Int) := rfl
  have m3 : (1085102592571150095 : Int) = ((1085102592571150095 : Nat) : Int) := rfl
  have r1 : ∀ x, x < 2 ^ 48 → x &&& 6148914691236517205 = x &&& rep 85 6 := fun x hx => by
    have := Nat.and_mod_two_pow (a := x) (b := 6148914691236517205) (n := 48)
    rw [Nat.mod_eq_of_lt hx, Nat.mod_eq_of_lt (Nat.lt_of_le_of_lt Nat.and_le_left hx)] at this
    rw [this]; rfl
  have r2 : ∀ x, x < 2 ^ 48 → x &&& 3689348814741910323 = x &&& rep 51 6 := fun x hx => by
    have := Nat.and_mod_two_pow (a := x) (b := 3689348814741910323) (n := 48)
    rw [Nat.mod_eq_of_lt hx, Nat.mod_eq_of_lt (Nat.lt_of_le_of_lt Nat.and_le_left hx)] at this
    rw [this]; rfl
  have r3 : ∀ x, x < 2 ^ 48 → x &&& 1085102592571150095 = x &&& rep 15 6 := fun x hx => by
    have := Nat.and_mod_two_pow (a := x) (b := 1085102592571150095) (n := 48)
    rw [Nat.mod_eq_of_lt hx, Nat.mod_eq_of_lt (Nat.lt_of_le_of_lt Nat.and_le_left hx)] at this
    rw [this]; rfl
  have d1 : n / 2 < 2 ^ 48 := by omega
  have a1 : (n / 2) &&& rep 85 6 ≤ n / 2 := Nat.and_le_left
  obtain ⟨v1, ev1⟩ : ∃ z, z = ln1 6 n := ⟨_, rfl⟩
  have b1 : v1 < 2 ^ 48 := by rw [ev1]; unfold ln1; omega
  obtain ⟨v2, ev2⟩ : ∃ z, z = ln2 6 v1 := ⟨_, rfl⟩
  have b2 : v2 < 2 ^ 48 := by
    have q1 : v1 &&& rep 51 6 ≤ rep 51 6 := Nat.and_le_right
    have q2 : (v1 / 4) &&& rep 51 6 ≤ rep 51 6 := Nat.and_le_right
    have q3 : rep 51 6 = 56294995342131 := by decide
    rw [ev2]; unfold ln2; omega
  obtain ⟨v3, ev3⟩ : ∃ z, z = ln3 6 v2 := ⟨_, rfl⟩
  have ev3' : v3 = c0 + 256 * c1 + 65536 * c2 + 16777216 * c3 + 4294967296 * c4 + 1099511627776 * c5 := by rw [ev3, ev2, ev1]; exact hw
  have b4 : v2 + v2 / 16 < 2 ^ 48 := by
    have q1 : v1 &&& rep 51 6 ≤ rep 51 6 := Nat.and_le_right
    have q2 : (v1 / 4) &&& rep 51 6 ≤ rep 51 6 := Nat.and_le_right
    have q3 : rep 51 6 = 56294995342131 := by decide
    have q4 : v2 ≤ 112589990684262 := by rw [ev2]; unfold ln2; omega
    omega
  unfold f_J13_bitCount_95d88
  simp only [Option.bind_some]
  have s1 : ksub (n : Int) (kand (kushr (n : Int) 1) 6148914691236517205) = (v1 : Int) := by
    rw [show (1 : Int) = ((1 : Nat) : Int) from rfl, kushr_n (by omega) (by decide), show n / 2 ^ 1 = n / 2 from rfl, m1, kand_n (by omega) (by decide), r1 _ (by omega), ksub_n (by omega) (by omega), ev1]; rfl
  rw [s1]
  have s2 : kadd (kand (v1 : Int) 3689348814741910323) (kand (kushr (v1 : Int) 2) 3689348814741910323) = (v2 : Int) := by
    rw [show (2 : Int) = ((2 : Nat) : Int) from rfl, kushr_n (by omega) (by decide), show v1 / 2 ^ 2 = v1 / 4 from rfl, m2, kand_n (by omega) (by decide), kand_n (by omega) (by decide), r2 _ (by omega), r2 _ (by omega)]
    have e : (v1 &&& rep 51 6) + ((v1 / 4) &&& rep 51 6) = v2 := by rw [ev2]; rfl
    rw [kadd_n (by omega), e]
  rw [s2]
  have s3 : kand (kadd (v2 : Int) (kushr (v2 : Int) 4)) 1085102592571150095 = (v3 : Int) := by
    rw [show (4 : Int) = ((4 : Nat) : Int) from rfl, kushr_n (by omega) (by decide), show v2 / 2 ^ 4 = v2 / 16 from rfl, kadd_n (by omega), m3, kand_n (by omega) (by decide), r3 _ b4, ev3]; rfl
  rw [s3]
  rw [show (8 : Int) = ((8 : Nat) : Int) from rfl, kushr_n (by omega) (by decide), kadd_n (by omega)]
  rw [show (16 : Int) = ((16 : Nat) : Int) from rfl, kushr_n (by omega) (by decide), kadd_n (by omega)]
  rw [kushr_32 (by omega), kadd_n (by omega)]
  rw [show (2 : Nat) ^ 8 = 256 from rfl, show (2 : Nat) ^ 16 = 65536 from rfl, show (2 : Nat) ^ 32 = 4294967296 from rfl]
  obtain ⟨w, ew⟩ : ∃ w, w = v3 + v3 / 256 + (v3 + v3 / 256) / 65536 + (v3 + v3 / 256 + (v3 + v3 / 256) / 65536) / 4294967296 := ⟨_, rfl⟩
  rw [← ew]
  have t1 : v3 / 256 = c1 + 256 * c2 + 65536 * c3 + 16777216 * c4 + 4294967296 * c5 := by omega
  have t2 : (v3 + v3 / 256) / 65536 = (c2 + c3) + 256 * (c3 + c4) + 65536 * (c4 + c5) + 16777216 * c5 := by rw [t1, ev3']; omega
  have t3 : (v3 + v3 / 256 + (v3 + v3 / 256) / 65536) / 4294967296 = (c4 + c5) + 256 * c5 := by rw [t2, t1, ev3']; omega
  rw [t3, t2, t1, ev3'] at ew
  have hw2 : w % 128 = c0 + c1 + c2 + c3 + c4 + c5 := by omega
  have hw3 : w < 2 ^ 63 := by omega
  rcases lj_n (a := w) with q | q
  · rw [q, hc]
    have e5 : jand (Int.bmod (w : Int) (2 ^ 32)) 127 = ((w % 128 : Nat) : Int) := by
      unfold jand
      have e6 : Int32.ofInt (Int.bmod (w : Int) (2 ^ 32)) = nI (w % 2 ^ 32) := by
        rw [← Int32.toInt_inj, Int32.toInt_ofInt, Int.bmod_bmod]
        show _ = (BitVec.ofNat 32 _).toInt
        rw [BitVec.toInt_eq_toNat_bmod, BitVec.toNat_ofNat, Nat.mod_mod]
        show _ = Int.bmod ((w % 2 ^ 32 : Nat) : Int) (2 ^ 32)
        rw [Int.natCast_emod]
        exact (Int.emod_bmod _ _).symm
      rw [e6, show Int32.ofInt 127 = nI 127 from rfl, nI_and, show (127 : Nat) = 2 ^ 7 - 1 from rfl, Nat.and_two_pow_sub_one_eq_mod, nI_toInt (by omega)]
      omega
    rw [e5, hw2]
  · omega
