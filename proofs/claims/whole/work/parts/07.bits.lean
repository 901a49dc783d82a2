/-! rows 195-237 of BITS.to-paste and some of COUNTS.to-paste (starting texts), then own rows on words of bits -/
theorem wb_tb (n : Nat) : (lN n).toBitVec = BitVec.ofNat 64 n := rfl
theorem wb_inj {a b : Int64} (h : a.toBitVec = b.toBitVec) : a = b := Int64.toBitVec_inj.mp h
theorem wb_tn {n : Nat} (h : n < 2 ^ 64) : (lN n).toBitVec.toNat = n := by rw [wb_tb, BitVec.toNat_ofNat, Nat.mod_eq_of_lt h]
theorem wb_of (x : Int64) : ∃ n, n < 2 ^ 64 ∧ x = lN n := ⟨x.toBitVec.toNat, x.toBitVec.isLt, wb_inj (by rw [wb_tb]; simp)⟩
theorem wb_of32 (x : Int32) : ∃ n, n < 2 ^ 32 ∧ x = nI n := ⟨x.toBitVec.toNat, x.toBitVec.isLt, Int32.toBitVec_inj.mp (by show _ = BitVec.ofNat 32 _; simp)⟩
theorem wb_c : ∀ k, k < 64 → ((nI k).toInt64 &&& 63) = lN k := by decide +kernel
theorem wb_cu : ∀ k, k < 64 → ((nI k).toInt64.toUInt64 &&& Int64.toUInt64 63) = UInt64.ofNat k := by decide +kernel
theorem wb_sm : ∀ k, k < 64 → (BitVec.ofNat 64 k).smod 64 = BitVec.ofNat 64 k := by decide +kernel
theorem wb_pw {a b : Nat} (h : a ≤ b) : 2 ^ b = 2 ^ a * 2 ^ (b - a) := by rw [← Nat.pow_add]; congr 1; omega
theorem wb_lt2 {a b : Nat} (h : a < b) : 2 ^ a < 2 ^ b := Nat.pow_lt_pow_right (by decide) h
theorem wb_mod (n : Nat) : lN n = lN (n % 2 ^ 64) := wb_inj (by rw [wb_tb, wb_tb]; apply BitVec.eq_of_toNat_eq; rw [BitVec.toNat_ofNat, BitVec.toNat_ofNat, Nat.mod_mod])
theorem wb_shr {n k : Nat} (hn : n < 2 ^ 64) (hk : k < 64) : ((lN n).toUInt64 >>> ((nI k).toInt64.toUInt64 &&& Int64.toUInt64 63)).toInt64 = lN (n / 2 ^ k) := by
  rw [wb_cu k hk]
  apply wb_inj
  apply BitVec.eq_of_toNat_eq
  show ((lN n).toUInt64 >>> UInt64.ofNat k).toNat = (BitVec.ofNat 64 _).toNat
  have h1 : (UInt64.ofNat k).toNat = k := by
    show (BitVec.ofNat 64 k).toNat = k
    rw [BitVec.toNat_ofNat, Nat.mod_eq_of_lt (by omega)]
  have h2 : (lN n).toUInt64.toNat = n := wb_tn hn
  rw [UInt64.toNat_shiftRight, h1, h2, Nat.mod_eq_of_lt hk, Nat.shiftRight_eq_div_pow, BitVec.toNat_ofNat, Nat.mod_eq_of_lt (Nat.lt_of_le_of_lt (Nat.div_le_self _ _) hn)]
theorem wb_shl (n : Nat) {k : Nat} (hk : k < 64) : lN n <<< ((nI k).toInt64 &&& 63) = lN (n * 2 ^ k) := by
  rw [wb_c k hk]
  apply wb_inj
  rw [Int64.toBitVec_shiftLeft, wb_tb, wb_tb, wb_tb, wb_sm k hk]
  apply BitVec.eq_of_toNat_eq
  rw [BitVec.shiftLeft_eq', BitVec.toNat_shiftLeft, BitVec.toNat_ofNat, BitVec.toNat_ofNat, BitVec.toNat_ofNat, Nat.mod_eq_of_lt (show k < 2 ^ 64 by omega), Nat.shiftLeft_eq, Nat.mul_mod, Nat.mod_mod, ← Nat.mul_mod]
theorem wb_and {a b : Nat} (ha : a < 2 ^ 64) (hb : b < 2 ^ 64) : lN a &&& lN b = lN (a &&& b) := by
  apply wb_inj
  rw [Int64.toBitVec_and, wb_tb, wb_tb, wb_tb]
  apply BitVec.eq_of_toNat_eq
  rw [BitVec.toNat_and, BitVec.toNat_ofNat, BitVec.toNat_ofNat, BitVec.toNat_ofNat, Nat.mod_eq_of_lt ha, Nat.mod_eq_of_lt hb, Nat.mod_eq_of_lt (Nat.and_lt_two_pow _ hb)]
theorem wb_or {a b : Nat} (ha : a < 2 ^ 64) (hb : b < 2 ^ 64) : lN a ||| lN b = lN (a ||| b) := by
  apply wb_inj
  rw [Int64.toBitVec_or, wb_tb, wb_tb, wb_tb]
  apply BitVec.eq_of_toNat_eq
  rw [BitVec.toNat_or, BitVec.toNat_ofNat, BitVec.toNat_ofNat, BitVec.toNat_ofNat, Nat.mod_eq_of_lt ha, Nat.mod_eq_of_lt hb, Nat.mod_eq_of_lt (Nat.or_lt_two_pow ha hb)]
theorem wb_mask {n k : Nat} (hn : n < 2 ^ 64) (hk : k < 64) : lN n &&& lN (2 ^ k - 1) = lN (n % 2 ^ k) := by
  rw [wb_and hn (by have := wb_lt2 hk; omega), Nat.and_two_pow_sub_one_eq_mod]
theorem wb_a1 {n : Nat} (hn : n < 2 ^ 64) : lN n &&& 1 = lN (n % 2) := wb_mask (k := 1) hn (by decide)
theorem wb_bit {n k : Nat} (hn : n < 2 ^ 64) (hk : k < 64) : ((lN n).toUInt64 >>> ((nI k).toInt64.toUInt64 &&& Int64.toUInt64 63)).toInt64 &&& 1 = lN (n / 2 ^ k % 2) := by
  rw [wb_shr hn hk, wb_a1 (Nat.lt_of_le_of_lt (Nat.div_le_self _ _) hn)]
theorem fb_andL (a b : Nat) : lN a &&& lN b = lN (a &&& b) := by
  apply Int64.toBitVec_inj.1
  show BitVec.ofNat 64 a &&& BitVec.ofNat 64 b = BitVec.ofNat 64 (a &&& b)
  apply BitVec.eq_of_getLsbD_eq
  intro i hi
  simp [hi]
theorem fb_orL (a b : Nat) : lN a ||| lN b = lN (a ||| b) := by
  apply Int64.toBitVec_inj.1
  show BitVec.ofNat 64 a ||| BitVec.ofNat 64 b = BitVec.ofNat 64 (a ||| b)
  apply BitVec.eq_of_getLsbD_eq
  intro i hi
  simp [hi]
theorem fb_xorL (a b : Nat) : lN a ^^^ lN b = lN (a ^^^ b) := by
  apply Int64.toBitVec_inj.1
  show BitVec.ofNat 64 a ^^^ BitVec.ofNat 64 b = BitVec.ofNat 64 (a ^^^ b)
  apply BitVec.eq_of_getLsbD_eq
  intro i hi
  simp [hi]
theorem fb_bit_set (n j i : Nat) : (n ||| 2 ^ j).testBit i = (n.testBit i || decide (i = j)) := by
  rw [Nat.testBit_or]
  by_cases h : j = i
  · subst h; simp
  · have h2 : ¬ i = j := fun e => h e.symm
    first | (simp [Nat.testBit_two_pow, h, h2]; done) | (simp [Nat.testBit_two_pow_of_ne h, h2]; done)
def bsum (g : Nat → Bool) : Nat → Nat
  | 0 => 0
  | n + 1 => bsum g n + if g n then 2 ^ n else 0
theorem bsum_lt (g : Nat → Bool) : ∀ n, bsum g n < 2 ^ n
  | 0 => by simp [bsum]
  | n + 1 => by
    have := bsum_lt g n
    rw [bsum, Nat.pow_succ]
    split <;> omega
theorem bsum_test (g : Nat → Bool) (i : Nat) : ∀ n, (bsum g n).testBit i = (decide (i < n) && g i)
  | 0 => by simp [bsum]
  | n + 1 => by
    have ih := bsum_test g i n
    have hl := bsum_lt g n
    rw [bsum]
    by_cases hg : g n = true
    · rw [if_pos hg, Nat.add_comm]
      rcases Nat.lt_trichotomy i n with h | h | h
      · rw [Nat.testBit_two_pow_add_gt h, ih]
        simp [h, Nat.lt_succ_of_lt h]
      · subst h
        rw [Nat.testBit_two_pow_add_eq, ih]
        simp [hg]
      · rw [Nat.testBit_lt_two_pow]
        · simp [show ¬ i < n + 1 by omega]
        · have : 2 ^ (n + 1) ≤ 2 ^ i := Nat.pow_le_pow_right (by decide) h
          rw [Nat.pow_succ] at this
          omega
    · rw [if_neg hg, Nat.add_zero, ih]
      rcases Nat.lt_trichotomy i n with h | h | h
      · simp [h, Nat.lt_succ_of_lt h]
      · subst h
        have : g i = false := by cases hh : g i <;> simp_all
        simp [this]
      · simp [show ¬ i < n by omega, show ¬ i < n + 1 by omega]
theorem bsum_ext {n a : Nat} {g : Nat → Bool} (ha : a < 2 ^ n) (h : ∀ i, i < n → a.testBit i = g i) : a = bsum g n := by
  apply Nat.eq_of_testBit_eq
  intro i
  rw [bsum_test]
  by_cases hi : i < n
  · rw [h i hi]; simp [hi]
  · rw [Nat.testBit_lt_two_pow]
    · simp [hi]
    · exact Nat.lt_of_lt_of_le ha (Nat.pow_le_pow_right (by decide) (by omega))
theorem bsum_cong {n : Nat} {g g' : Nat → Bool} (h : ∀ i, i < n → g i = g' i) : bsum g n = bsum g' n := bsum_ext (bsum_lt g n) (fun i hi => by rw [bsum_test]; simp [hi, h i hi])
theorem bsum_inj {n : Nat} {g g' : Nat → Bool} (h : bsum g n = bsum g' n) : ∀ i, i < n → g i = g' i := by
  intro i hi
  have h1 := congrArg (fun x => x.testBit i) h
  simp only [bsum_test] at h1
  simpa [hi] using h1
/-- word k of a row of bits -/
def wd (b : Nat → Bool) (k : Nat) : Int64 := lN (bsum (fun i => b (64 * k + i)) 64)
theorem wd_cong {b b' : Nat → Bool} {k : Nat} (h : ∀ i, i < 64 → b (64 * k + i) = b' (64 * k + i)) : wd b k = wd b' k := by
  unfold wd
  rw [bsum_cong h]
theorem lN_inj {a b : Nat} (ha : a < 2 ^ 64) (hb : b < 2 ^ 64) (h : lN a = lN b) : a = b := by
  have h1 := congrArg (fun x => x.toBitVec.toNat) h
  simp only [wb_tn ha, wb_tn hb] at h1
  exact h1
theorem wd_inj {b b' : Nat → Bool} {k : Nat} (h : wd b k = wd b' k) : ∀ i, i < 64 → b (64 * k + i) = b' (64 * k + i) := bsum_inj (lN_inj (bsum_lt _ _) (bsum_lt _ _) h)
theorem wd_zero {b : Nat → Bool} {k : Nat} (h : ∀ i, i < 64 → b (64 * k + i) = false) : wd b k = 0 := by
  have e : bsum (fun i => b (64 * k + i)) 64 = bsum (fun _ => false) 64 := bsum_cong h
  have e2 : ∀ n, bsum (fun _ => false) n = 0 := by
    intro n
    induction n with
    | zero => rfl
    | succ n ih => rw [bsum, ih]; rfl
  unfold wd
  rw [e, e2]
  rfl
theorem sh_mod {n : Nat} (hn : n < 2147483648) : (nI n).toInt64 &&& 63 = (nI (n % 64)).toInt64 &&& 63 := by
  rw [nI_l hn, nI_l (show n % 64 < 2 ^ 31 by omega)]
  have e : (63 : Int64) = lN (2 ^ 6 - 1) := rfl
  rw [e, fb_andL, fb_andL, Nat.and_two_pow_sub_one_eq_mod, Nat.and_two_pow_sub_one_eq_mod, Nat.mod_mod]
theorem sh_modU {n : Nat} (hn : n < 2147483648) : (nI n).toInt64.toUInt64 &&& Int64.toUInt64 63 = (nI (n % 64)).toInt64.toUInt64 &&& Int64.toUInt64 63 := congrArg Int64.toUInt64 (sh_mod hn)
theorem lN_and_one (a : Nat) : lN a &&& 1 = lN (a % 2) := by
  have e : (1 : Int64) = lN (2 ^ 1 - 1) := rfl
  rw [e, fb_andL, Nat.and_two_pow_sub_one_eq_mod]
theorem b01 {a i : Nat} {x : Bool} (h : a.testBit i = x) : a / 2 ^ i % 2 = if x then 1 else 0 := by
  rw [Nat.testBit_eq_decide_div_mod_eq] at h
  have : a / 2 ^ i % 2 < 2 := Nat.mod_lt _ (by decide)
  cases x
  · have : ¬ a / 2 ^ i % 2 = 1 := by simpa using h
    simp; omega
  · have : a / 2 ^ i % 2 = 1 := by simpa using h
    simp [this]
theorem ush_bit {a n : Nat} (ha : a < 2 ^ 64) (hn : n < 2147483648) : ((lN a).toUInt64 >>> ((nI n).toInt64.toUInt64 &&& Int64.toUInt64 63)).toInt64 &&& 1 = lN (if a.testBit (n % 64) then 1 else 0) := by
  rw [sh_modU hn, wb_bit ha (show n % 64 < 64 by omega), b01 rfl]
theorem cmp_01 (x : Bool) : lg_cmp (lN (if x then 1 else 0)) 0 = b2i x := by cases x <;> decide +kernel
theorem cmp_11 (x : Bool) : lg_cmp (lN (if x then 1 else 0)) 1 = b2i x - 1 := by cases x <;> decide +kernel
theorem wd_tb {b : Nat → Bool} {k j : Nat} (hj : j < 64) : (bsum (fun i => b (64 * k + i)) 64).testBit j = b (64 * k + j) := by rw [bsum_test]; simp [hj]
theorem wd_bit {b : Nat → Bool} {k n : Nat} (hn : n < 2147483648) : ((wd b k).toUInt64 >>> ((nI n).toInt64.toUInt64 &&& Int64.toUInt64 63)).toInt64 &&& 1 = lN (if b (64 * k + n % 64) then 1 else 0) := by
  unfold wd
  rw [ush_bit (bsum_lt _ _) hn, wd_tb (show n % 64 < 64 by omega)]
theorem wd_cmp {b : Nat → Bool} {k n : Nat} {x : Bool} (hn : n < 2147483648) (hx : b (64 * k + n % 64) = x) : lg_cmp (((wd b k).toUInt64 >>> ((nI n).toInt64.toUInt64 &&& Int64.toUInt64 63)).toInt64 &&& 1) 0 = b2i x := by
  rw [wd_bit hn, hx, cmp_01]
theorem one_shl {n : Nat} (hn : n < 2147483648) : (1 : Int64) <<< ((nI n).toInt64 &&& 63) = lN (2 ^ (n % 64)) := by
  have e : (1 : Int64) = lN 1 := rfl
  rw [sh_mod hn, e, wb_shl 1 (show n % 64 < 64 by omega), Nat.one_mul]
theorem bit_shl {x : Bool} {n : Nat} (hn : n < 2147483648) : lN (if x then 1 else 0) <<< ((nI n).toInt64 &&& 63) = lN (if x then 2 ^ (n % 64) else 0) := by
  rw [sh_mod hn, wb_shl _ (show n % 64 < 64 by omega)]
  cases x <;> simp
def bset (b : Nat → Bool) (n : Nat) (x : Bool) : Nat → Bool := fun j => if j = n then x else b j
theorem bset_same (b : Nat → Bool) (n : Nat) (x : Bool) : bset b n x n = x := by simp [bset]
theorem bset_ne (b : Nat → Bool) {n j : Nat} (x : Bool) (h : j ≠ n) : bset b n x j = b j := by simp [bset, h]
theorem two_tb (j i : Nat) : (2 ^ j).testBit i = decide (j = i) := Nat.testBit_two_pow
/-- one more bit in a word: 'or' with a shifted bit -/
theorem wd_or {b : Nat → Bool} {k n : Nat} {x : Bool} (hk : n / 64 = k) : wd b k ||| lN (if x then 2 ^ (n % 64) else 0) = wd (bset b n (b n || x)) k := by
  have hn : 64 * k + n % 64 = n := by omega
  unfold wd
  rw [fb_orL]
  congr 1
  apply bsum_ext
  · apply Nat.or_lt_two_pow (bsum_lt _ _)
    split
    · exact Nat.pow_lt_pow_right (by decide) (by omega)
    · decide
  · intro i hi
    rw [Nat.testBit_or, wd_tb hi]
    by_cases h : i = n % 64
    · subst h
      rw [hn, bset_same]
      cases x <;> simp
    · rw [bset_ne _ _ (show 64 * k + i ≠ n by omega)]
      cases x
      · simp
      · simp [two_tb, show ¬ n % 64 = i by omega]
theorem wd_or_ne {b : Nat → Bool} {j n : Nat} {x : Bool} (hk : n / 64 ≠ j) : wd b j = wd (bset b n x) j := wd_cong (fun i hi => by rw [bset_ne _ _ (show 64 * j + i ≠ n by omega)])
theorem wd_set {b : Nat → Bool} {n k : Nat} (hn : n < 2147483648) (hk : n / 64 = k) : wd b k ||| ((1 : Int64) <<< ((nI n).toInt64 &&& 63)) = wd (bset b n true) k := by
  have h := wd_or (b := b) (x := true) hk
  rw [if_pos rfl] at h
  rw [one_shl hn, h, Bool.or_true]
theorem wd_clr {b : Nat → Bool} {n k : Nat} (hn : n < 2147483648) (hk : n / 64 = k) : wd b k &&& (((1 : Int64) <<< ((nI n).toInt64 &&& 63)) ^^^ (-1)) = wd (bset b n false) k := by
  have hn2 : 64 * k + n % 64 = n := by omega
  have e : (-1 : Int64) = lN (2 ^ 64 - 1) := by decide +kernel
  rw [one_shl hn, e, fb_xorL]
  unfold wd
  rw [fb_andL]
  congr 1
  apply bsum_ext
  · exact Nat.lt_of_le_of_lt Nat.and_le_left (bsum_lt _ _)
  · intro i hi
    rw [Nat.testBit_and, wd_tb hi, Nat.testBit_xor, two_tb, Nat.testBit_two_pow_sub_one]
    by_cases h : i = n % 64
    · subst h
      rw [hn2, bset_same]
      simp [hi]
    · rw [bset_ne _ _ (show 64 * k + i ≠ n by omega)]
      simp [hi, show ¬ n % 64 = i by omega]
