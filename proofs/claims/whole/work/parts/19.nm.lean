theorem i32_le (a b : Int32) : a ≤ b ↔ a.toInt ≤ b.toInt := Int32.le_iff_toInt_le
theorem i32_lt (a b : Int32) : a < b ↔ a.toInt < b.toInt := Int32.lt_iff_toInt_lt
theorem nI_t {n : Nat} (h : n < 2147483648) : (nI n).toInt = (n : Int) := nI_toInt h
theorem in_of {x : Int32} {n : Nat} (hn : n < 2147483647) (h1 : ¬ x < 0) (h2 : ¬ nI (n + 1) ≤ x) : ∃ j, j ≤ n ∧ x = nI j := by
  rcases pk_ix x (n := n + 1) (by omega) with h | h | ⟨j, hj, e⟩
  · exact absurd h h1
  · exact absurd h h2
  · exact ⟨j, by omega, e⟩
theorem in_t {j n : Nat} (hn : n < 2147483648) (h : j ≤ n) : i32in (nI j) 0 (nI n) = true := by
  unfold i32in
  rw [decide_eq_true (nI_pos' (show j < 2 ^ 31 by omega)), decide_eq_true ((nI_leI (show j < 2 ^ 31 by omega) hn).mpr h)]
  rfl
theorem in_neg {x hi : Int32} (h : x < 0) : i32in x 0 hi = false := by
  unfold i32in
  rw [decide_eq_false (fun q : (0 : Int32) ≤ x => by rw [i32_le] at q; rw [i32_lt] at h; omega)]
  rfl
theorem in_big {x : Int32} {n : Nat} (hn : n < 2147483647) (h : nI (n + 1) ≤ x) : i32in x 0 (nI n) = false := by
  unfold i32in
  have h2 : ¬ x ≤ nI n := fun q => by
    rw [i32_le] at q h
    rw [nI_t (by omega)] at q h
    omega
  rw [decide_eq_false h2, Bool.and_false]
theorem in_ex {x : Int32} {n : Nat} (hn : n < 2147483647) (h : i32in x 0 (nI n) = true) : ∃ j, j ≤ n ∧ x = nI j := by
  unfold i32in at h
  rw [Bool.and_eq_true, decide_eq_true_eq, decide_eq_true_eq] at h
  refine in_of hn (fun q => ?_) (fun q => ?_)
  · have := h.1
    rw [i32_le] at this; rw [i32_lt] at q; omega
  · have := h.2
    rw [i32_le] at this q
    rw [nI_t (by omega)] at this q
    omega
theorem in_ex1 {x : Int32} {lo n : Nat} (hn : n < 2147483647) (h : i32in x (nI lo) (nI n) = true) (hlo : lo ≤ n) : ∃ j, lo ≤ j ∧ j ≤ n ∧ x = nI j := by
  unfold i32in at h
  rw [Bool.and_eq_true, decide_eq_true_eq, decide_eq_true_eq] at h
  have h1 := h.1
  have h2 := h.2
  rw [i32_le, nI_t (by omega)] at h1 h2
  obtain ⟨j, hj, rfl⟩ := in_of (x := x) hn (fun q => by rw [i32_lt] at q; have e0 : (0 : Int32).toInt = 0 := rfl; omega) (fun q => by rw [i32_le, nI_t (by omega)] at q; omega)
  rw [nI_t (by omega)] at h1
  exact ⟨j, by omega, hj, rfl⟩
theorem den_rb {X : Nat → Bool} {t per : Nat} (hp : 0 < per) (h : EvP X t per) : den t per (rb X (t + per)) = X := by
  funext n
  exact (ev_den hp h (fun n hn => by simp only [rb]; rw [if_pos hn]) n).symm
theorem rb_t {X : Nat → Bool} {i : Nat} (h : X i = true) : bset (rb X i) i true = rb X (i + 1) := by
  rw [← rb_s X i, h, Bool.or_true]
theorem rb_f {X : Nat → Bool} {i : Nat} (h : X i = false) : rb X i = rb X (i + 1) := by
  funext n
  simp only [rb]
  by_cases h1 : n < i
  · rw [if_pos h1, if_pos (by omega)]
  · by_cases h2 : n = i
    · rw [if_neg h1, if_pos (by omega), h2, h]
    · rw [if_neg h1, if_neg (by omega)]
theorem rb_none {X : Nat → Bool} {i : Nat} (h : ∀ n, n < i → X n = false) : (fun _ => false) = rb X i := by
  funext n
  simp only [rb]
  by_cases h1 : n < i
  · rw [if_pos h1, h n h1]
  · rw [if_neg h1]
/-- kinds of put -/
def kd (kind a m : Nat) : Nat → Bool := fun n => if kind = 0 then decide (n = a) else if kind = 1 then decide (a ≤ n) else if kind = 2 then decide (n % m = a % m) else decide (kind = 4)
theorem kd0_rb (a m : Nat) : bset (fun _ => false) a true = rb (kd 0 a m) (a + 1 + 1) := by
  funext n
  by_cases h : n = a
  · subst h
    rw [bset_same]
    simp only [rb]
    rw [if_pos (by omega)]
    simp [kd]
  · rw [bset_ne _ _ h]
    simp [rb, kd, h]
theorem kd0_ev (a m : Nat) : EvP (kd 0 a m) (a + 1) 1 := by
  intro n hn
  simp [kd, show ¬ n = a by omega, show ¬ n + 1 = a by omega]
theorem kd1_rb (a m : Nat) : bset (fun _ => false) a true = rb (kd 1 a m) (a + 1) := by
  funext n
  by_cases h : n = a
  · subst h
    rw [bset_same]
    simp [rb, kd]
  · rw [bset_ne _ _ h]
    simp only [rb, kd]
    by_cases h2 : n < a + 1
    · rw [if_pos h2]; simp; omega
    · rw [if_neg h2]
theorem kd1_ev (a m : Nat) : EvP (kd 1 a m) a 1 := by
  intro n hn
  simp [kd, hn, show a ≤ n + 1 by omega]
theorem kd2_rb (a : Nat) {m : Nat} (hm : 0 < m) : bset (fun _ => false) (a % m) true = rb (kd 2 a m) (0 + m) := by
  have hl := Nat.mod_lt a hm
  funext n
  by_cases h : n = a % m
  · subst h
    rw [bset_same]
    simp only [rb, kd]
    rw [if_pos (by omega)]
    simp
  · rw [bset_ne _ _ h]
    simp only [rb, kd]
    by_cases h2 : n < 0 + m
    · rw [if_pos h2, Nat.mod_eq_of_lt (show n < m by omega)]
      simp [h]
    · rw [if_neg h2]
theorem kd2_ev (a m : Nat) : EvP (kd 2 a m) 0 m := by
  intro n hn
  simp [kd]
theorem kd3_rb (a m : Nat) : (fun _ => false) = rb (kd 3 a m) (0 + 1) := rb_none (fun n _ => by simp [kd])
theorem kd4_rb (a m : Nat) : bset (fun _ => false) 0 true = rb (kd 4 a m) (0 + 1) := by
  funext n
  by_cases h : n = 0
  · subst h
    rw [bset_same]
    simp [rb, kd]
  · rw [bset_ne _ _ h]
    simp only [rb]
    rw [if_neg (by omega)]
theorem kd34_ev {k : Nat} (hk : k = 3 ∨ k = 4) (a m : Nat) : EvP (kd k a m) 0 1 := by
  intro n _
  rcases hk with rfl | rfl <;> simp [kd]
theorem jw_ev {S1 S2 : Nat → Bool} {t1 t2 p1 p2 z : Nat} (way : Nat) (h1 : EvP S1 t1 p1) (h2 : EvP S2 t2 p2) (d1 : p1 ∣ z) (d2 : p2 ∣ z) : EvP (fun n => jw way (S1 n) (S2 n)) (max t1 t2) z := by
  obtain ⟨k1, e1⟩ := d1
  obtain ⟨k2, e2⟩ := d2
  intro n hn
  have a1 := h1.mul k1 n (by omega)
  have a2 := h2.mul k2 n (by omega)
  rw [Nat.mul_comm k1 p1, ← e1] at a1
  rw [Nat.mul_comm k2 p2, ← e2] at a2
  show jw way (S1 n) (S2 n) = jw way (S1 (n + z)) (S2 (n + z))
  rw [← a1, ← a2]
theorem not_ev {S : Nat → Bool} {t q : Nat} (h : EvP S t q) : EvP (fun n => !S n) t q := fun n hn => by
  show (!S n) = !S (n + q)
  rw [h n hn]
def shU (S : Nat → Bool) (k : Nat) : Nat → Bool := fun n => decide (k ≤ n) && S (n - k)
theorem shU_ev {S : Nat → Bool} {t q k : Nat} (h : EvP S t q) : EvP (shU S k) (t + k) q := by
  intro n hn
  unfold shU
  rw [decide_eq_true (show k ≤ n by omega), decide_eq_true (show k ≤ n + q by omega), h (n - k) (by omega), show n - k + q = n + q - k by omega]
def shD (S : Nat → Bool) (k : Nat) : Nat → Bool := fun n => S (n + k)
theorem shD_ev {S : Nat → Bool} {t q k : Nat} (h : EvP S t q) : EvP (shD S k) (t - k) q := by
  intro n hn
  unfold shD
  rw [h (n + k) (by omega), show n + k + q = n + q + k by omega]
def stU (S : Nat → Bool) (c d : Nat) : Nat → Bool := fun n => decide (d ≤ n) && (decide ((n - d) % c = 0) && S ((n - d) / c))
theorem stU_at {S : Nat → Bool} {c d : Nat} (hc : 0 < c) (i : Nat) : stU S c d (c * i + d) = S i := by
  unfold stU
  rw [decide_eq_true (show d ≤ c * i + d by omega), show c * i + d - d = c * i by omega, Nat.mul_mod_right, Nat.mul_div_cancel_left i hc]
  simp
theorem stU_gap {S : Nat → Bool} {c d i n : Nat} (h1 : c * i + d < n) (h2 : n < c * (i + 1) + d) : stU S c d n = false := by
  unfold stU
  have hm : ¬ (n - d) % c = 0 := by
    intro h
    obtain ⟨k, e⟩ := Nat.dvd_of_mod_eq_zero h
    have h3 : c * i < c * k := by omega
    have h4 : c * k < c * (i + 1) := by omega
    have h5 := Nat.lt_of_mul_lt_mul_left h3
    have h6 := Nat.lt_of_mul_lt_mul_left h4
    omega
  rw [decide_eq_false hm]
  simp
theorem stU_low {S : Nat → Bool} {c d n : Nat} (h : n < d) : stU S c d n = false := by
  unfold stU
  rw [decide_eq_false (show ¬ d ≤ n by omega)]
  rfl
theorem stU_ev {S : Nat → Bool} {t q c d : Nat} (hc : 0 < c) (h : EvP S t q) : EvP (stU S c d) (c * t + d) (c * q) := by
  intro n hn
  unfold stU
  rw [decide_eq_true (show d ≤ n by omega), decide_eq_true (show d ≤ n + c * q by omega), show n + c * q - d = (n - d) + c * q by omega, Nat.add_mul_mod_self_left, Nat.add_mul_div_left _ _ hc, h ((n - d) / c) ((Nat.le_div_iff_mul_le hc).mpr (by rw [Nat.mul_comm]; omega))]
theorem stU_s {S : Nat → Bool} {c d i : Nat} (hc : 0 < c) (x : Bool) (hx : S i = x) : (if x then bset (rb (stU S c d) (c * i + d)) (c * i + d) true else rb (stU S c d) (c * i + d)) = rb (stU S c d) (c * (i + 1) + d) := by
  have hlt : c * i < c * (i + 1) := by rw [Nat.mul_succ]; omega
  funext n
  by_cases h : n = c * i + d
  · subst h
    have e1 : rb (stU S c d) (c * (i + 1) + d) (c * i + d) = x := by simp only [rb]; rw [if_pos (by omega), stU_at hc, hx]
    rw [e1]
    cases x
    · simp [rb]
    · simp [bset_same]
  · have e2 : (if x then bset (rb (stU S c d) (c * i + d)) (c * i + d) true else rb (stU S c d) (c * i + d)) n = rb (stU S c d) (c * i + d) n := by
      cases x
      · rfl
      · simp [bset_ne _ _ h]
    rw [e2]
    simp only [rb]
    by_cases h2 : n < c * i + d
    · rw [if_pos h2, if_pos (by omega)]
    · rw [if_neg h2]
      by_cases h3 : n < c * (i + 1) + d
      · rw [if_pos h3, stU_gap (by omega) h3]
      · rw [if_neg h3]
def skD (S : Nat → Bool) (c d : Nat) : Nat → Bool := fun n => S (c * n + d)
theorem skD_ev {S : Nat → Bool} {t q c d : Nat} (hc : 0 < c) (h : EvP S t q) : EvP (skD S c d) t q := by
  intro n hn
  unfold skD
  have := Nat.le_mul_of_pos_left n hc
  rw [h.mul c (c * n + d) (by omega), Nat.mul_add]
  congr 1
  omega
theorem nI_nn {n k : Nat} : nI n - -nI k = nI (n + k) := by
  rw [← nI_add]
  apply Int32.toBitVec_inj.mp
  rw [Int32.toBitVec_sub, Int32.toBitVec_neg, Int32.toBitVec_add, BitVec.sub_eq_add_neg, BitVec.neg_neg]
theorem nI_an {n k : Nat} (hn : n < 1073741824) (hk : k < 1073741824) : (nI n + -nI k).toInt = (n : Int) - k := by
  have e : nI n + -nI k = nI n - nI k := by
    apply Int32.toBitVec_inj.mp
    rw [Int32.toBitVec_add, Int32.toBitVec_sub, Int32.toBitVec_neg, BitVec.sub_eq_add_neg]
  rw [e]
  exact pk_sub_toInt hn hk
theorem mxneg {t k : Nat} (ht : t < 1000) (hk : k < 1000) : (if nI 0 < nI t + -nI k then nI t + -nI k else nI 0) = nI (t - k) := by
  have e := nI_an (n := t) (k := k) (by omega) (by omega)
  split
  · rename_i h
    rw [i32_lt, e, nI_t (by decide)] at h
    apply Int32.toInt_inj.mp
    rw [e, nI_t (by omega)]
    omega
  · rename_i h
    rw [i32_lt, e, nI_t (by decide)] at h
    rw [show t - k = 0 by omega]
theorem mxneg0 {k : Nat} (hk : k < 1000) : (if nI 0 < -nI k then -nI k else nI 0) = nI 0 := by
  split
  · rename_i h
    have e : (-nI k).toInt = -(k : Int) := sb_negT (show k < 2 ^ 31 by omega)
    rw [i32_lt, e, nI_t (by decide)] at h
    omega
  · rfl
set_option maxHeartbeats 4000000 in
set_option maxRecDepth 100000 in
theorem c_leastJoined (l : Launch) (D : va_G) (cy : Nat → ClassId) (L : List Nat) (f : Nat → va_E) (sz : Nat) (a rw mc t per a2 rw2 mc2 t2 per2 way : Nat) (b b2 : Nat → Bool) (ht : t ≤ 120) (hper : 0 < per) (hperx : per ≤ 60) (ht2 : t2 ≤ 120) (hper2 : 0 < per2) (hper2x : per2 ≤ 60) (hw4 : way < 4) (h_a : cel L f a (.inr (3, [.int (nI t), .int (nI per), .ref rw, .ref mc]))) (h_rw : cel L f rw (.inl (cy 1, 3, .inr (.inl (wd b))))) (h_a2 : cel L f a2 (.inr (3, [.int (nI t2), .int (nI per2), .ref rw2, .ref mc2]))) (h_rw2 : cel L f rw2 (.inl (cy 1, 3, .inr (.inl (wd b2))))) : Met l yX5_leastJoined (.code yX5_leastJoined cX5_leastJoined 7 (Option.some FieldType.int) :: wsL_law) { frames := 2, cells := 0, slots := 0, locals := 43 } (va_Pc [.ref a, .ref a2, .int (nI way)] (PW D cy L f sz)) (vp_Si (fun r => ∃ z, 0 < z ∧ z ≤ 3600 ∧ per ∣ z ∧ per2 ∣ z ∧ r = lfrom (fun n => jw way (den t per b n) (den t2 per2 b2 n)) (max t t2 + z) 0)) 0 0 (fun _ => False) := by
  refine m_start (by decide) (Nat.le_of_ble_eq_true rfl) ?_
  intro p e R Q s m args below meth c ls hsz hR hQ E hr hlk hnm hw hl
  have hl : lv_has ls 7 [(0, .ref a), (1, .ref a2), (2, .int (nI way))] := hl
  refine lv_aload_n E.1.1 E.1.2.1 dX5_leastJoined_0 rfl (lv_at hl 0 rfl) ?_
  refine k_getN (v := .int (nI t)) E inlX3 rfl 0 (by decide) (List.mem_of_getElem? (i := 15) rfl) rfl hw h_a rfl dX5_leastJoined_1 ?_
  refine lv_aload_n E.1.1 E.1.2.1 dX5_leastJoined_4 rfl (lv_at hl 1 rfl) ?_
  refine k_getN (v := .int (nI t2)) E inlX3 rfl 0 (by decide) (List.mem_of_getElem? (i := 15) rfl) rfl hw h_a2 rfl dX5_leastJoined_5 ?_
  refine va_mmax E.1.1 E.1.2.1 (by rw [E.1.2.2.1]; exact hl.1.symm) E.1.2.2.2.1 (E.1.2.2.2.2 _ w2_45) (E.1.2.2.2.2 _ w1_99) (E.1.2.2.2.2 _ w1_5) (E.1.2.2.2.2 _ w1_100) (by rw [hR]; exact Nat.le_of_ble_eq_true rfl) (by rw [hR]; exact Nat.le_of_ble_eq_true rfl) (by rw [hR]; exact Nat.le_of_ble_eq_true rfl) (by rw [hR]; first | exact Nat.le_of_ble_eq_true rfl | (dsimp only; omega)) dX5_leastJoined_8 ?_
  refine k_top E (nI (max t t2)) (mxn (by omega) (by omega)) ?_
  refine lv_aload_n E.1.1 E.1.2.1 dX5_leastJoined_11 rfl (lv_at hl 0 rfl) ?_
  refine k_getN (v := .int (nI per)) E inlX3 rfl 1 (by decide) (List.mem_of_getElem? (i := 16) rfl) rfl hw h_a rfl dX5_leastJoined_12 ?_
  refine lv_aload_n E.1.1 E.1.2.1 dX5_leastJoined_15 rfl (lv_at hl 1 rfl) ?_
  refine k_getN (v := .int (nI per2)) E inlX3 rfl 1 (by decide) (List.mem_of_getElem? (i := 16) rfl) rfl hw h_a2 rfl dX5_leastJoined_16 ?_
  refine k_rip (va_runS (As := [.int (nI per), .int (nI per2)]) (rest := [.int (nI (max t t2))]) E.1 (c_leastCommon l D cy L f s.heap.size per per2 hper hperx hper2 hper2x) ⟨callB_of 2 E.1.2.2.2.2 (gd_own w2_48) rfl rfl rfl (E.1.2.2.2.2 _ w1_1) (E.1.2.2.2.2 _ w2_46) hd_X5_leastCommon (by rw [hR]; exact ⟨Nat.le_of_ble_eq_true rfl, Nat.le_of_ble_eq_true rfl⟩), E.1.2.2.2.2 _ w2_47⟩ (pw_pre E.2 hw) rfl rfl hl.1 rfl (lv_room (Nat.le_of_ble_eq_true rfl)) dX5_leastJoined_19 ⟨Nat.zero_le _, Nat.zero_le _⟩) (fun r hp => ?_)
  obtain ⟨z, rfl, hz0, hz1, hz2, hz3⟩ := hp
  refine k_add E dX5_leastJoined_22 ?_
  refine lv_istore_n (lv' := [(3, .int (nI ((max t t2) + z))), (0, .ref a), (1, .ref a2), (2, .int (nI way))]) E.1.1 E.1.2.1 dX5_leastJoined_23 rfl hl (by decide) rfl (fun ls hl => ?_)
  refine lv_iconst (v := nI 0) E.1.1 E.1.2.1 dX5_leastJoined_24 rfl ?_
  refine k_top E (nI (fold t per 0)) (by rw [fold_in (by omega)]) ?_
  refine lv_istore (lv' := [(4, .int (nI (fold t per 0))), (3, .int (nI ((max t t2) + z))), (0, .ref a), (1, .ref a2), (2, .int (nI way))]) E.1.1 E.1.2.1 dX5_leastJoined_25 hl (by decide) rfl (fun ls hl => ?_)
  refine lv_iconst (v := nI 0) E.1.1 E.1.2.1 dX5_leastJoined_27 rfl ?_
  refine k_top E (nI (fold t2 per2 0)) (by rw [fold_in (by omega)]) ?_
  refine lv_istore (lv' := [(5, .int (nI (fold t2 per2 0))), (4, .int (nI (fold t per 0))), (3, .int (nI ((max t t2) + z))), (0, .ref a), (1, .ref a2), (2, .int (nI way))]) E.1.1 E.1.2.1 dX5_leastJoined_28 hl (by decide) rfl (fun ls hl => ?_)
  refine lv_iconst (v := nI 0) E.1.1 E.1.2.1 dX5_leastJoined_30 rfl ?_
  refine lv_istore (lv' := [(6, .int (nI 0)), (5, .int (nI (fold t2 per2 0))), (4, .int (nI (fold t per 0))), (3, .int (nI ((max t t2) + z))), (0, .ref a), (1, .ref a2), (2, .int (nI way))]) E.1.1 E.1.2.1 dX5_leastJoined_31 hl (by decide) rfl (fun ls hl => ?_)
  have lp33 : ∀ (k : Nat) (i : Nat) (ls : Array Slot), (max t t2 + z - i < k) → (i ≤ max t t2 + z) → (∀ j, j < i → jw way (den t per b j) (den t2 per2 b2 j) = false) → (lv_has ls 7 [(6, .int (nI i)), (4, .int (nI (fold t per i))), (5, .int (nI (fold t2 per2 i))), (3, .int (nI (max t t2 + z))), (0, .ref a), (1, .ref a2), (2, .int (nI way))]) → W p l e R s m args below meth c s.heap [] 0 0 Q (F0 m 33 ls []) := by
    intro k
    induction k with
    | zero => intro _ _ hk; exact absurd hk (Nat.not_lt_zero _)
    | succ k ih33 =>
      intro i  ls hk hi hg hl
      refine lv_iload E.1.1 E.1.2.1 dX5_leastJoined_33 (lv_at hl 0 rfl) ?_
      refine lv_iload_n E.1.1 E.1.2.1 dX5_leastJoined_35 rfl (lv_at hl 3 rfl) ?_
      refine k_ge (tgt := 83) E dX5_leastJoined_36 (by decide) (by omega) (by omega) (fun c36 => ?_) (fun c36 => ?_)
      · refine lv_bipush (v := -6) E.1.1 E.1.2.1 dX5_leastJoined_83 rfl ?_
        exact k_iret E hQ hlk hr (⟨z, hz0, hz1, hz2, hz3, by rw [lfrom_no (fun j hj => by rw [Nat.zero_add]; exact hg j (by omega))]⟩) dX5_leastJoined_85
      · have hf1 := fold_lt (t := t) (p := per) (n := i) hper
        have hf2 := fold_lt (t := t2) (p := per2) (n := i) hper2
        refine lv_aload_n E.1.1 E.1.2.1 dX5_leastJoined_39 rfl (lv_at hl 4 rfl) ?_
        refine lv_iload E.1.1 E.1.2.1 dX5_leastJoined_40 (lv_at hl 1 rfl) ?_
        refine k_ri (va_runV (As := [.int (nI (fold t per i))]) (rest := []) E.1 (c_at l D cy L f s.heap.size a rw mc t per (fold t per i) b ht hper hperx (by omega) h_a h_rw) ⟨callB_of 1 E.1.2.2.2.2 (gd_own w2_53) rfl rfl rfl (E.1.2.2.2.2 _ w1_8) (E.1.2.2.2.2 _ w2_50) hd_X3_at (by rw [hR]; exact ⟨Nat.le_of_ble_eq_true rfl, Nat.le_of_ble_eq_true rfl⟩), E.1.2.2.2.2 _ w2_51, E.1.2.2.2.2 _ w2_52⟩ (pw_preV (q := (RX3, TX3, 4)) E.2 hw h_a rfl) rfl rfl hl.1 rfl (lv_room (Nat.le_of_ble_eq_true rfl)) dX5_leastJoined_42 ⟨Nat.zero_le _, Nat.zero_le _⟩) ?_
        refine lv_aload_n E.1.1 E.1.2.1 dX5_leastJoined_45 rfl (lv_at hl 5 rfl) ?_
        refine lv_iload E.1.1 E.1.2.1 dX5_leastJoined_46 (lv_at hl 2 rfl) ?_
        refine k_ri (va_runV (As := [.int (nI (fold t2 per2 i))]) (rest := [.int (b2i (b (fold t per i)))]) E.1 (c_at l D cy L f s.heap.size a2 rw2 mc2 t2 per2 (fold t2 per2 i) b2 ht2 hper2 hper2x (by omega) h_a2 h_rw2) ⟨callB_of 1 E.1.2.2.2.2 (gd_own w2_53) rfl rfl rfl (E.1.2.2.2.2 _ w1_8) (E.1.2.2.2.2 _ w2_50) hd_X3_at (by rw [hR]; exact ⟨Nat.le_of_ble_eq_true rfl, Nat.le_of_ble_eq_true rfl⟩), E.1.2.2.2.2 _ w2_51, E.1.2.2.2.2 _ w2_52⟩ (pw_preV (q := (RX3, TX3, 4)) E.2 hw h_a2 rfl) rfl rfl hl.1 rfl (lv_room (Nat.le_of_ble_eq_true rfl)) dX5_leastJoined_48 ⟨Nat.zero_le _, Nat.zero_le _⟩) ?_
        refine lv_iload_n E.1.1 E.1.2.1 dX5_leastJoined_51 rfl (lv_at hl 6 rfl) ?_
        refine k_ri (va_runS (As := [.int (b2i (b (fold t per i))), .int (b2i (b2 (fold t2 per2 i))), .int (nI way)]) (rest := []) E.1 (c_joined l D cy L f s.heap.size (b (fold t per i)) (b2 (fold t2 per2 i)) way hw4) ⟨callB_of 3 E.1.2.2.2.2 (gd_own w2_57) rfl rfl rfl (E.1.2.2.2.2 _ w1_1) (E.1.2.2.2.2 _ w2_55) hd_X5_joined (by rw [hR]; exact ⟨Nat.le_of_ble_eq_true rfl, Nat.le_of_ble_eq_true rfl⟩), E.1.2.2.2.2 _ w2_56⟩ (pw_pre E.2 hw) rfl rfl hl.1 rfl (lv_room (Nat.le_of_ble_eq_true rfl)) dX5_leastJoined_52 ⟨Nat.zero_le _, Nat.zero_le _⟩) ?_
        refine k_if0 (tgt := 61) E dX5_leastJoined_55 (by decide) (fun c55 => ?_) (fun c55 => ?_)
        · refine lv_aload_n E.1.1 E.1.2.1 dX5_leastJoined_61 rfl (lv_at hl 4 rfl) ?_
          refine lv_iload E.1.1 E.1.2.1 dX5_leastJoined_62 (lv_at hl 1 rfl) ?_
          refine k_ri (va_runV (As := [.int (nI (fold t per i))]) (rest := []) E.1 (c_placeAfter l D cy L f s.heap.size a rw mc t per (fold t per i) b ht hper hperx (by omega) h_a) ⟨callB_of 1 E.1.2.2.2.2 (gd_own w2_61) rfl rfl rfl (E.1.2.2.2.2 _ w1_8) (E.1.2.2.2.2 _ w2_58) hd_X3_placeAfter (by rw [hR]; exact ⟨Nat.le_of_ble_eq_true rfl, Nat.le_of_ble_eq_true rfl⟩), E.1.2.2.2.2 _ w2_59, E.1.2.2.2.2 _ w2_60⟩ (pw_preV (q := (RX3, TX3, 4)) E.2 hw h_a rfl) rfl rfl hl.1 rfl (lv_room (Nat.le_of_ble_eq_true rfl)) dX5_leastJoined_64 ⟨Nat.zero_le _, Nat.zero_le _⟩) ?_
          refine k_top E (nI (fold t per (i + 1))) (by rw [pa_fold hper]) ?_
          refine lv_istore (lv' := [(4, .int (nI (fold t per (i + 1)))), (6, .int (nI i)), (5, .int (nI (fold t2 per2 i))), (3, .int (nI (max t t2 + z))), (0, .ref a), (1, .ref a2), (2, .int (nI way))]) E.1.1 E.1.2.1 dX5_leastJoined_67 hl (by decide) rfl (fun ls hl => ?_)
          refine lv_aload_n E.1.1 E.1.2.1 dX5_leastJoined_69 rfl (lv_at hl 5 rfl) ?_
          refine lv_iload E.1.1 E.1.2.1 dX5_leastJoined_70 (lv_at hl 2 rfl) ?_
          refine k_ri (va_runV (As := [.int (nI (fold t2 per2 i))]) (rest := []) E.1 (c_placeAfter l D cy L f s.heap.size a2 rw2 mc2 t2 per2 (fold t2 per2 i) b2 ht2 hper2 hper2x (by omega) h_a2) ⟨callB_of 1 E.1.2.2.2.2 (gd_own w2_61) rfl rfl rfl (E.1.2.2.2.2 _ w1_8) (E.1.2.2.2.2 _ w2_58) hd_X3_placeAfter (by rw [hR]; exact ⟨Nat.le_of_ble_eq_true rfl, Nat.le_of_ble_eq_true rfl⟩), E.1.2.2.2.2 _ w2_59, E.1.2.2.2.2 _ w2_60⟩ (pw_preV (q := (RX3, TX3, 4)) E.2 hw h_a2 rfl) rfl rfl hl.1 rfl (lv_room (Nat.le_of_ble_eq_true rfl)) dX5_leastJoined_72 ⟨Nat.zero_le _, Nat.zero_le _⟩) ?_
          refine k_top E (nI (fold t2 per2 (i + 1))) (by rw [pa_fold hper2]) ?_
          refine lv_istore (lv' := [(5, .int (nI (fold t2 per2 (i + 1)))), (4, .int (nI (fold t per (i + 1)))), (6, .int (nI i)), (3, .int (nI (max t t2 + z))), (0, .ref a), (1, .ref a2), (2, .int (nI way))]) E.1.1 E.1.2.1 dX5_leastJoined_75 hl (by decide) rfl (fun ls hl => ?_)
          refine lv_iinc (v := nI (i + 1)) (lv' := [(6, .int (nI (i + 1))), (5, .int (nI (fold t2 per2 (i + 1)))), (4, .int (nI (fold t per (i + 1)))), (3, .int (nI (max t t2 + z))), (0, .ref a), (1, .ref a2), (2, .int (nI way))]) E.1.1 E.1.2.1 dX5_leastJoined_77 hl (k := 2) rfl (nI_1 _) (by decide) rfl (fun ls hl => ?_)
          refine lv_goto (tgt := 33) E.1.1 E.1.2.1 dX5_leastJoined_80 (by decide) ?_
          exact ih33  (i + 1) ls (by omega) (by omega) (lt_s hg c55)  (lv_sub hl [0, 2, 1, 3, 4, 5, 6] rfl)
        · refine lv_iload E.1.1 E.1.2.1 dX5_leastJoined_58 (lv_at hl 0 rfl) ?_
          exact k_iret E hQ hlk hr (⟨z, hz0, hz1, hz2, hz3, by rw [lfrom_at (i := i) (fun j hj => by rw [Nat.zero_add]; exact hg j hj) c36 (by rw [Nat.zero_add]; exact c55), Nat.zero_add]⟩) dX5_leastJoined_60
  exact lp33 (max t t2 + z - 0 + 1) 0 ls (Nat.lt_succ_self _) (by omega) (fun j hj => absurd hj (by omega))  (lv_sub hl [0, 2, 1, 3, 4, 5, 6] rfl)

set_option maxHeartbeats 4000000 in
set_option maxRecDepth 100000 in
theorem c_unknown (l : Launch) (D : va_G) (cy : Nat → ClassId) (L : List Nat) (f : Nat → va_E) (sz : Nat) (nm sl im d tr base : Nat) (sa : Nat → Nat) (x : Int32) (h_nm : cel L f nm (.inr (5, [.ref sl, .ref im, .ref d, .ref tr, .int (nI base)]))) (h_sl : cel L f sl (.inl (cy 4, 6, .inr (.inr (.inr (.inr (fun k => some (sa k)))))))) : Met l yX5_unknown (.code yX5_unknown cX5_unknown 2 (Option.some FieldType.boolean) :: wsL_law) { frames := 0, cells := 0, slots := 0, locals := 0 } (va_Pc [.ref nm, .int x] (PW D cy L f sz)) (vp_Si (fun r => r = b2i (!(i32in x 0 (nI 5))))) 0 0 (fun _ => False) := by
  refine m_start (by decide) (Nat.le_of_ble_eq_true rfl) ?_
  intro p e R Q s m args below meth c ls hsz hR hQ E hr hlk hnm hw hl
  have hl : lv_has ls 2 [(0, .ref nm), (1, .int x)] := hl
  refine lv_iload_n E.1.1 E.1.2.1 dX5_unknown_0 rfl (lv_at hl 1 rfl) ?_
  refine lv_if_lt (tgt := 19) E.1.1 E.1.2.1 dX5_unknown_1 (by decide) (fun c1 => ?_) (fun c1 => ?_)
  · refine lv_iconst (v := nI 1) E.1.1 E.1.2.1 dX5_unknown_19 rfl ?_
    refine lv_goto (tgt := 24) E.1.1 E.1.2.1 dX5_unknown_20 (by decide) ?_
    refine k_top E (b2i true) rfl ?_
    exact k_zret E hQ hlk hr (by rw [in_neg c1]; rfl) dX5_unknown_24
  · refine lv_iload_n E.1.1 E.1.2.1 dX5_unknown_4 rfl (lv_at hl 1 rfl) ?_
    refine lv_bipush (v := nI 6) E.1.1 E.1.2.1 dX5_unknown_5 rfl ?_
    refine lv_icmp_ge (tgt := 19) E.1.1 E.1.2.1 dX5_unknown_7 (by decide) (fun c7 => ?_) (fun c7 => ?_)
    · refine lv_iconst (v := nI 1) E.1.1 E.1.2.1 dX5_unknown_19 rfl ?_
      refine lv_goto (tgt := 24) E.1.1 E.1.2.1 dX5_unknown_20 (by decide) ?_
      refine k_top E (b2i true) rfl ?_
      exact k_zret E hQ hlk hr (by rw [in_big (n := 5) (by decide) c7]; rfl) dX5_unknown_24
    · obtain ⟨j, hj, rfl⟩ := in_of (n := 5) (by decide) c1 c7
      refine lv_aload_n E.1.1 E.1.2.1 dX5_unknown_10 rfl (lv_at hl 0 rfl) ?_
      refine k_get (v := .ref sl) E inlX5 rfl 0 (by decide) w1_231 rfl hw h_nm rfl dX5_unknown_11 ?_
      refine lv_iload_n E.1.1 E.1.2.1 dX5_unknown_14 rfl (lv_at hl 1 rfl) ?_
      refine k_aald E hw 4 (r := sa j) h_sl rfl (by omega) (by omega) (rfl) dX5_unknown_15 ?_
      refine lv_ifnonnull (tgt := 23) E.1.1 E.1.2.1 dX5_unknown_16 (by decide) ?_
      refine lv_iconst (v := nI 0) E.1.1 E.1.2.1 dX5_unknown_23 rfl ?_
      refine k_top E (b2i false) rfl ?_
      exact k_zret E hQ hlk hr (by rw [in_t (by decide) hj]; rfl) dX5_unknown_24

set_option maxHeartbeats 4000000 in
set_option maxRecDepth 100000 in
theorem c_noImage (l : Launch) (D : va_G) (cy : Nat → ClassId) (L : List Nat) (f : Nat → va_E) (sz : Nat) (nm sl im d tr base : Nat) (ga : Nat → Nat) (x : Int32) (h_nm : cel L f nm (.inr (5, [.ref sl, .ref im, .ref d, .ref tr, .int (nI base)]))) (h_im : cel L f im (.inl (cy 3, 2, .inr (.inr (.inr (.inr (fun k => some (ga k)))))))) : Met l yX5_noImage (.code yX5_noImage cX5_noImage 2 (Option.some FieldType.boolean) :: wsL_law) { frames := 0, cells := 0, slots := 0, locals := 0 } (va_Pc [.ref nm, .int x] (PW D cy L f sz)) (vp_Si (fun r => r = b2i (!(i32in x 0 (nI 1))))) 0 0 (fun _ => False) := by
  refine m_start (by decide) (Nat.le_of_ble_eq_true rfl) ?_
  intro p e R Q s m args below meth c ls hsz hR hQ E hr hlk hnm hw hl
  have hl : lv_has ls 2 [(0, .ref nm), (1, .int x)] := hl
  refine lv_iload_n E.1.1 E.1.2.1 dX5_noImage_0 rfl (lv_at hl 1 rfl) ?_
  refine lv_if_lt (tgt := 18) E.1.1 E.1.2.1 dX5_noImage_1 (by decide) (fun c1 => ?_) (fun c1 => ?_)
  · refine lv_iconst (v := nI 1) E.1.1 E.1.2.1 dX5_noImage_18 rfl ?_
    refine lv_goto (tgt := 23) E.1.1 E.1.2.1 dX5_noImage_19 (by decide) ?_
    refine k_top E (b2i true) rfl ?_
    exact k_zret E hQ hlk hr (by rw [in_neg c1]; rfl) dX5_noImage_23
  · refine lv_iload_n E.1.1 E.1.2.1 dX5_noImage_4 rfl (lv_at hl 1 rfl) ?_
    refine lv_iconst (v := nI 2) E.1.1 E.1.2.1 dX5_noImage_5 rfl ?_
    refine lv_icmp_ge (tgt := 18) E.1.1 E.1.2.1 dX5_noImage_6 (by decide) (fun c6 => ?_) (fun c6 => ?_)
    · refine lv_iconst (v := nI 1) E.1.1 E.1.2.1 dX5_noImage_18 rfl ?_
      refine lv_goto (tgt := 23) E.1.1 E.1.2.1 dX5_noImage_19 (by decide) ?_
      refine k_top E (b2i true) rfl ?_
      exact k_zret E hQ hlk hr (by rw [in_big (n := 1) (by decide) c6]; rfl) dX5_noImage_23
    · obtain ⟨j, hj, rfl⟩ := in_of (n := 1) (by decide) c1 c6
      refine lv_aload_n E.1.1 E.1.2.1 dX5_noImage_9 rfl (lv_at hl 0 rfl) ?_
      refine k_get (v := .ref im) E inlX5 rfl 1 (by decide) w1_232 rfl hw h_nm rfl dX5_noImage_10 ?_
      refine lv_iload_n E.1.1 E.1.2.1 dX5_noImage_13 rfl (lv_at hl 1 rfl) ?_
      refine k_aald E hw 3 (r := ga j) h_im rfl (by omega) (by omega) (rfl) dX5_noImage_14 ?_
      refine lv_ifnonnull (tgt := 22) E.1.1 E.1.2.1 dX5_noImage_15 (by decide) ?_
      refine lv_iconst (v := nI 0) E.1.1 E.1.2.1 dX5_noImage_22 rfl ?_
      refine k_top E (b2i false) rfl ?_
      exact k_zret E hQ hlk hr (by rw [in_t (by decide) hj]; rfl) dX5_noImage_23

set_option maxHeartbeats 4000000 in
set_option maxRecDepth 100000 in
theorem c_draftKind0 (l : Launch) (D : va_G) (cy : Nat → ClassId) (L : List Nat) (f0 : Nat → va_E) (sz : Nat) (nm sl im d tr base r0 a : Nat) (i1 i2 : Int32) (g : Nat → Int64) (m0 : Nat) (x : Int32) (ha : a ≤ 100) (h_nm : cel L f0 nm (.inr (5, [.ref sl, .ref im, .ref d, .ref tr, .int (nI base)]))) (h_d : cel L f0 d (.inr (0, [.ref r0, .int i1, .int i2]))) (h_row : cel L f0 r0 (.inl (cy 1, 59, .inr (.inl g)))) : Met l yX5_draftKind (.code yX5_draftKind cX5_draftKind 4 none :: wsL_law) { frames := 2, cells := 0, slots := 0, locals := 46 } (va_Pc [.ref nm, .int (nI 0), .int (nI a), .int x] (PW D cy L f0 sz)) (va_Qv (fun u : List Nat × (Nat → va_E) => L = u.1 ∧ (∀ b ∈ L, b ≠ d → b ≠ r0 → u.2 b = f0 b) ∧ cel L u.2 d (.inr (0, [.ref r0, .int (nI (a + 1)), .int (nI (1))])) ∧ cel L u.2 r0 (.inl (cy 1, 59, .inr (.inl (wd (rb (kd 0 a m0) (a + 1 + 1))))))) (PB D (AW L sz)) (AW L sz)) 0 0 (AW L sz) := by
  refine m_start (by decide) (Nat.le_of_ble_eq_true rfl) ?_
  intro p e R Q s m args below meth c ls hsz hR hQ E hr hlk hnm hw hl
  have hl : lv_has ls 4 [(0, .ref nm), (1, .int (nI 0)), (2, .int (nI a)), (3, .int x)] := hl
  obtain ⟨H, hH⟩ : ∃ X, X = s.heap := ⟨_, rfl⟩
  obtain ⟨locs, hlocs⟩ : ∃ X : List Loc, X = [] := ⟨_, rfl⟩
  have hw0 := hw
  obtain ⟨f, hf0⟩ : ∃ X, X = f0 := ⟨_, rfl⟩
  rw [← hf0] at h_nm h_d h_row
  have hw : WW D (AW L sz) s.heap L f H locs := by rw [hH, hlocs, hf0]; exact hw
  have hF : ∀ b ∈ L, b ≠ d → b ≠ r0 → f b = f0 b := fun b hb h0 h1 => by rw [hf0]
  suffices hgo : W p l e R s m args below meth c H locs 0 0 Q (F0 m 0 ls []) by rw [hH, hlocs] at hgo; exact hgo
  clear hH hlocs hw0 hf0
  have hLs : ∀ b ∈ L, b ∈ L := fun _ h => h
  have n_nm_d : nm ≠ d := h_nm.ne h_d (by simp)
  have n_nm_row : nm ≠ r0 := h_nm.ne h_row (by simp)
  have n_d_row : d ≠ r0 := h_d.ne h_row (by simp)
  have n_row_d : r0 ≠ d := h_row.ne h_d (by simp)
  refine lv_iload_n E.1.1 E.1.2.1 dX5_draftKind_0 rfl (lv_at hl 1 rfl) ?_
  refine k_z1 (tgt := 26) E dX5_draftKind_1 (by decide) (by omega) (fun c1 => absurd c1 (by decide)) (fun c1 => ?_)
  refine lv_aload_n E.1.1 E.1.2.1 dX5_draftKind_4 rfl (lv_at hl 0 rfl) ?_
  refine k_get (v := .ref d) E inlX5 rfl 2 (by decide) w1_233 rfl hw h_nm rfl dX5_draftKind_5 ?_
  refine lv_iload_n E.1.1 E.1.2.1 dX5_draftKind_8 rfl (lv_at hl 2 rfl) ?_
  refine lv_iconst (v := nI 1) E.1.1 E.1.2.1 dX5_draftKind_9 rfl ?_
  refine k_add E dX5_draftKind_10 ?_
  refine lv_iconst (v := nI 1) E.1.1 E.1.2.1 dX5_draftKind_11 rfl ?_
  refine k_mv hw (va_runV (As := [.int (nI (a + 1)), .int (nI 1)]) (rest := []) E.1 (c_open l D cy L f H.size d r0 (a + 1) (1) i1 i2 g (by omega) (by omega) (by omega) h_d h_row) ⟨callB_of 2 E.1.2.2.2.2 (gd_own w1_97) rfl rfl rfl (E.1.2.2.2.2 _ w1_2) (E.1.2.2.2.2 _ w1_94) hd_X0_open (by rw [hR]; exact ⟨Nat.le_of_ble_eq_true rfl, Nat.le_of_ble_eq_true rfl⟩), E.1.2.2.2.2 _ w1_95, E.1.2.2.2.2 _ w1_96⟩ (pw_preV (q := (RX0, TX0, 3)) E.2 hw h_d rfl) rfl rfl hl.1 rfl (lv_room (Nat.le_of_ble_eq_true rfl)) dX5_draftKind_12 (by rw [hR]; exact ⟨Nat.le_of_ble_eq_true rfl, Nat.le_of_ble_eq_true rfl⟩)) (fun L1 f H locs hp hw => ?_)
  obtain ⟨hL1, hfr, h_d, h_row⟩ := hp
  have hL1 : L = L1 := hL1
  subst hL1
  have h_d : cel L f d (.inr (0, [.ref r0, .int (nI (a + 1)), .int (nI 1)])) := h_d
  have h_row : cel L f r0 (.inl (cy 1, 59, .inr (.inl (wd (fun _ => false))))) := h_row
  have h_nm := h_nm.keep (fun _ h => h) (hfr _ h_nm.1 n_nm_d n_nm_row)
  have hF : ∀ b ∈ L, b ≠ d → b ≠ r0 → f b = f0 b := fun b hb h0 h1 => (hfr b (hLs b hb) h0 h1).trans (hF b hb h0 h1)
  refine lv_aload_n E.1.1 E.1.2.1 dX5_draftKind_15 rfl (lv_at hl 0 rfl) ?_
  refine k_get (v := .ref d) E inlX5 rfl 2 (by decide) w1_233 rfl hw h_nm rfl dX5_draftKind_16 ?_
  refine lv_iload_n E.1.1 E.1.2.1 dX5_draftKind_19 rfl (lv_at hl 2 rfl) ?_
  refine k_mv hw (va_runV (As := [.int (nI a)]) (rest := []) E.1 (c_mark l D cy L f H.size d r0 (a + 1) (1) (a) (fun _ => false) (by omega) h_d h_row) ⟨callB_of 1 E.1.2.2.2.2 (gd_own w2_29) rfl rfl rfl (E.1.2.2.2.2 _ w1_2) (E.1.2.2.2.2 _ w2_26) hd_X0_mark (by rw [hR]; exact ⟨Nat.le_of_ble_eq_true rfl, Nat.le_of_ble_eq_true rfl⟩), E.1.2.2.2.2 _ w2_27, E.1.2.2.2.2 _ w2_28⟩ (pw_preV (q := (RX0, TX0, 3)) E.2 hw h_d rfl) rfl rfl hl.1 rfl (lv_room (Nat.le_of_ble_eq_true rfl)) dX5_draftKind_20 (by rw [hR]; exact ⟨Nat.le_of_ble_eq_true rfl, Nat.le_of_ble_eq_true rfl⟩)) (fun L1 f H locs hp hw => ?_)
  obtain ⟨hL1, hfr, h_row⟩ := hp
  have hL1 : L = L1 := hL1
  subst hL1
  have h_row : cel L f r0 (.inl (cy 1, 59, .inr (.inl (wd (bset (fun _ => false) (a) true))))) := h_row
  have h_nm := h_nm.keep (fun _ h => h) (hfr _ h_nm.1 n_nm_row)
  have h_d := h_d.keep (fun _ h => h) (hfr _ h_d.1 n_d_row)
  have hF : ∀ b ∈ L, b ≠ d → b ≠ r0 → f b = f0 b := fun b hb h0 h1 => (hfr b (hLs b hb) h1).trans (hF b hb h0 h1)
  refine lv_goto (tgt := 104) E.1.1 E.1.2.1 dX5_draftKind_23 (by decide) ?_
  exact k_mvret E hQ hlk hr hw (Nat.le_of_ble_eq_true rfl) (Nat.le_of_ble_eq_true rfl) (⟨rfl, hF, h_d, by rw [kd0_rb a m0] at h_row; exact h_row⟩) dX5_draftKind_104

set_option maxHeartbeats 4000000 in
set_option maxRecDepth 100000 in
theorem c_draftKind1 (l : Launch) (D : va_G) (cy : Nat → ClassId) (L : List Nat) (f0 : Nat → va_E) (sz : Nat) (nm sl im d tr base r0 a : Nat) (i1 i2 : Int32) (g : Nat → Int64) (m0 : Nat) (x : Int32) (ha : a ≤ 100) (h_nm : cel L f0 nm (.inr (5, [.ref sl, .ref im, .ref d, .ref tr, .int (nI base)]))) (h_d : cel L f0 d (.inr (0, [.ref r0, .int i1, .int i2]))) (h_row : cel L f0 r0 (.inl (cy 1, 59, .inr (.inl g)))) : Met l yX5_draftKind (.code yX5_draftKind cX5_draftKind 4 none :: wsL_law) { frames := 2, cells := 0, slots := 0, locals := 46 } (va_Pc [.ref nm, .int (nI 1), .int (nI a), .int x] (PW D cy L f0 sz)) (va_Qv (fun u : List Nat × (Nat → va_E) => L = u.1 ∧ (∀ b ∈ L, b ≠ d → b ≠ r0 → u.2 b = f0 b) ∧ cel L u.2 d (.inr (0, [.ref r0, .int (nI (a)), .int (nI (1))])) ∧ cel L u.2 r0 (.inl (cy 1, 59, .inr (.inl (wd (rb (kd 1 a m0) (a + 1))))))) (PB D (AW L sz)) (AW L sz)) 0 0 (AW L sz) := by
  refine m_start (by decide) (Nat.le_of_ble_eq_true rfl) ?_
  intro p e R Q s m args below meth c ls hsz hR hQ E hr hlk hnm hw hl
  have hl : lv_has ls 4 [(0, .ref nm), (1, .int (nI 1)), (2, .int (nI a)), (3, .int x)] := hl
  obtain ⟨H, hH⟩ : ∃ X, X = s.heap := ⟨_, rfl⟩
  obtain ⟨locs, hlocs⟩ : ∃ X : List Loc, X = [] := ⟨_, rfl⟩
  have hw0 := hw
  obtain ⟨f, hf0⟩ : ∃ X, X = f0 := ⟨_, rfl⟩
  rw [← hf0] at h_nm h_d h_row
  have hw : WW D (AW L sz) s.heap L f H locs := by rw [hH, hlocs, hf0]; exact hw
  have hF : ∀ b ∈ L, b ≠ d → b ≠ r0 → f b = f0 b := fun b hb h0 h1 => by rw [hf0]
  suffices hgo : W p l e R s m args below meth c H locs 0 0 Q (F0 m 0 ls []) by rw [hH, hlocs] at hgo; exact hgo
  clear hH hlocs hw0 hf0
  have hLs : ∀ b ∈ L, b ∈ L := fun _ h => h
  have n_nm_d : nm ≠ d := h_nm.ne h_d (by simp)
  have n_nm_row : nm ≠ r0 := h_nm.ne h_row (by simp)
  have n_d_row : d ≠ r0 := h_d.ne h_row (by simp)
  have n_row_d : r0 ≠ d := h_row.ne h_d (by simp)
  refine lv_iload_n E.1.1 E.1.2.1 dX5_draftKind_0 rfl (lv_at hl 1 rfl) ?_
  refine k_z1 (tgt := 26) E dX5_draftKind_1 (by decide) (by omega) (fun c1 => ?_) (fun c1 => absurd c1 (by decide))
  refine lv_iload_n E.1.1 E.1.2.1 dX5_draftKind_26 rfl (lv_at hl 1 rfl) ?_
  refine lv_iconst (v := nI 1) E.1.1 E.1.2.1 dX5_draftKind_27 rfl ?_
  refine k_ne (tgt := 51) E dX5_draftKind_28 (by decide) (by omega) (by omega) (fun c28 => absurd c28 (by decide)) (fun c28 => ?_)
  refine lv_aload_n E.1.1 E.1.2.1 dX5_draftKind_31 rfl (lv_at hl 0 rfl) ?_
  refine k_get (v := .ref d) E inlX5 rfl 2 (by decide) w1_233 rfl hw h_nm rfl dX5_draftKind_32 ?_
  refine lv_iload_n E.1.1 E.1.2.1 dX5_draftKind_35 rfl (lv_at hl 2 rfl) ?_
  refine lv_iconst (v := nI 1) E.1.1 E.1.2.1 dX5_draftKind_36 rfl ?_
  refine k_mv hw (va_runV (As := [.int (nI a), .int (nI 1)]) (rest := []) E.1 (c_open l D cy L f H.size d r0 (a) (1) i1 i2 g (by omega) (by omega) (by omega) h_d h_row) ⟨callB_of 2 E.1.2.2.2.2 (gd_own w1_97) rfl rfl rfl (E.1.2.2.2.2 _ w1_2) (E.1.2.2.2.2 _ w1_94) hd_X0_open (by rw [hR]; exact ⟨Nat.le_of_ble_eq_true rfl, Nat.le_of_ble_eq_true rfl⟩), E.1.2.2.2.2 _ w1_95, E.1.2.2.2.2 _ w1_96⟩ (pw_preV (q := (RX0, TX0, 3)) E.2 hw h_d rfl) rfl rfl hl.1 rfl (lv_room (Nat.le_of_ble_eq_true rfl)) dX5_draftKind_37 (by rw [hR]; exact ⟨Nat.le_of_ble_eq_true rfl, Nat.le_of_ble_eq_true rfl⟩)) (fun L1 f H locs hp hw => ?_)
  obtain ⟨hL1, hfr, h_d, h_row⟩ := hp
  have hL1 : L = L1 := hL1
  subst hL1
  have h_d : cel L f d (.inr (0, [.ref r0, .int (nI a), .int (nI 1)])) := h_d
  have h_row : cel L f r0 (.inl (cy 1, 59, .inr (.inl (wd (fun _ => false))))) := h_row
  have h_nm := h_nm.keep (fun _ h => h) (hfr _ h_nm.1 n_nm_d n_nm_row)
  have hF : ∀ b ∈ L, b ≠ d → b ≠ r0 → f b = f0 b := fun b hb h0 h1 => (hfr b (hLs b hb) h0 h1).trans (hF b hb h0 h1)
  refine lv_aload_n E.1.1 E.1.2.1 dX5_draftKind_40 rfl (lv_at hl 0 rfl) ?_
  refine k_get (v := .ref d) E inlX5 rfl 2 (by decide) w1_233 rfl hw h_nm rfl dX5_draftKind_41 ?_
  refine lv_iload_n E.1.1 E.1.2.1 dX5_draftKind_44 rfl (lv_at hl 2 rfl) ?_
  refine k_mv hw (va_runV (As := [.int (nI a)]) (rest := []) E.1 (c_mark l D cy L f H.size d r0 (a) (1) (a) (fun _ => false) (by omega) h_d h_row) ⟨callB_of 1 E.1.2.2.2.2 (gd_own w2_29) rfl rfl rfl (E.1.2.2.2.2 _ w1_2) (E.1.2.2.2.2 _ w2_26) hd_X0_mark (by rw [hR]; exact ⟨Nat.le_of_ble_eq_true rfl, Nat.le_of_ble_eq_true rfl⟩), E.1.2.2.2.2 _ w2_27, E.1.2.2.2.2 _ w2_28⟩ (pw_preV (q := (RX0, TX0, 3)) E.2 hw h_d rfl) rfl rfl hl.1 rfl (lv_room (Nat.le_of_ble_eq_true rfl)) dX5_draftKind_45 (by rw [hR]; exact ⟨Nat.le_of_ble_eq_true rfl, Nat.le_of_ble_eq_true rfl⟩)) (fun L1 f H locs hp hw => ?_)
  obtain ⟨hL1, hfr, h_row⟩ := hp
  have hL1 : L = L1 := hL1
  subst hL1
  have h_row : cel L f r0 (.inl (cy 1, 59, .inr (.inl (wd (bset (fun _ => false) (a) true))))) := h_row
  have h_nm := h_nm.keep (fun _ h => h) (hfr _ h_nm.1 n_nm_row)
  have h_d := h_d.keep (fun _ h => h) (hfr _ h_d.1 n_d_row)
  have hF : ∀ b ∈ L, b ≠ d → b ≠ r0 → f b = f0 b := fun b hb h0 h1 => (hfr b (hLs b hb) h1).trans (hF b hb h0 h1)
  refine lv_goto (tgt := 104) E.1.1 E.1.2.1 dX5_draftKind_48 (by decide) ?_
  exact k_mvret E hQ hlk hr hw (Nat.le_of_ble_eq_true rfl) (Nat.le_of_ble_eq_true rfl) (⟨rfl, hF, h_d, by rw [kd1_rb a m0] at h_row; exact h_row⟩) dX5_draftKind_104

set_option maxHeartbeats 4000000 in
set_option maxRecDepth 100000 in
theorem c_draftKind2 (l : Launch) (D : va_G) (cy : Nat → ClassId) (L : List Nat) (f0 : Nat → va_E) (sz : Nat) (nm sl im d tr base r0 a m0 : Nat) (i1 i2 : Int32) (g : Nat → Int64) (ha : a ≤ 100) (hm0 : 0 < m0) (hm1 : m0 ≤ 60) (h_nm : cel L f0 nm (.inr (5, [.ref sl, .ref im, .ref d, .ref tr, .int (nI base)]))) (h_d : cel L f0 d (.inr (0, [.ref r0, .int i1, .int i2]))) (h_row : cel L f0 r0 (.inl (cy 1, 59, .inr (.inl g)))) : Met l yX5_draftKind (.code yX5_draftKind cX5_draftKind 4 none :: wsL_law) { frames := 2, cells := 0, slots := 0, locals := 46 } (va_Pc [.ref nm, .int (nI 2), .int (nI a), .int (nI m0)] (PW D cy L f0 sz)) (va_Qv (fun u : List Nat × (Nat → va_E) => L = u.1 ∧ (∀ b ∈ L, b ≠ d → b ≠ r0 → u.2 b = f0 b) ∧ cel L u.2 d (.inr (0, [.ref r0, .int (nI (0)), .int (nI (m0))])) ∧ cel L u.2 r0 (.inl (cy 1, 59, .inr (.inl (wd (rb (kd 2 a m0) (0 + m0))))))) (PB D (AW L sz)) (AW L sz)) 0 0 (AW L sz) := by
  refine m_start (by decide) (Nat.le_of_ble_eq_true rfl) ?_
  intro p e R Q s m args below meth c ls hsz hR hQ E hr hlk hnm hw hl
  have hl : lv_has ls 4 [(0, .ref nm), (1, .int (nI 2)), (2, .int (nI a)), (3, .int (nI m0))] := hl
  obtain ⟨H, hH⟩ : ∃ X, X = s.heap := ⟨_, rfl⟩
  obtain ⟨locs, hlocs⟩ : ∃ X : List Loc, X = [] := ⟨_, rfl⟩
  have hw0 := hw
  obtain ⟨f, hf0⟩ : ∃ X, X = f0 := ⟨_, rfl⟩
  rw [← hf0] at h_nm h_d h_row
  have hw : WW D (AW L sz) s.heap L f H locs := by rw [hH, hlocs, hf0]; exact hw
  have hF : ∀ b ∈ L, b ≠ d → b ≠ r0 → f b = f0 b := fun b hb h0 h1 => by rw [hf0]
  suffices hgo : W p l e R s m args below meth c H locs 0 0 Q (F0 m 0 ls []) by rw [hH, hlocs] at hgo; exact hgo
  clear hH hlocs hw0 hf0
  have hLs : ∀ b ∈ L, b ∈ L := fun _ h => h
  have n_nm_d : nm ≠ d := h_nm.ne h_d (by simp)
  have n_nm_row : nm ≠ r0 := h_nm.ne h_row (by simp)
  have n_d_row : d ≠ r0 := h_d.ne h_row (by simp)
  have n_row_d : r0 ≠ d := h_row.ne h_d (by simp)
  refine lv_iload_n E.1.1 E.1.2.1 dX5_draftKind_0 rfl (lv_at hl 1 rfl) ?_
  refine k_z1 (tgt := 26) E dX5_draftKind_1 (by decide) (by omega) (fun c1 => ?_) (fun c1 => absurd c1 (by decide))
  refine lv_iload_n E.1.1 E.1.2.1 dX5_draftKind_26 rfl (lv_at hl 1 rfl) ?_
  refine lv_iconst (v := nI 1) E.1.1 E.1.2.1 dX5_draftKind_27 rfl ?_
  refine k_ne (tgt := 51) E dX5_draftKind_28 (by decide) (by omega) (by omega) (fun c28 => ?_) (fun c28 => absurd c28 (by decide))
  refine lv_iload_n E.1.1 E.1.2.1 dX5_draftKind_51 rfl (lv_at hl 1 rfl) ?_
  refine lv_iconst (v := nI 2) E.1.1 E.1.2.1 dX5_draftKind_52 rfl ?_
  refine k_ne (tgt := 82) E dX5_draftKind_53 (by decide) (by omega) (by omega) (fun c53 => absurd c53 (by decide)) (fun c53 => ?_)
  refine lv_iload_n E.1.1 E.1.2.1 dX5_draftKind_56 rfl (lv_at hl 3 rfl) ?_
  refine k_zle (tgt := 82) E dX5_draftKind_57 (by decide) (by omega) (fun c57 => absurd c57 (by omega)) (fun c57 => ?_)
  refine lv_aload_n E.1.1 E.1.2.1 dX5_draftKind_60 rfl (lv_at hl 0 rfl) ?_
  refine k_get (v := .ref d) E inlX5 rfl 2 (by decide) w1_233 rfl hw h_nm rfl dX5_draftKind_61 ?_
  refine lv_iconst (v := nI 0) E.1.1 E.1.2.1 dX5_draftKind_64 rfl ?_
  refine lv_iload_n E.1.1 E.1.2.1 dX5_draftKind_65 rfl (lv_at hl 3 rfl) ?_
  refine k_mv hw (va_runV (As := [.int (nI 0), .int (nI m0)]) (rest := []) E.1 (c_open l D cy L f H.size d r0 (0) (m0) i1 i2 g (by omega) (by omega) (by omega) h_d h_row) ⟨callB_of 2 E.1.2.2.2.2 (gd_own w1_97) rfl rfl rfl (E.1.2.2.2.2 _ w1_2) (E.1.2.2.2.2 _ w1_94) hd_X0_open (by rw [hR]; exact ⟨Nat.le_of_ble_eq_true rfl, Nat.le_of_ble_eq_true rfl⟩), E.1.2.2.2.2 _ w1_95, E.1.2.2.2.2 _ w1_96⟩ (pw_preV (q := (RX0, TX0, 3)) E.2 hw h_d rfl) rfl rfl hl.1 rfl (lv_room (Nat.le_of_ble_eq_true rfl)) dX5_draftKind_66 (by rw [hR]; exact ⟨Nat.le_of_ble_eq_true rfl, Nat.le_of_ble_eq_true rfl⟩)) (fun L1 f H locs hp hw => ?_)
  obtain ⟨hL1, hfr, h_d, h_row⟩ := hp
  have hL1 : L = L1 := hL1
  subst hL1
  have h_d : cel L f d (.inr (0, [.ref r0, .int (nI 0), .int (nI m0)])) := h_d
  have h_row : cel L f r0 (.inl (cy 1, 59, .inr (.inl (wd (fun _ => false))))) := h_row
  have h_nm := h_nm.keep (fun _ h => h) (hfr _ h_nm.1 n_nm_d n_nm_row)
  have hF : ∀ b ∈ L, b ≠ d → b ≠ r0 → f b = f0 b := fun b hb h0 h1 => (hfr b (hLs b hb) h0 h1).trans (hF b hb h0 h1)
  refine lv_aload_n E.1.1 E.1.2.1 dX5_draftKind_69 rfl (lv_at hl 0 rfl) ?_
  refine k_get (v := .ref d) E inlX5 rfl 2 (by decide) w1_233 rfl hw h_nm rfl dX5_draftKind_70 ?_
  refine lv_iload_n E.1.1 E.1.2.1 dX5_draftKind_73 rfl (lv_at hl 2 rfl) ?_
  refine lv_iload_n E.1.1 E.1.2.1 dX5_draftKind_74 rfl (lv_at hl 3 rfl) ?_
  have hmd := Nat.mod_lt a hm0
  refine k_rem E dX5_draftKind_75 (by omega) (by omega) (by omega) ?_
  refine k_mv hw (va_runV (As := [.int (nI (a % m0))]) (rest := []) E.1 (c_mark l D cy L f H.size d r0 (0) (m0) (a % m0) (fun _ => false) (by omega) h_d h_row) ⟨callB_of 1 E.1.2.2.2.2 (gd_own w2_29) rfl rfl rfl (E.1.2.2.2.2 _ w1_2) (E.1.2.2.2.2 _ w2_26) hd_X0_mark (by rw [hR]; exact ⟨Nat.le_of_ble_eq_true rfl, Nat.le_of_ble_eq_true rfl⟩), E.1.2.2.2.2 _ w2_27, E.1.2.2.2.2 _ w2_28⟩ (pw_preV (q := (RX0, TX0, 3)) E.2 hw h_d rfl) rfl rfl hl.1 rfl (lv_room (Nat.le_of_ble_eq_true rfl)) dX5_draftKind_76 (by rw [hR]; exact ⟨Nat.le_of_ble_eq_true rfl, Nat.le_of_ble_eq_true rfl⟩)) (fun L1 f H locs hp hw => ?_)
  obtain ⟨hL1, hfr, h_row⟩ := hp
  have hL1 : L = L1 := hL1
  subst hL1
  have h_row : cel L f r0 (.inl (cy 1, 59, .inr (.inl (wd (bset (fun _ => false) (a % m0) true))))) := h_row
  have h_nm := h_nm.keep (fun _ h => h) (hfr _ h_nm.1 n_nm_row)
  have h_d := h_d.keep (fun _ h => h) (hfr _ h_d.1 n_d_row)
  have hF : ∀ b ∈ L, b ≠ d → b ≠ r0 → f b = f0 b := fun b hb h0 h1 => (hfr b (hLs b hb) h1).trans (hF b hb h0 h1)
  refine lv_goto (tgt := 104) E.1.1 E.1.2.1 dX5_draftKind_79 (by decide) ?_
  exact k_mvret E hQ hlk hr hw (Nat.le_of_ble_eq_true rfl) (Nat.le_of_ble_eq_true rfl) (⟨rfl, hF, h_d, by rw [kd2_rb a hm0] at h_row; exact h_row⟩) dX5_draftKind_104

set_option maxHeartbeats 4000000 in
set_option maxRecDepth 100000 in
theorem c_draftKind3 (l : Launch) (D : va_G) (cy : Nat → ClassId) (L : List Nat) (f0 : Nat → va_E) (sz : Nat) (nm sl im d tr base r0 a m0 : Nat) (i1 i2 : Int32) (g : Nat → Int64) (x y : Int32) (h_nm : cel L f0 nm (.inr (5, [.ref sl, .ref im, .ref d, .ref tr, .int (nI base)]))) (h_d : cel L f0 d (.inr (0, [.ref r0, .int i1, .int i2]))) (h_row : cel L f0 r0 (.inl (cy 1, 59, .inr (.inl g)))) : Met l yX5_draftKind (.code yX5_draftKind cX5_draftKind 4 none :: wsL_law) { frames := 2, cells := 0, slots := 0, locals := 46 } (va_Pc [.ref nm, .int (nI 3), .int x, .int y] (PW D cy L f0 sz)) (va_Qv (fun u : List Nat × (Nat → va_E) => L = u.1 ∧ (∀ b ∈ L, b ≠ d → b ≠ r0 → u.2 b = f0 b) ∧ cel L u.2 d (.inr (0, [.ref r0, .int (nI (0)), .int (nI (1))])) ∧ cel L u.2 r0 (.inl (cy 1, 59, .inr (.inl (wd (rb (kd 3 a m0) (0 + 1))))))) (PB D (AW L sz)) (AW L sz)) 0 0 (AW L sz) := by
  refine m_start (by decide) (Nat.le_of_ble_eq_true rfl) ?_
  intro p e R Q s m args below meth c ls hsz hR hQ E hr hlk hnm hw hl
  have hl : lv_has ls 4 [(0, .ref nm), (1, .int (nI 3)), (2, .int x), (3, .int y)] := hl
  obtain ⟨H, hH⟩ : ∃ X, X = s.heap := ⟨_, rfl⟩
  obtain ⟨locs, hlocs⟩ : ∃ X : List Loc, X = [] := ⟨_, rfl⟩
  have hw0 := hw
  obtain ⟨f, hf0⟩ : ∃ X, X = f0 := ⟨_, rfl⟩
  rw [← hf0] at h_nm h_d h_row
  have hw : WW D (AW L sz) s.heap L f H locs := by rw [hH, hlocs, hf0]; exact hw
  have hF : ∀ b ∈ L, b ≠ d → b ≠ r0 → f b = f0 b := fun b hb h0 h1 => by rw [hf0]
  suffices hgo : W p l e R s m args below meth c H locs 0 0 Q (F0 m 0 ls []) by rw [hH, hlocs] at hgo; exact hgo
  clear hH hlocs hw0 hf0
  have hLs : ∀ b ∈ L, b ∈ L := fun _ h => h
  have n_nm_d : nm ≠ d := h_nm.ne h_d (by simp)
  have n_nm_row : nm ≠ r0 := h_nm.ne h_row (by simp)
  have n_d_row : d ≠ r0 := h_d.ne h_row (by simp)
  have n_row_d : r0 ≠ d := h_row.ne h_d (by simp)
  refine lv_iload_n E.1.1 E.1.2.1 dX5_draftKind_0 rfl (lv_at hl 1 rfl) ?_
  refine k_z1 (tgt := 26) E dX5_draftKind_1 (by decide) (by omega) (fun c1 => ?_) (fun c1 => absurd c1 (by decide))
  refine lv_iload_n E.1.1 E.1.2.1 dX5_draftKind_26 rfl (lv_at hl 1 rfl) ?_
  refine lv_iconst (v := nI 1) E.1.1 E.1.2.1 dX5_draftKind_27 rfl ?_
  refine k_ne (tgt := 51) E dX5_draftKind_28 (by decide) (by omega) (by omega) (fun c28 => ?_) (fun c28 => absurd c28 (by decide))
  refine lv_iload_n E.1.1 E.1.2.1 dX5_draftKind_51 rfl (lv_at hl 1 rfl) ?_
  refine lv_iconst (v := nI 2) E.1.1 E.1.2.1 dX5_draftKind_52 rfl ?_
  refine k_ne (tgt := 82) E dX5_draftKind_53 (by decide) (by omega) (by omega) (fun c53 => ?_) (fun c53 => absurd c53 (by decide))
  refine lv_aload_n E.1.1 E.1.2.1 dX5_draftKind_82 rfl (lv_at hl 0 rfl) ?_
  refine k_get (v := .ref d) E inlX5 rfl 2 (by decide) w1_233 rfl hw h_nm rfl dX5_draftKind_83 ?_
  refine lv_iconst (v := nI 0) E.1.1 E.1.2.1 dX5_draftKind_86 rfl ?_
  refine lv_iconst (v := nI 1) E.1.1 E.1.2.1 dX5_draftKind_87 rfl ?_
  refine k_mv hw (va_runV (As := [.int (nI 0), .int (nI 1)]) (rest := []) E.1 (c_open l D cy L f H.size d r0 (0) (1) i1 i2 g (by omega) (by omega) (by omega) h_d h_row) ⟨callB_of 2 E.1.2.2.2.2 (gd_own w1_97) rfl rfl rfl (E.1.2.2.2.2 _ w1_2) (E.1.2.2.2.2 _ w1_94) hd_X0_open (by rw [hR]; exact ⟨Nat.le_of_ble_eq_true rfl, Nat.le_of_ble_eq_true rfl⟩), E.1.2.2.2.2 _ w1_95, E.1.2.2.2.2 _ w1_96⟩ (pw_preV (q := (RX0, TX0, 3)) E.2 hw h_d rfl) rfl rfl hl.1 rfl (lv_room (Nat.le_of_ble_eq_true rfl)) dX5_draftKind_88 (by rw [hR]; exact ⟨Nat.le_of_ble_eq_true rfl, Nat.le_of_ble_eq_true rfl⟩)) (fun L1 f H locs hp hw => ?_)
  obtain ⟨hL1, hfr, h_d, h_row⟩ := hp
  have hL1 : L = L1 := hL1
  subst hL1
  have h_d : cel L f d (.inr (0, [.ref r0, .int (nI 0), .int (nI 1)])) := h_d
  have h_row : cel L f r0 (.inl (cy 1, 59, .inr (.inl (wd (fun _ => false))))) := h_row
  have h_nm := h_nm.keep (fun _ h => h) (hfr _ h_nm.1 n_nm_d n_nm_row)
  have hF : ∀ b ∈ L, b ≠ d → b ≠ r0 → f b = f0 b := fun b hb h0 h1 => (hfr b (hLs b hb) h0 h1).trans (hF b hb h0 h1)
  refine lv_iload_n E.1.1 E.1.2.1 dX5_draftKind_91 rfl (lv_at hl 1 rfl) ?_
  refine lv_iconst (v := nI 4) E.1.1 E.1.2.1 dX5_draftKind_92 rfl ?_
  refine k_ne (tgt := 104) E dX5_draftKind_93 (by decide) (by omega) (by omega) (fun c93 => ?_) (fun c93 => absurd c93 (by decide))
  exact k_mvret E hQ hlk hr hw (Nat.le_of_ble_eq_true rfl) (Nat.le_of_ble_eq_true rfl) (⟨rfl, hF, h_d, by rw [kd3_rb a m0] at h_row; exact h_row⟩) dX5_draftKind_104

set_option maxHeartbeats 4000000 in
set_option maxRecDepth 100000 in
theorem c_draftKind4 (l : Launch) (D : va_G) (cy : Nat → ClassId) (L : List Nat) (f0 : Nat → va_E) (sz : Nat) (nm sl im d tr base r0 a m0 : Nat) (i1 i2 : Int32) (g : Nat → Int64) (x y : Int32) (h_nm : cel L f0 nm (.inr (5, [.ref sl, .ref im, .ref d, .ref tr, .int (nI base)]))) (h_d : cel L f0 d (.inr (0, [.ref r0, .int i1, .int i2]))) (h_row : cel L f0 r0 (.inl (cy 1, 59, .inr (.inl g)))) : Met l yX5_draftKind (.code yX5_draftKind cX5_draftKind 4 none :: wsL_law) { frames := 2, cells := 0, slots := 0, locals := 46 } (va_Pc [.ref nm, .int (nI 4), .int x, .int y] (PW D cy L f0 sz)) (va_Qv (fun u : List Nat × (Nat → va_E) => L = u.1 ∧ (∀ b ∈ L, b ≠ d → b ≠ r0 → u.2 b = f0 b) ∧ cel L u.2 d (.inr (0, [.ref r0, .int (nI (0)), .int (nI (1))])) ∧ cel L u.2 r0 (.inl (cy 1, 59, .inr (.inl (wd (rb (kd 4 a m0) (0 + 1))))))) (PB D (AW L sz)) (AW L sz)) 0 0 (AW L sz) := by
  refine m_start (by decide) (Nat.le_of_ble_eq_true rfl) ?_
  intro p e R Q s m args below meth c ls hsz hR hQ E hr hlk hnm hw hl
  have hl : lv_has ls 4 [(0, .ref nm), (1, .int (nI 4)), (2, .int x), (3, .int y)] := hl
  obtain ⟨H, hH⟩ : ∃ X, X = s.heap := ⟨_, rfl⟩
  obtain ⟨locs, hlocs⟩ : ∃ X : List Loc, X = [] := ⟨_, rfl⟩
  have hw0 := hw
  obtain ⟨f, hf0⟩ : ∃ X, X = f0 := ⟨_, rfl⟩
  rw [← hf0] at h_nm h_d h_row
  have hw : WW D (AW L sz) s.heap L f H locs := by rw [hH, hlocs, hf0]; exact hw
  have hF : ∀ b ∈ L, b ≠ d → b ≠ r0 → f b = f0 b := fun b hb h0 h1 => by rw [hf0]
  suffices hgo : W p l e R s m args below meth c H locs 0 0 Q (F0 m 0 ls []) by rw [hH, hlocs] at hgo; exact hgo
  clear hH hlocs hw0 hf0
  have hLs : ∀ b ∈ L, b ∈ L := fun _ h => h
  have n_nm_d : nm ≠ d := h_nm.ne h_d (by simp)
  have n_nm_row : nm ≠ r0 := h_nm.ne h_row (by simp)
  have n_d_row : d ≠ r0 := h_d.ne h_row (by simp)
  have n_row_d : r0 ≠ d := h_row.ne h_d (by simp)
  refine lv_iload_n E.1.1 E.1.2.1 dX5_draftKind_0 rfl (lv_at hl 1 rfl) ?_
  refine k_z1 (tgt := 26) E dX5_draftKind_1 (by decide) (by omega) (fun c1 => ?_) (fun c1 => absurd c1 (by decide))
  refine lv_iload_n E.1.1 E.1.2.1 dX5_draftKind_26 rfl (lv_at hl 1 rfl) ?_
  refine lv_iconst (v := nI 1) E.1.1 E.1.2.1 dX5_draftKind_27 rfl ?_
  refine k_ne (tgt := 51) E dX5_draftKind_28 (by decide) (by omega) (by omega) (fun c28 => ?_) (fun c28 => absurd c28 (by decide))
  refine lv_iload_n E.1.1 E.1.2.1 dX5_draftKind_51 rfl (lv_at hl 1 rfl) ?_
  refine lv_iconst (v := nI 2) E.1.1 E.1.2.1 dX5_draftKind_52 rfl ?_
  refine k_ne (tgt := 82) E dX5_draftKind_53 (by decide) (by omega) (by omega) (fun c53 => ?_) (fun c53 => absurd c53 (by decide))
  refine lv_aload_n E.1.1 E.1.2.1 dX5_draftKind_82 rfl (lv_at hl 0 rfl) ?_
  refine k_get (v := .ref d) E inlX5 rfl 2 (by decide) w1_233 rfl hw h_nm rfl dX5_draftKind_83 ?_
  refine lv_iconst (v := nI 0) E.1.1 E.1.2.1 dX5_draftKind_86 rfl ?_
  refine lv_iconst (v := nI 1) E.1.1 E.1.2.1 dX5_draftKind_87 rfl ?_
  refine k_mv hw (va_runV (As := [.int (nI 0), .int (nI 1)]) (rest := []) E.1 (c_open l D cy L f H.size d r0 (0) (1) i1 i2 g (by omega) (by omega) (by omega) h_d h_row) ⟨callB_of 2 E.1.2.2.2.2 (gd_own w1_97) rfl rfl rfl (E.1.2.2.2.2 _ w1_2) (E.1.2.2.2.2 _ w1_94) hd_X0_open (by rw [hR]; exact ⟨Nat.le_of_ble_eq_true rfl, Nat.le_of_ble_eq_true rfl⟩), E.1.2.2.2.2 _ w1_95, E.1.2.2.2.2 _ w1_96⟩ (pw_preV (q := (RX0, TX0, 3)) E.2 hw h_d rfl) rfl rfl hl.1 rfl (lv_room (Nat.le_of_ble_eq_true rfl)) dX5_draftKind_88 (by rw [hR]; exact ⟨Nat.le_of_ble_eq_true rfl, Nat.le_of_ble_eq_true rfl⟩)) (fun L1 f H locs hp hw => ?_)
  obtain ⟨hL1, hfr, h_d, h_row⟩ := hp
  have hL1 : L = L1 := hL1
  subst hL1
  have h_d : cel L f d (.inr (0, [.ref r0, .int (nI 0), .int (nI 1)])) := h_d
  have h_row : cel L f r0 (.inl (cy 1, 59, .inr (.inl (wd (fun _ => false))))) := h_row
  have h_nm := h_nm.keep (fun _ h => h) (hfr _ h_nm.1 n_nm_d n_nm_row)
  have hF : ∀ b ∈ L, b ≠ d → b ≠ r0 → f b = f0 b := fun b hb h0 h1 => (hfr b (hLs b hb) h0 h1).trans (hF b hb h0 h1)
  refine lv_iload_n E.1.1 E.1.2.1 dX5_draftKind_91 rfl (lv_at hl 1 rfl) ?_
  refine lv_iconst (v := nI 4) E.1.1 E.1.2.1 dX5_draftKind_92 rfl ?_
  refine k_ne (tgt := 104) E dX5_draftKind_93 (by decide) (by omega) (by omega) (fun c93 => absurd c93 (by decide)) (fun c93 => ?_)
  refine lv_aload_n E.1.1 E.1.2.1 dX5_draftKind_96 rfl (lv_at hl 0 rfl) ?_
  refine k_get (v := .ref d) E inlX5 rfl 2 (by decide) w1_233 rfl hw h_nm rfl dX5_draftKind_97 ?_
  refine lv_iconst (v := nI 0) E.1.1 E.1.2.1 dX5_draftKind_100 rfl ?_
  refine k_mv hw (va_runV (As := [.int (nI 0)]) (rest := []) E.1 (c_mark l D cy L f H.size d r0 (0) (1) (0) (fun _ => false) (by omega) h_d h_row) ⟨callB_of 1 E.1.2.2.2.2 (gd_own w2_29) rfl rfl rfl (E.1.2.2.2.2 _ w1_2) (E.1.2.2.2.2 _ w2_26) hd_X0_mark (by rw [hR]; exact ⟨Nat.le_of_ble_eq_true rfl, Nat.le_of_ble_eq_true rfl⟩), E.1.2.2.2.2 _ w2_27, E.1.2.2.2.2 _ w2_28⟩ (pw_preV (q := (RX0, TX0, 3)) E.2 hw h_d rfl) rfl rfl hl.1 rfl (lv_room (Nat.le_of_ble_eq_true rfl)) dX5_draftKind_101 (by rw [hR]; exact ⟨Nat.le_of_ble_eq_true rfl, Nat.le_of_ble_eq_true rfl⟩)) (fun L1 f H locs hp hw => ?_)
  obtain ⟨hL1, hfr, h_row⟩ := hp
  have hL1 : L = L1 := hL1
  subst hL1
  have h_row : cel L f r0 (.inl (cy 1, 59, .inr (.inl (wd (bset (fun _ => false) (0) true))))) := h_row
  have h_nm := h_nm.keep (fun _ h => h) (hfr _ h_nm.1 n_nm_row)
  have h_d := h_d.keep (fun _ h => h) (hfr _ h_d.1 n_d_row)
  have hF : ∀ b ∈ L, b ≠ d → b ≠ r0 → f b = f0 b := fun b hb h0 h1 => (hfr b (hLs b hb) h1).trans (hF b hb h0 h1)
  exact k_mvret E hQ hlk hr hw (Nat.le_of_ble_eq_true rfl) (Nat.le_of_ble_eq_true rfl) (⟨rfl, hF, h_d, by rw [kd4_rb a m0] at h_row; exact h_row⟩) dX5_draftKind_104

set_option maxHeartbeats 4000000 in
set_option maxRecDepth 100000 in
theorem c_draftTurn (l : Launch) (D : va_G) (cy : Nat → ClassId) (L : List Nat) (f0 : Nat → va_E) (sz : Nat) (nm sl im d tr base r0 : Nat) (i1 i2 : Int32) (g : Nat → Int64) (a rw mc t per : Nat) (b : Nat → Bool) (ht : t ≤ 120) (hper : 0 < per) (hperx : per ≤ 60)  (h_nm : cel L f0 nm (.inr (5, [.ref sl, .ref im, .ref d, .ref tr, .int (nI base)]))) (h_d : cel L f0 d (.inr (0, [.ref r0, .int i1, .int i2]))) (h_row : cel L f0 r0 (.inl (cy 1, 59, .inr (.inl g)))) (h_a : cel L f0 a (.inr (3, [.int (nI t), .int (nI per), .ref rw, .ref mc]))) (h_rw : cel L f0 rw (.inl (cy 1, 3, .inr (.inl (wd b))))) : Met l yX5_draftTurn (.code yX5_draftTurn cX5_draftTurn 3 none :: wsL_law) { frames := 2, cells := 0, slots := 0, locals := 46 } (va_Pc [.ref nm, .ref a] (PW D cy L f0 sz)) (va_Qv (fun u : List Nat × (Nat → va_E) => L = u.1 ∧ (∀ b ∈ L, b ≠ d → b ≠ r0 → u.2 b = f0 b) ∧ cel L u.2 d (.inr (0, [.ref r0, .int (nI (t)), .int (nI (per))])) ∧ cel L u.2 r0 (.inl (cy 1, 59, .inr (.inl (wd (rb (fun n => !den t per b n) (t + per))))))) (PB D (AW L sz)) (AW L sz)) 0 0 (AW L sz) := by
  refine m_start (by decide) (Nat.le_of_ble_eq_true rfl) ?_
  intro p e R Q s m args below meth c ls hsz hR hQ E hr hlk hnm hw hl
  have hl : lv_has ls 3 [(0, .ref nm), (1, .ref a)] := hl
  obtain ⟨H, hH⟩ : ∃ X, X = s.heap := ⟨_, rfl⟩
  obtain ⟨locs, hlocs⟩ : ∃ X : List Loc, X = [] := ⟨_, rfl⟩
  have hw0 := hw
  obtain ⟨f, hf0⟩ : ∃ X, X = f0 := ⟨_, rfl⟩
  rw [← hf0] at h_nm h_d h_row h_a h_rw
  have hw : WW D (AW L sz) s.heap L f H locs := by rw [hH, hlocs, hf0]; exact hw
  have hF : ∀ b ∈ L, b ≠ d → b ≠ r0 → f b = f0 b := fun b hb h0 h1 => by rw [hf0]
  suffices hgo : W p l e R s m args below meth c H locs 0 0 Q (F0 m 0 ls []) by rw [hH, hlocs] at hgo; exact hgo
  clear hH hlocs hw0 hf0
  have hLs : ∀ b ∈ L, b ∈ L := fun _ h => h
  have n_nm_d : nm ≠ d := h_nm.ne h_d (by simp)
  have n_nm_row : nm ≠ r0 := h_nm.ne h_row (by simp)
  have n_d_row : d ≠ r0 := h_d.ne h_row (by simp)
  have n_row_d : r0 ≠ d := h_row.ne h_d (by simp)
  have n_a_d : a ≠ d := h_a.ne h_d (by simp)
  have n_a_row : a ≠ r0 := h_a.ne h_row (by simp)
  have n_rw_d : rw ≠ d := h_rw.ne h_d (by simp)
  have n_rw_row : rw ≠ r0 := h_rw.ne h_row (by simp)
  refine lv_aload_n E.1.1 E.1.2.1 dX5_draftTurn_0 rfl (lv_at hl 0 rfl) ?_
  refine k_get (v := .ref d) E inlX5 rfl 2 (by decide) w1_233 rfl hw h_nm rfl dX5_draftTurn_1 ?_
  refine lv_aload_n E.1.1 E.1.2.1 dX5_draftTurn_4 rfl (lv_at hl 1 rfl) ?_
  refine k_getN (v := .int (nI t)) E inlX3 rfl 0 (by decide) (List.mem_of_getElem? (i := 15) rfl) rfl hw h_a rfl dX5_draftTurn_5 ?_
  refine lv_aload_n E.1.1 E.1.2.1 dX5_draftTurn_8 rfl (lv_at hl 1 rfl) ?_
  refine k_getN (v := .int (nI per)) E inlX3 rfl 1 (by decide) (List.mem_of_getElem? (i := 16) rfl) rfl hw h_a rfl dX5_draftTurn_9 ?_
  refine k_mv hw (va_runV (As := [.int (nI t), .int (nI per)]) (rest := []) E.1 (c_open l D cy L f H.size d r0 (t) (per) i1 i2 g (by omega) (by omega) (by omega) h_d h_row) ⟨callB_of 2 E.1.2.2.2.2 (gd_own w1_97) rfl rfl rfl (E.1.2.2.2.2 _ w1_2) (E.1.2.2.2.2 _ w1_94) hd_X0_open (by rw [hR]; exact ⟨Nat.le_of_ble_eq_true rfl, Nat.le_of_ble_eq_true rfl⟩), E.1.2.2.2.2 _ w1_95, E.1.2.2.2.2 _ w1_96⟩ (pw_preV (q := (RX0, TX0, 3)) E.2 hw h_d rfl) rfl rfl hl.1 rfl (lv_room (Nat.le_of_ble_eq_true rfl)) dX5_draftTurn_12 (by rw [hR]; exact ⟨Nat.le_of_ble_eq_true rfl, Nat.le_of_ble_eq_true rfl⟩)) (fun L1 f H locs hp hw => ?_)
  obtain ⟨hL1, hfr, h_d, h_row⟩ := hp
  have hL1 : L = L1 := hL1
  subst hL1
  have h_d : cel L f d (.inr (0, [.ref r0, .int (nI t), .int (nI per)])) := h_d
  have h_row : cel L f r0 (.inl (cy 1, 59, .inr (.inl (wd (fun _ => false))))) := h_row
  have h_nm := h_nm.keep (fun _ h => h) (hfr _ h_nm.1 n_nm_d n_nm_row)
  have h_a := h_a.keep (fun _ h => h) (hfr _ h_a.1 n_a_d n_a_row)
  have h_rw := h_rw.keep (fun _ h => h) (hfr _ h_rw.1 n_rw_d n_rw_row)
  have hF : ∀ b ∈ L, b ≠ d → b ≠ r0 → f b = f0 b := fun b hb h0 h1 => (hfr b (hLs b hb) h0 h1).trans (hF b hb h0 h1)
  rw [← rb_0 (fun n => !den t per b n)] at h_row
  refine lv_iconst (v := nI 0) E.1.1 E.1.2.1 dX5_draftTurn_15 rfl ?_
  refine lv_istore_n (lv' := [(2, .int (nI 0)), (0, .ref nm), (1, .ref a)]) E.1.1 E.1.2.1 dX5_draftTurn_16 rfl hl (by decide) rfl (fun ls hl => ?_)
  have lp17 : ∀ (k : Nat) (i : Nat) (f : Nat → va_E) (H : Heap) (locs : List Loc) (ls : Array Slot), (t + per - i < k) → (i ≤ t + per) → (cel L f nm (.inr (5, [.ref sl, .ref im, .ref d, .ref tr, .int (nI base)]))) → (cel L f d (.inr (0, [.ref r0, .int (nI t), .int (nI per)]))) → (cel L f r0 (.inl (cy 1, 59, .inr (.inl (wd (rb (fun n => !den t per b n) (i))))))) → (cel L f a (.inr (3, [.int (nI t), .int (nI per), .ref rw, .ref mc]))) → (cel L f rw (.inl (cy 1, 3, .inr (.inl (wd b))))) → (∀ b ∈ L, b ≠ d → b ≠ r0 → f b = f0 b) → (WW D (AW L sz) s.heap L f H locs) → (lv_has ls 3 [(2, .int (nI i)), (0, .ref nm), (1, .ref a)]) → W p l e R s m args below meth c H locs 0 0 Q (F0 m 17 ls []) := by
    intro k
    induction k with
    | zero => intro _ _ _ _ _ hk; exact absurd hk (Nat.not_lt_zero _)
    | succ k ih17 =>
      intro i f H locs ls hk hi h_nm h_d h_row h_a h_rw hF hw hl
      refine lv_iload_n E.1.1 E.1.2.1 dX5_draftTurn_17 rfl (lv_at hl 0 rfl) ?_
      refine lv_aload_n E.1.1 E.1.2.1 dX5_draftTurn_18 rfl (lv_at hl 1 rfl) ?_
      refine k_get (v := .ref d) E inlX5 rfl 2 (by decide) w1_233 rfl hw h_nm rfl dX5_draftTurn_19 ?_
      refine k_ri (va_runV (As := []) (rest := [.int (nI i)]) E.1 (c_length l D cy L f H.size d r0 (t) (per) h_d) ⟨callB_of 0 E.1.2.2.2.2 (gd_own w1_123) rfl rfl rfl (E.1.2.2.2.2 _ w1_2) (E.1.2.2.2.2 _ w2_49) hd_X0_length (by rw [hR]; exact ⟨Nat.le_of_ble_eq_true rfl, Nat.le_of_ble_eq_true rfl⟩), E.1.2.2.2.2 _ w1_121, E.1.2.2.2.2 _ w1_122⟩ (pw_preV (q := (RX0, TX0, 3)) E.2 hw h_d rfl) rfl rfl hl.1 rfl (lv_room (Nat.le_of_ble_eq_true rfl)) dX5_draftTurn_22 ⟨Nat.zero_le _, Nat.zero_le _⟩) ?_
      refine k_ge (tgt := 50) E dX5_draftTurn_25 (by decide) (by omega) (by omega) (fun c25 => ?_) (fun c25 => ?_)
      · exact k_mvret E hQ hlk hr hw (Nat.le_of_ble_eq_true rfl) (Nat.le_of_ble_eq_true rfl) (⟨rfl, hF, h_d, by rw [show t + per = i by omega]; exact h_row⟩) dX5_draftTurn_50
      · refine lv_aload_n E.1.1 E.1.2.1 dX5_draftTurn_28 rfl (lv_at hl 2 rfl) ?_
        refine lv_iload_n E.1.1 E.1.2.1 dX5_draftTurn_29 rfl (lv_at hl 0 rfl) ?_
        refine k_ri (va_runV (As := [.int (nI i)]) (rest := []) E.1 (c_at l D cy L f H.size a rw mc t per i b ht hper hperx (by omega) h_a h_rw) ⟨callB_of 1 E.1.2.2.2.2 (gd_own w2_53) rfl rfl rfl (E.1.2.2.2.2 _ w1_8) (E.1.2.2.2.2 _ w2_50) hd_X3_at (by rw [hR]; exact ⟨Nat.le_of_ble_eq_true rfl, Nat.le_of_ble_eq_true rfl⟩), E.1.2.2.2.2 _ w2_51, E.1.2.2.2.2 _ w2_52⟩ (pw_preV (q := (RX3, TX3, 4)) E.2 hw h_a rfl) rfl rfl hl.1 rfl (lv_room (Nat.le_of_ble_eq_true rfl)) dX5_draftTurn_30 ⟨Nat.zero_le _, Nat.zero_le _⟩) ?_
        refine k_if1 (tgt := 44) E dX5_draftTurn_33 (by decide) (fun c33 => ?_) (fun c33 => ?_)
        · rw [rb_f (X := fun n => !den t per b n) (i := i) (by show (!den t per b i) = false; rw [den_in b (by omega), c33]; rfl)] at h_row
          refine lv_iinc (v := nI (i + 1)) (lv' := [(2, .int (nI (i + 1))), (0, .ref nm), (1, .ref a)]) E.1.1 E.1.2.1 dX5_draftTurn_44 hl (k := 0) rfl (nI_1 _) (by decide) rfl (fun ls hl => ?_)
          refine lv_goto (tgt := 17) E.1.1 E.1.2.1 dX5_draftTurn_47 (by decide) ?_
          exact ih17  (i + 1) f H locs ls (by omega) (by omega) h_nm h_d h_row h_a h_rw hF hw (lv_sub hl [0, 1, 2] rfl)
        · refine lv_aload_n E.1.1 E.1.2.1 dX5_draftTurn_36 rfl (lv_at hl 1 rfl) ?_
          refine k_get (v := .ref d) E inlX5 rfl 2 (by decide) w1_233 rfl hw h_nm rfl dX5_draftTurn_37 ?_
          refine lv_iload_n E.1.1 E.1.2.1 dX5_draftTurn_40 rfl (lv_at hl 0 rfl) ?_
          refine k_mv hw (va_runV (As := [.int (nI i)]) (rest := []) E.1 (c_mark l D cy L f H.size d r0 (t) (per) (i) (rb (fun n => !den t per b n) (i)) (by omega) h_d h_row) ⟨callB_of 1 E.1.2.2.2.2 (gd_own w2_29) rfl rfl rfl (E.1.2.2.2.2 _ w1_2) (E.1.2.2.2.2 _ w2_26) hd_X0_mark (by rw [hR]; exact ⟨Nat.le_of_ble_eq_true rfl, Nat.le_of_ble_eq_true rfl⟩), E.1.2.2.2.2 _ w2_27, E.1.2.2.2.2 _ w2_28⟩ (pw_preV (q := (RX0, TX0, 3)) E.2 hw h_d rfl) rfl rfl hl.1 rfl (lv_room (Nat.le_of_ble_eq_true rfl)) dX5_draftTurn_41 (by rw [hR]; exact ⟨Nat.le_of_ble_eq_true rfl, Nat.le_of_ble_eq_true rfl⟩)) (fun L1 f H locs hp hw => ?_)
          obtain ⟨hL1, hfr, h_row⟩ := hp
          have hL1 : L = L1 := hL1
          subst hL1
          have h_row : cel L f r0 (.inl (cy 1, 59, .inr (.inl (wd (bset (rb (fun n => !den t per b n) (i)) (i) true))))) := h_row
          have h_nm := h_nm.keep (fun _ h => h) (hfr _ h_nm.1 n_nm_row)
          have h_d := h_d.keep (fun _ h => h) (hfr _ h_d.1 n_d_row)
          have h_a := h_a.keep (fun _ h => h) (hfr _ h_a.1 n_a_row)
          have h_rw := h_rw.keep (fun _ h => h) (hfr _ h_rw.1 n_rw_row)
          have hF : ∀ b ∈ L, b ≠ d → b ≠ r0 → f b = f0 b := fun b hb h0 h1 => (hfr b (hLs b hb) h1).trans (hF b hb h0 h1)
          rw [rb_t (X := fun n => !den t per b n) (i := i) (by show (!den t per b i) = true; rw [den_in b (by omega), c33]; rfl)] at h_row
          refine lv_iinc (v := nI (i + 1)) (lv' := [(2, .int (nI (i + 1))), (0, .ref nm), (1, .ref a)]) E.1.1 E.1.2.1 dX5_draftTurn_44 hl (k := 0) rfl (nI_1 _) (by decide) rfl (fun ls hl => ?_)
          refine lv_goto (tgt := 17) E.1.1 E.1.2.1 dX5_draftTurn_47 (by decide) ?_
          exact ih17  (i + 1) f H locs ls (by omega) (by omega) h_nm h_d h_row h_a h_rw hF hw (lv_sub hl [0, 1, 2] rfl)
  exact lp17 (t + per - 0 + 1) 0 f H locs ls (Nat.lt_succ_self _) (by omega) h_nm h_d h_row h_a h_rw hF hw (lv_sub hl [0, 1, 2] rfl)

set_option maxHeartbeats 4000000 in
set_option maxRecDepth 100000 in
theorem c_draftJoin (l : Launch) (D : va_G) (cy : Nat → ClassId) (L : List Nat) (f0 : Nat → va_E) (sz : Nat) (nm sl im d tr base r0 : Nat) (i1 i2 : Int32) (g : Nat → Int64) (a rw mc t per a2 rw2 mc2 t2 per2 way : Nat) (b b2 : Nat → Bool) (ht : t ≤ 120) (hper : 0 < per) (hperx : per ≤ 60) (ht2 : t2 ≤ 120) (hper2 : 0 < per2) (hper2x : per2 ≤ 60) (hw4 : way < 4) (h_nm : cel L f0 nm (.inr (5, [.ref sl, .ref im, .ref d, .ref tr, .int (nI base)]))) (h_d : cel L f0 d (.inr (0, [.ref r0, .int i1, .int i2]))) (h_row : cel L f0 r0 (.inl (cy 1, 59, .inr (.inl g)))) (h_a : cel L f0 a (.inr (3, [.int (nI t), .int (nI per), .ref rw, .ref mc]))) (h_rw : cel L f0 rw (.inl (cy 1, 3, .inr (.inl (wd b))))) (h_a2 : cel L f0 a2 (.inr (3, [.int (nI t2), .int (nI per2), .ref rw2, .ref mc2]))) (h_rw2 : cel L f0 rw2 (.inl (cy 1, 3, .inr (.inl (wd b2))))) : Met l yX5_draftJoin (.code yX5_draftJoin cX5_draftJoin 7 none :: wsL_law) { frames := 2, cells := 0, slots := 0, locals := 46 } (va_Pc [.ref nm, .ref a, .ref a2, .int (nI way)] (PW D cy L f0 sz)) (va_Qv (fun u : List Nat × (Nat → va_E) => L = u.1 ∧ (∀ b ∈ L, b ≠ d → b ≠ r0 → u.2 b = f0 b) ∧ ∃ z, cel L u.2 d (.inr (0, [.ref r0, .int (nI (max t t2)), .int (nI z)])) ∧ cel L u.2 r0 (.inl (cy 1, 59, .inr (.inl (wd (rb (fun n => jw way (den t per b n) (den t2 per2 b2 n)) (max t t2 + z)))))) ∧ 0 < z ∧ z ≤ 3600 ∧ per ∣ z ∧ per2 ∣ z) (PB D (AW L sz)) (AW L sz)) 0 0 (AW L sz) := by
  refine m_start (by decide) (Nat.le_of_ble_eq_true rfl) ?_
  intro p e R Q s m args below meth c ls hsz hR hQ E hr hlk hnm hw hl
  have hl : lv_has ls 7 [(0, .ref nm), (1, .ref a), (2, .ref a2), (3, .int (nI way))] := hl
  obtain ⟨H, hH⟩ : ∃ X, X = s.heap := ⟨_, rfl⟩
  obtain ⟨locs, hlocs⟩ : ∃ X : List Loc, X = [] := ⟨_, rfl⟩
  have hw0 := hw
  obtain ⟨f, hf0⟩ : ∃ X, X = f0 := ⟨_, rfl⟩
  rw [← hf0] at h_nm h_d h_row h_a h_rw h_a2 h_rw2
  have hw : WW D (AW L sz) s.heap L f H locs := by rw [hH, hlocs, hf0]; exact hw
  have hF : ∀ b ∈ L, b ≠ d → b ≠ r0 → f b = f0 b := fun b hb h0 h1 => by rw [hf0]
  suffices hgo : W p l e R s m args below meth c H locs 0 0 Q (F0 m 0 ls []) by rw [hH, hlocs] at hgo; exact hgo
  clear hH hlocs hw0 hf0
  have hLs : ∀ b ∈ L, b ∈ L := fun _ h => h
  have n_nm_d : nm ≠ d := h_nm.ne h_d (by simp)
  have n_nm_row : nm ≠ r0 := h_nm.ne h_row (by simp)
  have n_d_row : d ≠ r0 := h_d.ne h_row (by simp)
  have n_row_d : r0 ≠ d := h_row.ne h_d (by simp)
  have n_a_d : a ≠ d := h_a.ne h_d (by simp)
  have n_a_row : a ≠ r0 := h_a.ne h_row (by simp)
  have n_rw_d : rw ≠ d := h_rw.ne h_d (by simp)
  have n_rw_row : rw ≠ r0 := h_rw.ne h_row (by simp)
  have n_a2_d : a2 ≠ d := h_a2.ne h_d (by simp)
  have n_a2_row : a2 ≠ r0 := h_a2.ne h_row (by simp)
  have n_rw2_d : rw2 ≠ d := h_rw2.ne h_d (by simp)
  have n_rw2_row : rw2 ≠ r0 := h_rw2.ne h_row (by simp)
  refine lv_aload_n E.1.1 E.1.2.1 dX5_draftJoin_0 rfl (lv_at hl 0 rfl) ?_
  refine k_get (v := .ref d) E inlX5 rfl 2 (by decide) w1_233 rfl hw h_nm rfl dX5_draftJoin_1 ?_
  refine lv_aload_n E.1.1 E.1.2.1 dX5_draftJoin_4 rfl (lv_at hl 1 rfl) ?_
  refine k_getN (v := .int (nI t)) E inlX3 rfl 0 (by decide) (List.mem_of_getElem? (i := 15) rfl) rfl hw h_a rfl dX5_draftJoin_5 ?_
  refine lv_aload_n E.1.1 E.1.2.1 dX5_draftJoin_8 rfl (lv_at hl 2 rfl) ?_
  refine k_getN (v := .int (nI t2)) E inlX3 rfl 0 (by decide) (List.mem_of_getElem? (i := 15) rfl) rfl hw h_a2 rfl dX5_draftJoin_9 ?_
  refine va_mmax E.1.1 E.1.2.1 (by rw [E.1.2.2.1]; exact hl.1.symm) E.1.2.2.2.1 (E.1.2.2.2.2 _ w2_45) (E.1.2.2.2.2 _ w1_99) (E.1.2.2.2.2 _ w1_5) (E.1.2.2.2.2 _ w1_100) (by rw [hR]; exact Nat.le_of_ble_eq_true rfl) (by rw [hR]; exact Nat.le_of_ble_eq_true rfl) (by rw [hR]; exact Nat.le_of_ble_eq_true rfl) (by rw [hR]; first | exact Nat.le_of_ble_eq_true rfl | (dsimp only; omega)) dX5_draftJoin_12 ?_
  refine k_top E (nI (max t t2)) (mxn (by omega) (by omega)) ?_
  refine lv_aload_n E.1.1 E.1.2.1 dX5_draftJoin_15 rfl (lv_at hl 1 rfl) ?_
  refine k_getN (v := .int (nI per)) E inlX3 rfl 1 (by decide) (List.mem_of_getElem? (i := 16) rfl) rfl hw h_a rfl dX5_draftJoin_16 ?_
  refine lv_aload_n E.1.1 E.1.2.1 dX5_draftJoin_19 rfl (lv_at hl 2 rfl) ?_
  refine k_getN (v := .int (nI per2)) E inlX3 rfl 1 (by decide) (List.mem_of_getElem? (i := 16) rfl) rfl hw h_a2 rfl dX5_draftJoin_20 ?_
  refine k_rip (va_runS (As := [.int (nI per), .int (nI per2)]) (rest := [.int (nI (max t t2)), .ref d]) E.1 (c_leastCommon l D cy L f H.size per per2 hper hperx hper2 hper2x) ⟨callB_of 2 E.1.2.2.2.2 (gd_own w2_48) rfl rfl rfl (E.1.2.2.2.2 _ w1_1) (E.1.2.2.2.2 _ w2_46) hd_X5_leastCommon (by rw [hR]; exact ⟨Nat.le_of_ble_eq_true rfl, Nat.le_of_ble_eq_true rfl⟩), E.1.2.2.2.2 _ w2_47⟩ (pw_pre E.2 hw) rfl rfl hl.1 rfl (lv_room (Nat.le_of_ble_eq_true rfl)) dX5_draftJoin_23 ⟨Nat.zero_le _, Nat.zero_le _⟩) (fun r hp => ?_)
  obtain ⟨z, rfl, hz0, hz1, hz2, hz3⟩ := hp
  refine k_mv hw (va_runV (As := [.int (nI (max t t2)), .int (nI z)]) (rest := []) E.1 (c_open l D cy L f H.size d r0 (max t t2) (z) i1 i2 g (by omega) (by omega) (by omega) h_d h_row) ⟨callB_of 2 E.1.2.2.2.2 (gd_own w1_97) rfl rfl rfl (E.1.2.2.2.2 _ w1_2) (E.1.2.2.2.2 _ w1_94) hd_X0_open (by rw [hR]; exact ⟨Nat.le_of_ble_eq_true rfl, Nat.le_of_ble_eq_true rfl⟩), E.1.2.2.2.2 _ w1_95, E.1.2.2.2.2 _ w1_96⟩ (pw_preV (q := (RX0, TX0, 3)) E.2 hw h_d rfl) rfl rfl hl.1 rfl (lv_room (Nat.le_of_ble_eq_true rfl)) dX5_draftJoin_26 (by rw [hR]; exact ⟨Nat.le_of_ble_eq_true rfl, Nat.le_of_ble_eq_true rfl⟩)) (fun L1 f H locs hp hw => ?_)
  obtain ⟨hL1, hfr, h_d, h_row⟩ := hp
  have hL1 : L = L1 := hL1
  subst hL1
  have h_d : cel L f d (.inr (0, [.ref r0, .int (nI (max t t2)), .int (nI z)])) := h_d
  have h_row : cel L f r0 (.inl (cy 1, 59, .inr (.inl (wd (fun _ => false))))) := h_row
  have h_nm := h_nm.keep (fun _ h => h) (hfr _ h_nm.1 n_nm_d n_nm_row)
  have h_a := h_a.keep (fun _ h => h) (hfr _ h_a.1 n_a_d n_a_row)
  have h_rw := h_rw.keep (fun _ h => h) (hfr _ h_rw.1 n_rw_d n_rw_row)
  have h_a2 := h_a2.keep (fun _ h => h) (hfr _ h_a2.1 n_a2_d n_a2_row)
  have h_rw2 := h_rw2.keep (fun _ h => h) (hfr _ h_rw2.1 n_rw2_d n_rw2_row)
  have hF : ∀ b ∈ L, b ≠ d → b ≠ r0 → f b = f0 b := fun b hb h0 h1 => (hfr b (hLs b hb) h0 h1).trans (hF b hb h0 h1)
  rw [← rb_0 (fun n => jw way (den t per b n) (den t2 per2 b2 n))] at h_row
  refine lv_iconst (v := nI 0) E.1.1 E.1.2.1 dX5_draftJoin_29 rfl ?_
  refine k_top E (nI (fold t per 0)) (by rw [fold_in (by omega)]) ?_
  refine lv_istore (lv' := [(4, .int (nI (fold t per 0))), (0, .ref nm), (1, .ref a), (2, .ref a2), (3, .int (nI way))]) E.1.1 E.1.2.1 dX5_draftJoin_30 hl (by decide) rfl (fun ls hl => ?_)
  refine lv_iconst (v := nI 0) E.1.1 E.1.2.1 dX5_draftJoin_32 rfl ?_
  refine k_top E (nI (fold t2 per2 0)) (by rw [fold_in (by omega)]) ?_
  refine lv_istore (lv' := [(5, .int (nI (fold t2 per2 0))), (4, .int (nI (fold t per 0))), (0, .ref nm), (1, .ref a), (2, .ref a2), (3, .int (nI way))]) E.1.1 E.1.2.1 dX5_draftJoin_33 hl (by decide) rfl (fun ls hl => ?_)
  refine lv_iconst (v := nI 0) E.1.1 E.1.2.1 dX5_draftJoin_35 rfl ?_
  refine lv_istore (lv' := [(6, .int (nI 0)), (5, .int (nI (fold t2 per2 0))), (4, .int (nI (fold t per 0))), (0, .ref nm), (1, .ref a), (2, .ref a2), (3, .int (nI way))]) E.1.1 E.1.2.1 dX5_draftJoin_36 hl (by decide) rfl (fun ls hl => ?_)
  have lp38 : ∀ (k : Nat) (i : Nat) (f : Nat → va_E) (H : Heap) (locs : List Loc) (ls : Array Slot), (max t t2 + z - i < k) → (i ≤ max t t2 + z) → (cel L f nm (.inr (5, [.ref sl, .ref im, .ref d, .ref tr, .int (nI base)]))) → (cel L f d (.inr (0, [.ref r0, .int (nI (max t t2)), .int (nI z)]))) → (cel L f r0 (.inl (cy 1, 59, .inr (.inl (wd (rb (fun n => jw way (den t per b n) (den t2 per2 b2 n)) (i))))))) → (cel L f a (.inr (3, [.int (nI t), .int (nI per), .ref rw, .ref mc]))) → (cel L f rw (.inl (cy 1, 3, .inr (.inl (wd b))))) → (cel L f a2 (.inr (3, [.int (nI t2), .int (nI per2), .ref rw2, .ref mc2]))) → (cel L f rw2 (.inl (cy 1, 3, .inr (.inl (wd b2))))) → (∀ b ∈ L, b ≠ d → b ≠ r0 → f b = f0 b) → (WW D (AW L sz) s.heap L f H locs) → (lv_has ls 7 [(6, .int (nI i)), (4, .int (nI (fold t per i))), (5, .int (nI (fold t2 per2 i))), (0, .ref nm), (1, .ref a), (2, .ref a2), (3, .int (nI way))]) → W p l e R s m args below meth c H locs 0 0 Q (F0 m 38 ls []) := by
    intro k
    induction k with
    | zero => intro _ _ _ _ _ hk; exact absurd hk (Nat.not_lt_zero _)
    | succ k ih38 =>
      intro i f H locs ls hk hi h_nm h_d h_row h_a h_rw h_a2 h_rw2 hF hw hl
      refine lv_iload E.1.1 E.1.2.1 dX5_draftJoin_38 (lv_at hl 0 rfl) ?_
      refine lv_aload_n E.1.1 E.1.2.1 dX5_draftJoin_40 rfl (lv_at hl 3 rfl) ?_
      refine k_get (v := .ref d) E inlX5 rfl 2 (by decide) w1_233 rfl hw h_nm rfl dX5_draftJoin_41 ?_
      refine k_ri (va_runV (As := []) (rest := [.int (nI i)]) E.1 (c_length l D cy L f H.size d r0 (max t t2) (z) h_d) ⟨callB_of 0 E.1.2.2.2.2 (gd_own w1_123) rfl rfl rfl (E.1.2.2.2.2 _ w1_2) (E.1.2.2.2.2 _ w2_49) hd_X0_length (by rw [hR]; exact ⟨Nat.le_of_ble_eq_true rfl, Nat.le_of_ble_eq_true rfl⟩), E.1.2.2.2.2 _ w1_121, E.1.2.2.2.2 _ w1_122⟩ (pw_preV (q := (RX0, TX0, 3)) E.2 hw h_d rfl) rfl rfl hl.1 rfl (lv_room (Nat.le_of_ble_eq_true rfl)) dX5_draftJoin_44 ⟨Nat.zero_le _, Nat.zero_le _⟩) ?_
      refine k_ge (tgt := 100) E dX5_draftJoin_47 (by decide) (by omega) (by omega) (fun c47 => ?_) (fun c47 => ?_)
      · exact k_mvret E hQ hlk hr hw (Nat.le_of_ble_eq_true rfl) (Nat.le_of_ble_eq_true rfl) (⟨rfl, hF, z, h_d, by rw [show max t t2 + z = i by omega]; exact h_row, hz0, hz1, hz2, hz3⟩) dX5_draftJoin_100
      · have hf1 := fold_lt (t := t) (p := per) (n := i) hper
        have hf2 := fold_lt (t := t2) (p := per2) (n := i) hper2
        refine lv_aload_n E.1.1 E.1.2.1 dX5_draftJoin_50 rfl (lv_at hl 4 rfl) ?_
        refine lv_iload E.1.1 E.1.2.1 dX5_draftJoin_51 (lv_at hl 1 rfl) ?_
        refine k_ri (va_runV (As := [.int (nI (fold t per i))]) (rest := []) E.1 (c_at l D cy L f H.size a rw mc t per (fold t per i) b ht hper hperx (by omega) h_a h_rw) ⟨callB_of 1 E.1.2.2.2.2 (gd_own w2_53) rfl rfl rfl (E.1.2.2.2.2 _ w1_8) (E.1.2.2.2.2 _ w2_50) hd_X3_at (by rw [hR]; exact ⟨Nat.le_of_ble_eq_true rfl, Nat.le_of_ble_eq_true rfl⟩), E.1.2.2.2.2 _ w2_51, E.1.2.2.2.2 _ w2_52⟩ (pw_preV (q := (RX3, TX3, 4)) E.2 hw h_a rfl) rfl rfl hl.1 rfl (lv_room (Nat.le_of_ble_eq_true rfl)) dX5_draftJoin_53 ⟨Nat.zero_le _, Nat.zero_le _⟩) ?_
        refine lv_aload_n E.1.1 E.1.2.1 dX5_draftJoin_56 rfl (lv_at hl 5 rfl) ?_
        refine lv_iload E.1.1 E.1.2.1 dX5_draftJoin_57 (lv_at hl 2 rfl) ?_
        refine k_ri (va_runV (As := [.int (nI (fold t2 per2 i))]) (rest := [.int (b2i (b (fold t per i)))]) E.1 (c_at l D cy L f H.size a2 rw2 mc2 t2 per2 (fold t2 per2 i) b2 ht2 hper2 hper2x (by omega) h_a2 h_rw2) ⟨callB_of 1 E.1.2.2.2.2 (gd_own w2_53) rfl rfl rfl (E.1.2.2.2.2 _ w1_8) (E.1.2.2.2.2 _ w2_50) hd_X3_at (by rw [hR]; exact ⟨Nat.le_of_ble_eq_true rfl, Nat.le_of_ble_eq_true rfl⟩), E.1.2.2.2.2 _ w2_51, E.1.2.2.2.2 _ w2_52⟩ (pw_preV (q := (RX3, TX3, 4)) E.2 hw h_a2 rfl) rfl rfl hl.1 rfl (lv_room (Nat.le_of_ble_eq_true rfl)) dX5_draftJoin_59 ⟨Nat.zero_le _, Nat.zero_le _⟩) ?_
        refine lv_iload_n E.1.1 E.1.2.1 dX5_draftJoin_62 rfl (lv_at hl 6 rfl) ?_
        refine k_ri (va_runS (As := [.int (b2i (b (fold t per i))), .int (b2i (b2 (fold t2 per2 i))), .int (nI way)]) (rest := []) E.1 (c_joined l D cy L f H.size (b (fold t per i)) (b2 (fold t2 per2 i)) way hw4) ⟨callB_of 3 E.1.2.2.2.2 (gd_own w2_57) rfl rfl rfl (E.1.2.2.2.2 _ w1_1) (E.1.2.2.2.2 _ w2_55) hd_X5_joined (by rw [hR]; exact ⟨Nat.le_of_ble_eq_true rfl, Nat.le_of_ble_eq_true rfl⟩), E.1.2.2.2.2 _ w2_56⟩ (pw_pre E.2 hw) rfl rfl hl.1 rfl (lv_room (Nat.le_of_ble_eq_true rfl)) dX5_draftJoin_63 ⟨Nat.zero_le _, Nat.zero_le _⟩) ?_
        refine k_if0 (tgt := 78) E dX5_draftJoin_66 (by decide) (fun c66 => ?_) (fun c66 => ?_)
        · rw [rb_f (X := fun n => jw way (den t per b n) (den t2 per2 b2 n)) (i := i) (c66)] at h_row
          refine lv_aload_n E.1.1 E.1.2.1 dX5_draftJoin_78 rfl (lv_at hl 4 rfl) ?_
          refine lv_iload E.1.1 E.1.2.1 dX5_draftJoin_79 (lv_at hl 1 rfl) ?_
          refine k_ri (va_runV (As := [.int (nI (fold t per i))]) (rest := []) E.1 (c_placeAfter l D cy L f H.size a rw mc t per (fold t per i) b ht hper hperx (by omega) h_a) ⟨callB_of 1 E.1.2.2.2.2 (gd_own w2_61) rfl rfl rfl (E.1.2.2.2.2 _ w1_8) (E.1.2.2.2.2 _ w2_58) hd_X3_placeAfter (by rw [hR]; exact ⟨Nat.le_of_ble_eq_true rfl, Nat.le_of_ble_eq_true rfl⟩), E.1.2.2.2.2 _ w2_59, E.1.2.2.2.2 _ w2_60⟩ (pw_preV (q := (RX3, TX3, 4)) E.2 hw h_a rfl) rfl rfl hl.1 rfl (lv_room (Nat.le_of_ble_eq_true rfl)) dX5_draftJoin_81 ⟨Nat.zero_le _, Nat.zero_le _⟩) ?_
          refine k_top E (nI (fold t per (i + 1))) (by rw [pa_fold hper]) ?_
          refine lv_istore (lv' := [(4, .int (nI (fold t per (i + 1)))), (6, .int (nI i)), (5, .int (nI (fold t2 per2 i))), (0, .ref nm), (1, .ref a), (2, .ref a2), (3, .int (nI way))]) E.1.1 E.1.2.1 dX5_draftJoin_84 hl (by decide) rfl (fun ls hl => ?_)
          refine lv_aload_n E.1.1 E.1.2.1 dX5_draftJoin_86 rfl (lv_at hl 5 rfl) ?_
          refine lv_iload E.1.1 E.1.2.1 dX5_draftJoin_87 (lv_at hl 2 rfl) ?_
          refine k_ri (va_runV (As := [.int (nI (fold t2 per2 i))]) (rest := []) E.1 (c_placeAfter l D cy L f H.size a2 rw2 mc2 t2 per2 (fold t2 per2 i) b2 ht2 hper2 hper2x (by omega) h_a2) ⟨callB_of 1 E.1.2.2.2.2 (gd_own w2_61) rfl rfl rfl (E.1.2.2.2.2 _ w1_8) (E.1.2.2.2.2 _ w2_58) hd_X3_placeAfter (by rw [hR]; exact ⟨Nat.le_of_ble_eq_true rfl, Nat.le_of_ble_eq_true rfl⟩), E.1.2.2.2.2 _ w2_59, E.1.2.2.2.2 _ w2_60⟩ (pw_preV (q := (RX3, TX3, 4)) E.2 hw h_a2 rfl) rfl rfl hl.1 rfl (lv_room (Nat.le_of_ble_eq_true rfl)) dX5_draftJoin_89 ⟨Nat.zero_le _, Nat.zero_le _⟩) ?_
          refine k_top E (nI (fold t2 per2 (i + 1))) (by rw [pa_fold hper2]) ?_
          refine lv_istore (lv' := [(5, .int (nI (fold t2 per2 (i + 1)))), (4, .int (nI (fold t per (i + 1)))), (6, .int (nI i)), (0, .ref nm), (1, .ref a), (2, .ref a2), (3, .int (nI way))]) E.1.1 E.1.2.1 dX5_draftJoin_92 hl (by decide) rfl (fun ls hl => ?_)
          refine lv_iinc (v := nI (i + 1)) (lv' := [(6, .int (nI (i + 1))), (5, .int (nI (fold t2 per2 (i + 1)))), (4, .int (nI (fold t per (i + 1)))), (0, .ref nm), (1, .ref a), (2, .ref a2), (3, .int (nI way))]) E.1.1 E.1.2.1 dX5_draftJoin_94 hl (k := 2) rfl (nI_1 _) (by decide) rfl (fun ls hl => ?_)
          refine lv_goto (tgt := 38) E.1.1 E.1.2.1 dX5_draftJoin_97 (by decide) ?_
          exact ih38  (i + 1) f H locs ls (by omega) (by omega) h_nm h_d h_row h_a h_rw h_a2 h_rw2 hF hw (lv_sub hl [0, 2, 1, 3, 4, 5, 6] rfl)
        · refine lv_aload_n E.1.1 E.1.2.1 dX5_draftJoin_69 rfl (lv_at hl 3 rfl) ?_
          refine k_get (v := .ref d) E inlX5 rfl 2 (by decide) w1_233 rfl hw h_nm rfl dX5_draftJoin_70 ?_
          refine lv_iload E.1.1 E.1.2.1 dX5_draftJoin_73 (lv_at hl 0 rfl) ?_
          refine k_mv hw (va_runV (As := [.int (nI i)]) (rest := []) E.1 (c_mark l D cy L f H.size d r0 (max t t2) (z) (i) (rb (fun n => jw way (den t per b n) (den t2 per2 b2 n)) (i)) (by omega) h_d h_row) ⟨callB_of 1 E.1.2.2.2.2 (gd_own w2_29) rfl rfl rfl (E.1.2.2.2.2 _ w1_2) (E.1.2.2.2.2 _ w2_26) hd_X0_mark (by rw [hR]; exact ⟨Nat.le_of_ble_eq_true rfl, Nat.le_of_ble_eq_true rfl⟩), E.1.2.2.2.2 _ w2_27, E.1.2.2.2.2 _ w2_28⟩ (pw_preV (q := (RX0, TX0, 3)) E.2 hw h_d rfl) rfl rfl hl.1 rfl (lv_room (Nat.le_of_ble_eq_true rfl)) dX5_draftJoin_75 (by rw [hR]; exact ⟨Nat.le_of_ble_eq_true rfl, Nat.le_of_ble_eq_true rfl⟩)) (fun L1 f H locs hp hw => ?_)
          obtain ⟨hL1, hfr, h_row⟩ := hp
          have hL1 : L = L1 := hL1
          subst hL1
          have h_row : cel L f r0 (.inl (cy 1, 59, .inr (.inl (wd (bset (rb (fun n => jw way (den t per b n) (den t2 per2 b2 n)) (i)) (i) true))))) := h_row
          have h_nm := h_nm.keep (fun _ h => h) (hfr _ h_nm.1 n_nm_row)
          have h_d := h_d.keep (fun _ h => h) (hfr _ h_d.1 n_d_row)
          have h_a := h_a.keep (fun _ h => h) (hfr _ h_a.1 n_a_row)
          have h_rw := h_rw.keep (fun _ h => h) (hfr _ h_rw.1 n_rw_row)
          have h_a2 := h_a2.keep (fun _ h => h) (hfr _ h_a2.1 n_a2_row)
          have h_rw2 := h_rw2.keep (fun _ h => h) (hfr _ h_rw2.1 n_rw2_row)
          have hF : ∀ b ∈ L, b ≠ d → b ≠ r0 → f b = f0 b := fun b hb h0 h1 => (hfr b (hLs b hb) h1).trans (hF b hb h0 h1)
          rw [rb_t (X := fun n => jw way (den t per b n) (den t2 per2 b2 n)) (i := i) (c66)] at h_row
          refine lv_aload_n E.1.1 E.1.2.1 dX5_draftJoin_78 rfl (lv_at hl 4 rfl) ?_
          refine lv_iload E.1.1 E.1.2.1 dX5_draftJoin_79 (lv_at hl 1 rfl) ?_
          refine k_ri (va_runV (As := [.int (nI (fold t per i))]) (rest := []) E.1 (c_placeAfter l D cy L f H.size a rw mc t per (fold t per i) b ht hper hperx (by omega) h_a) ⟨callB_of 1 E.1.2.2.2.2 (gd_own w2_61) rfl rfl rfl (E.1.2.2.2.2 _ w1_8) (E.1.2.2.2.2 _ w2_58) hd_X3_placeAfter (by rw [hR]; exact ⟨Nat.le_of_ble_eq_true rfl, Nat.le_of_ble_eq_true rfl⟩), E.1.2.2.2.2 _ w2_59, E.1.2.2.2.2 _ w2_60⟩ (pw_preV (q := (RX3, TX3, 4)) E.2 hw h_a rfl) rfl rfl hl.1 rfl (lv_room (Nat.le_of_ble_eq_true rfl)) dX5_draftJoin_81 ⟨Nat.zero_le _, Nat.zero_le _⟩) ?_
          refine k_top E (nI (fold t per (i + 1))) (by rw [pa_fold hper]) ?_
          refine lv_istore (lv' := [(4, .int (nI (fold t per (i + 1)))), (6, .int (nI i)), (5, .int (nI (fold t2 per2 i))), (0, .ref nm), (1, .ref a), (2, .ref a2), (3, .int (nI way))]) E.1.1 E.1.2.1 dX5_draftJoin_84 hl (by decide) rfl (fun ls hl => ?_)
          refine lv_aload_n E.1.1 E.1.2.1 dX5_draftJoin_86 rfl (lv_at hl 5 rfl) ?_
          refine lv_iload E.1.1 E.1.2.1 dX5_draftJoin_87 (lv_at hl 2 rfl) ?_
          refine k_ri (va_runV (As := [.int (nI (fold t2 per2 i))]) (rest := []) E.1 (c_placeAfter l D cy L f H.size a2 rw2 mc2 t2 per2 (fold t2 per2 i) b2 ht2 hper2 hper2x (by omega) h_a2) ⟨callB_of 1 E.1.2.2.2.2 (gd_own w2_61) rfl rfl rfl (E.1.2.2.2.2 _ w1_8) (E.1.2.2.2.2 _ w2_58) hd_X3_placeAfter (by rw [hR]; exact ⟨Nat.le_of_ble_eq_true rfl, Nat.le_of_ble_eq_true rfl⟩), E.1.2.2.2.2 _ w2_59, E.1.2.2.2.2 _ w2_60⟩ (pw_preV (q := (RX3, TX3, 4)) E.2 hw h_a2 rfl) rfl rfl hl.1 rfl (lv_room (Nat.le_of_ble_eq_true rfl)) dX5_draftJoin_89 ⟨Nat.zero_le _, Nat.zero_le _⟩) ?_
          refine k_top E (nI (fold t2 per2 (i + 1))) (by rw [pa_fold hper2]) ?_
          refine lv_istore (lv' := [(5, .int (nI (fold t2 per2 (i + 1)))), (4, .int (nI (fold t per (i + 1)))), (6, .int (nI i)), (0, .ref nm), (1, .ref a), (2, .ref a2), (3, .int (nI way))]) E.1.1 E.1.2.1 dX5_draftJoin_92 hl (by decide) rfl (fun ls hl => ?_)
          refine lv_iinc (v := nI (i + 1)) (lv' := [(6, .int (nI (i + 1))), (5, .int (nI (fold t2 per2 (i + 1)))), (4, .int (nI (fold t per (i + 1)))), (0, .ref nm), (1, .ref a), (2, .ref a2), (3, .int (nI way))]) E.1.1 E.1.2.1 dX5_draftJoin_94 hl (k := 2) rfl (nI_1 _) (by decide) rfl (fun ls hl => ?_)
          refine lv_goto (tgt := 38) E.1.1 E.1.2.1 dX5_draftJoin_97 (by decide) ?_
          exact ih38  (i + 1) f H locs ls (by omega) (by omega) h_nm h_d h_row h_a h_rw h_a2 h_rw2 hF hw (lv_sub hl [0, 2, 1, 3, 4, 5, 6] rfl)
  exact lp38 (max t t2 + z - 0 + 1) 0 f H locs ls (Nat.lt_succ_self _) (by omega) h_nm h_d h_row h_a h_rw h_a2 h_rw2 hF hw (lv_sub hl [0, 2, 1, 3, 4, 5, 6] rfl)

set_option maxHeartbeats 4000000 in
set_option maxRecDepth 100000 in
theorem c_draftShiftU (l : Launch) (D : va_G) (cy : Nat → ClassId) (L : List Nat) (f0 : Nat → va_E) (sz : Nat) (nm sl im d tr base r0 : Nat) (i1 i2 : Int32) (g : Nat → Int64) (a rw mc t per w : Nat) (b : Nat → Bool) (ht : t ≤ 120) (hper : 0 < per) (hperx : per ≤ 60) (hw1 : w ≤ 100) (h_nm : cel L f0 nm (.inr (5, [.ref sl, .ref im, .ref d, .ref tr, .int (nI base)]))) (h_d : cel L f0 d (.inr (0, [.ref r0, .int i1, .int i2]))) (h_row : cel L f0 r0 (.inl (cy 1, 59, .inr (.inl g)))) (h_a : cel L f0 a (.inr (3, [.int (nI t), .int (nI per), .ref rw, .ref mc]))) (h_rw : cel L f0 rw (.inl (cy 1, 3, .inr (.inl (wd b))))) : Met l yX5_draftShift (.code yX5_draftShift cX5_draftShift 4 none :: wsL_law) { frames := 3, cells := 0, slots := 0, locals := 64 } (va_Pc [.ref nm, .ref a, .int (nI w)] (PW D cy L f0 sz)) (va_Qv (fun u : List Nat × (Nat → va_E) => L = u.1 ∧ (∀ b ∈ L, b ≠ d → b ≠ r0 → u.2 b = f0 b) ∧ cel L u.2 d (.inr (0, [.ref r0, .int (nI (t + w)), .int (nI (per))])) ∧ cel L u.2 r0 (.inl (cy 1, 59, .inr (.inl (wd (rb (shU (den t per b) w) (t + w + per))))))) (PB D (AW L sz)) (AW L sz)) 0 0 (AW L sz) := by
  refine m_start (by decide) (Nat.le_of_ble_eq_true rfl) ?_
  intro p e R Q s m args below meth c ls hsz hR hQ E hr hlk hnm hw hl
  have hl : lv_has ls 4 [(0, .ref nm), (1, .ref a), (2, .int (nI w))] := hl
  obtain ⟨H, hH⟩ : ∃ X, X = s.heap := ⟨_, rfl⟩
  obtain ⟨locs, hlocs⟩ : ∃ X : List Loc, X = [] := ⟨_, rfl⟩
  have hw0 := hw
  obtain ⟨f, hf0⟩ : ∃ X, X = f0 := ⟨_, rfl⟩
  rw [← hf0] at h_nm h_d h_row h_a h_rw
  have hw : WW D (AW L sz) s.heap L f H locs := by rw [hH, hlocs, hf0]; exact hw
  have hF : ∀ b ∈ L, b ≠ d → b ≠ r0 → f b = f0 b := fun b hb h0 h1 => by rw [hf0]
  suffices hgo : W p l e R s m args below meth c H locs 0 0 Q (F0 m 0 ls []) by rw [hH, hlocs] at hgo; exact hgo
  clear hH hlocs hw0 hf0
  have hLs : ∀ b ∈ L, b ∈ L := fun _ h => h
  have n_nm_d : nm ≠ d := h_nm.ne h_d (by simp)
  have n_nm_row : nm ≠ r0 := h_nm.ne h_row (by simp)
  have n_d_row : d ≠ r0 := h_d.ne h_row (by simp)
  have n_row_d : r0 ≠ d := h_row.ne h_d (by simp)
  have n_a_d : a ≠ d := h_a.ne h_d (by simp)
  have n_a_row : a ≠ r0 := h_a.ne h_row (by simp)
  have n_rw_d : rw ≠ d := h_rw.ne h_d (by simp)
  have n_rw_row : rw ≠ r0 := h_rw.ne h_row (by simp)
  refine lv_aload_n E.1.1 E.1.2.1 dX5_draftShift_0 rfl (lv_at hl 0 rfl) ?_
  refine k_get (v := .ref d) E inlX5 rfl 2 (by decide) w1_233 rfl hw h_nm rfl dX5_draftShift_1 ?_
  refine lv_iconst (v := nI 0) E.1.1 E.1.2.1 dX5_draftShift_4 rfl ?_
  refine lv_aload_n E.1.1 E.1.2.1 dX5_draftShift_5 rfl (lv_at hl 1 rfl) ?_
  refine k_getN (v := .int (nI t)) E inlX3 rfl 0 (by decide) (List.mem_of_getElem? (i := 15) rfl) rfl hw h_a rfl dX5_draftShift_6 ?_
  refine lv_iload_n E.1.1 E.1.2.1 dX5_draftShift_9 rfl (lv_at hl 2 rfl) ?_
  refine k_add E dX5_draftShift_10 ?_
  refine va_mmax E.1.1 E.1.2.1 (by rw [E.1.2.2.1]; exact hl.1.symm) E.1.2.2.2.1 (E.1.2.2.2.2 _ w2_45) (E.1.2.2.2.2 _ w1_99) (E.1.2.2.2.2 _ w1_5) (E.1.2.2.2.2 _ w1_100) (by rw [hR]; exact Nat.le_of_ble_eq_true rfl) (by rw [hR]; exact Nat.le_of_ble_eq_true rfl) (by rw [hR]; exact Nat.le_of_ble_eq_true rfl) (by rw [hR]; first | exact Nat.le_of_ble_eq_true rfl | (dsimp only; omega)) dX5_draftShift_11 ?_
  refine k_top E (nI (t + w)) (mx0 (by omega)) ?_
  refine lv_aload_n E.1.1 E.1.2.1 dX5_draftShift_14 rfl (lv_at hl 1 rfl) ?_
  refine k_getN (v := .int (nI per)) E inlX3 rfl 1 (by decide) (List.mem_of_getElem? (i := 16) rfl) rfl hw h_a rfl dX5_draftShift_15 ?_
  refine k_mv hw (va_runV (As := [.int (nI (t + w)), .int (nI per)]) (rest := []) E.1 (c_open l D cy L f H.size d r0 (t + w) (per) i1 i2 g (by omega) (by omega) (by omega) h_d h_row) ⟨callB_of 2 E.1.2.2.2.2 (gd_own w1_97) rfl rfl rfl (E.1.2.2.2.2 _ w1_2) (E.1.2.2.2.2 _ w1_94) hd_X0_open (by rw [hR]; exact ⟨Nat.le_of_ble_eq_true rfl, Nat.le_of_ble_eq_true rfl⟩), E.1.2.2.2.2 _ w1_95, E.1.2.2.2.2 _ w1_96⟩ (pw_preV (q := (RX0, TX0, 3)) E.2 hw h_d rfl) rfl rfl hl.1 rfl (lv_room (Nat.le_of_ble_eq_true rfl)) dX5_draftShift_18 (by rw [hR]; exact ⟨Nat.le_of_ble_eq_true rfl, Nat.le_of_ble_eq_true rfl⟩)) (fun L1 f H locs hp hw => ?_)
  obtain ⟨hL1, hfr, h_d, h_row⟩ := hp
  have hL1 : L = L1 := hL1
  subst hL1
  have h_d : cel L f d (.inr (0, [.ref r0, .int (nI (t + w)), .int (nI per)])) := h_d
  have h_row : cel L f r0 (.inl (cy 1, 59, .inr (.inl (wd (fun _ => false))))) := h_row
  have h_nm := h_nm.keep (fun _ h => h) (hfr _ h_nm.1 n_nm_d n_nm_row)
  have h_a := h_a.keep (fun _ h => h) (hfr _ h_a.1 n_a_d n_a_row)
  have h_rw := h_rw.keep (fun _ h => h) (hfr _ h_rw.1 n_rw_d n_rw_row)
  have hF : ∀ b ∈ L, b ≠ d → b ≠ r0 → f b = f0 b := fun b hb h0 h1 => (hfr b (hLs b hb) h0 h1).trans (hF b hb h0 h1)
  rw [rb_none (X := shU (den t per b) w) (i := w) (fun n hn => by show (decide (w ≤ n) && den t per b (n - w)) = false; rw [decide_eq_false (by omega)]; rfl)] at h_row
  refine lv_iconst (v := nI 0) E.1.1 E.1.2.1 dX5_draftShift_21 rfl ?_
  refine lv_iload_n E.1.1 E.1.2.1 dX5_draftShift_22 rfl (lv_at hl 2 rfl) ?_
  refine va_mmax E.1.1 E.1.2.1 (by rw [E.1.2.2.1]; exact hl.1.symm) E.1.2.2.2.1 (E.1.2.2.2.2 _ w2_45) (E.1.2.2.2.2 _ w1_99) (E.1.2.2.2.2 _ w1_5) (E.1.2.2.2.2 _ w1_100) (by rw [hR]; exact Nat.le_of_ble_eq_true rfl) (by rw [hR]; exact Nat.le_of_ble_eq_true rfl) (by rw [hR]; exact Nat.le_of_ble_eq_true rfl) (by rw [hR]; first | exact Nat.le_of_ble_eq_true rfl | (dsimp only; omega)) dX5_draftShift_23 ?_
  refine k_top E (nI w) (mx0 (by omega)) ?_
  refine lv_istore_n (lv' := [(3, .int (nI w)), (0, .ref nm), (1, .ref a), (2, .int (nI w))]) E.1.1 E.1.2.1 dX5_draftShift_26 rfl hl (by decide) rfl (fun ls hl => ?_)
  have lp27 : ∀ (k : Nat) (i : Nat) (f : Nat → va_E) (H : Heap) (locs : List Loc) (ls : Array Slot), (t + w + per - i < k) → (i ≤ t + w + per) → (w ≤ i) → (cel L f nm (.inr (5, [.ref sl, .ref im, .ref d, .ref tr, .int (nI base)]))) → (cel L f d (.inr (0, [.ref r0, .int (nI (t + w)), .int (nI per)]))) → (cel L f r0 (.inl (cy 1, 59, .inr (.inl (wd (rb (shU (den t per b) w) (i))))))) → (cel L f a (.inr (3, [.int (nI t), .int (nI per), .ref rw, .ref mc]))) → (cel L f rw (.inl (cy 1, 3, .inr (.inl (wd b))))) → (∀ b ∈ L, b ≠ d → b ≠ r0 → f b = f0 b) → (WW D (AW L sz) s.heap L f H locs) → (lv_has ls 4 [(3, .int (nI i)), (0, .ref nm), (1, .ref a), (2, .int (nI w))]) → W p l e R s m args below meth c H locs 0 0 Q (F0 m 27 ls []) := by
    intro k
    induction k with
    | zero => intro _ _ _ _ _ hk; exact absurd hk (Nat.not_lt_zero _)
    | succ k ih27 =>
      intro i f H locs ls hk hi hi0 h_nm h_d h_row h_a h_rw hF hw hl
      refine lv_iload_n E.1.1 E.1.2.1 dX5_draftShift_27 rfl (lv_at hl 0 rfl) ?_
      refine lv_aload_n E.1.1 E.1.2.1 dX5_draftShift_28 rfl (lv_at hl 1 rfl) ?_
      refine k_get (v := .ref d) E inlX5 rfl 2 (by decide) w1_233 rfl hw h_nm rfl dX5_draftShift_29 ?_
      refine k_ri (va_runV (As := []) (rest := [.int (nI i)]) E.1 (c_length l D cy L f H.size d r0 (t + w) (per) h_d) ⟨callB_of 0 E.1.2.2.2.2 (gd_own w1_123) rfl rfl rfl (E.1.2.2.2.2 _ w1_2) (E.1.2.2.2.2 _ w2_49) hd_X0_length (by rw [hR]; exact ⟨Nat.le_of_ble_eq_true rfl, Nat.le_of_ble_eq_true rfl⟩), E.1.2.2.2.2 _ w1_121, E.1.2.2.2.2 _ w1_122⟩ (pw_preV (q := (RX0, TX0, 3)) E.2 hw h_d rfl) rfl rfl hl.1 rfl (lv_room (Nat.le_of_ble_eq_true rfl)) dX5_draftShift_32 ⟨Nat.zero_le _, Nat.zero_le _⟩) ?_
      refine k_ge (tgt := 62) E dX5_draftShift_35 (by decide) (by omega) (by omega) (fun c35 => ?_) (fun c35 => ?_)
      · exact k_mvret E hQ hlk hr hw (Nat.le_of_ble_eq_true rfl) (Nat.le_of_ble_eq_true rfl) (⟨rfl, hF, h_d, by rw [show t + w + per = i by omega]; exact h_row⟩) dX5_draftShift_62
      · refine lv_aload_n E.1.1 E.1.2.1 dX5_draftShift_38 rfl (lv_at hl 2 rfl) ?_
        refine lv_iload_n E.1.1 E.1.2.1 dX5_draftShift_39 rfl (lv_at hl 0 rfl) ?_
        refine lv_iload_n E.1.1 E.1.2.1 dX5_draftShift_40 rfl (lv_at hl 3 rfl) ?_
        refine k_sub E dX5_draftShift_41 (by omega) ?_
        refine k_ri (va_runV (As := [.int (nI (i - w))]) (rest := []) E.1 (c_holds l D cy L f H.size a rw mc t per (i - w) b ht hper hperx (by omega) h_a h_rw) ⟨callB_of 1 E.1.2.2.2.2 (gd_own w2_81) rfl rfl rfl (E.1.2.2.2.2 _ w1_8) (E.1.2.2.2.2 _ w2_78) hd_X3_holds (by rw [hR]; exact ⟨Nat.le_of_ble_eq_true rfl, Nat.le_of_ble_eq_true rfl⟩), E.1.2.2.2.2 _ w2_79, E.1.2.2.2.2 _ w2_80⟩ (pw_preV (q := (RX3, TX3, 4)) E.2 hw h_a rfl) rfl rfl hl.1 rfl (lv_room (Nat.le_of_ble_eq_true rfl)) dX5_draftShift_42 ⟨Nat.zero_le _, Nat.zero_le _⟩) ?_
        refine k_if0 (tgt := 56) E dX5_draftShift_45 (by decide) (fun c45 => ?_) (fun c45 => ?_)
        · rw [rb_f (X := shU (den t per b) w) (i := i) (by show (decide (w ≤ i) && den t per b (i - w)) = false; rw [c45, Bool.and_false])] at h_row
          refine lv_iinc (v := nI (i + 1)) (lv' := [(3, .int (nI (i + 1))), (0, .ref nm), (1, .ref a), (2, .int (nI w))]) E.1.1 E.1.2.1 dX5_draftShift_56 hl (k := 0) rfl (nI_1 _) (by decide) rfl (fun ls hl => ?_)
          refine lv_goto (tgt := 27) E.1.1 E.1.2.1 dX5_draftShift_59 (by decide) ?_
          exact ih27  (i + 1) f H locs ls (by omega) (by omega) (by omega) h_nm h_d h_row h_a h_rw hF hw (lv_sub hl [0, 1, 2, 3] rfl)
        · refine lv_aload_n E.1.1 E.1.2.1 dX5_draftShift_48 rfl (lv_at hl 1 rfl) ?_
          refine k_get (v := .ref d) E inlX5 rfl 2 (by decide) w1_233 rfl hw h_nm rfl dX5_draftShift_49 ?_
          refine lv_iload_n E.1.1 E.1.2.1 dX5_draftShift_52 rfl (lv_at hl 0 rfl) ?_
          refine k_mv hw (va_runV (As := [.int (nI i)]) (rest := []) E.1 (c_mark l D cy L f H.size d r0 (t + w) (per) (i) (rb (shU (den t per b) w) (i)) (by omega) h_d h_row) ⟨callB_of 1 E.1.2.2.2.2 (gd_own w2_29) rfl rfl rfl (E.1.2.2.2.2 _ w1_2) (E.1.2.2.2.2 _ w2_26) hd_X0_mark (by rw [hR]; exact ⟨Nat.le_of_ble_eq_true rfl, Nat.le_of_ble_eq_true rfl⟩), E.1.2.2.2.2 _ w2_27, E.1.2.2.2.2 _ w2_28⟩ (pw_preV (q := (RX0, TX0, 3)) E.2 hw h_d rfl) rfl rfl hl.1 rfl (lv_room (Nat.le_of_ble_eq_true rfl)) dX5_draftShift_53 (by rw [hR]; exact ⟨Nat.le_of_ble_eq_true rfl, Nat.le_of_ble_eq_true rfl⟩)) (fun L1 f H locs hp hw => ?_)
          obtain ⟨hL1, hfr, h_row⟩ := hp
          have hL1 : L = L1 := hL1
          subst hL1
          have h_row : cel L f r0 (.inl (cy 1, 59, .inr (.inl (wd (bset (rb (shU (den t per b) w) (i)) (i) true))))) := h_row
          have h_nm := h_nm.keep (fun _ h => h) (hfr _ h_nm.1 n_nm_row)
          have h_d := h_d.keep (fun _ h => h) (hfr _ h_d.1 n_d_row)
          have h_a := h_a.keep (fun _ h => h) (hfr _ h_a.1 n_a_row)
          have h_rw := h_rw.keep (fun _ h => h) (hfr _ h_rw.1 n_rw_row)
          have hF : ∀ b ∈ L, b ≠ d → b ≠ r0 → f b = f0 b := fun b hb h0 h1 => (hfr b (hLs b hb) h1).trans (hF b hb h0 h1)
          rw [rb_t (X := shU (den t per b) w) (i := i) (by show (decide (w ≤ i) && den t per b (i - w)) = true; rw [c45, decide_eq_true hi0]; rfl)] at h_row
          refine lv_iinc (v := nI (i + 1)) (lv' := [(3, .int (nI (i + 1))), (0, .ref nm), (1, .ref a), (2, .int (nI w))]) E.1.1 E.1.2.1 dX5_draftShift_56 hl (k := 0) rfl (nI_1 _) (by decide) rfl (fun ls hl => ?_)
          refine lv_goto (tgt := 27) E.1.1 E.1.2.1 dX5_draftShift_59 (by decide) ?_
          exact ih27  (i + 1) f H locs ls (by omega) (by omega) (by omega) h_nm h_d h_row h_a h_rw hF hw (lv_sub hl [0, 1, 2, 3] rfl)
  exact lp27 (t + w + per - w + 1) w f H locs ls (Nat.lt_succ_self _) (by omega) (by omega) h_nm h_d h_row h_a h_rw hF hw (lv_sub hl [0, 1, 2, 3] rfl)

set_option maxHeartbeats 4000000 in
set_option maxRecDepth 100000 in
theorem c_draftShiftD (l : Launch) (D : va_G) (cy : Nat → ClassId) (L : List Nat) (f0 : Nat → va_E) (sz : Nat) (nm sl im d tr base r0 : Nat) (i1 i2 : Int32) (g : Nat → Int64) (a rw mc t per w : Nat) (b : Nat → Bool) (ht : t ≤ 120) (hper : 0 < per) (hperx : per ≤ 60) (hw1 : w ≤ 100) (h_nm : cel L f0 nm (.inr (5, [.ref sl, .ref im, .ref d, .ref tr, .int (nI base)]))) (h_d : cel L f0 d (.inr (0, [.ref r0, .int i1, .int i2]))) (h_row : cel L f0 r0 (.inl (cy 1, 59, .inr (.inl g)))) (h_a : cel L f0 a (.inr (3, [.int (nI t), .int (nI per), .ref rw, .ref mc]))) (h_rw : cel L f0 rw (.inl (cy 1, 3, .inr (.inl (wd b))))) : Met l yX5_draftShift (.code yX5_draftShift cX5_draftShift 4 none :: wsL_law) { frames := 3, cells := 0, slots := 0, locals := 64 } (va_Pc [.ref nm, .ref a, .int (-nI w)] (PW D cy L f0 sz)) (va_Qv (fun u : List Nat × (Nat → va_E) => L = u.1 ∧ (∀ b ∈ L, b ≠ d → b ≠ r0 → u.2 b = f0 b) ∧ cel L u.2 d (.inr (0, [.ref r0, .int (nI (t - w)), .int (nI (per))])) ∧ cel L u.2 r0 (.inl (cy 1, 59, .inr (.inl (wd (rb (shD (den t per b) w) (t - w + per))))))) (PB D (AW L sz)) (AW L sz)) 0 0 (AW L sz) := by
  refine m_start (by decide) (Nat.le_of_ble_eq_true rfl) ?_
  intro p e R Q s m args below meth c ls hsz hR hQ E hr hlk hnm hw hl
  have hl : lv_has ls 4 [(0, .ref nm), (1, .ref a), (2, .int (-nI w))] := hl
  obtain ⟨H, hH⟩ : ∃ X, X = s.heap := ⟨_, rfl⟩
  obtain ⟨locs, hlocs⟩ : ∃ X : List Loc, X = [] := ⟨_, rfl⟩
  have hw0 := hw
  obtain ⟨f, hf0⟩ : ∃ X, X = f0 := ⟨_, rfl⟩
  rw [← hf0] at h_nm h_d h_row h_a h_rw
  have hw : WW D (AW L sz) s.heap L f H locs := by rw [hH, hlocs, hf0]; exact hw
  have hF : ∀ b ∈ L, b ≠ d → b ≠ r0 → f b = f0 b := fun b hb h0 h1 => by rw [hf0]
  suffices hgo : W p l e R s m args below meth c H locs 0 0 Q (F0 m 0 ls []) by rw [hH, hlocs] at hgo; exact hgo
  clear hH hlocs hw0 hf0
  have hLs : ∀ b ∈ L, b ∈ L := fun _ h => h
  have n_nm_d : nm ≠ d := h_nm.ne h_d (by simp)
  have n_nm_row : nm ≠ r0 := h_nm.ne h_row (by simp)
  have n_d_row : d ≠ r0 := h_d.ne h_row (by simp)
  have n_row_d : r0 ≠ d := h_row.ne h_d (by simp)
  have n_a_d : a ≠ d := h_a.ne h_d (by simp)
  have n_a_row : a ≠ r0 := h_a.ne h_row (by simp)
  have n_rw_d : rw ≠ d := h_rw.ne h_d (by simp)
  have n_rw_row : rw ≠ r0 := h_rw.ne h_row (by simp)
  refine lv_aload_n E.1.1 E.1.2.1 dX5_draftShift_0 rfl (lv_at hl 0 rfl) ?_
  refine k_get (v := .ref d) E inlX5 rfl 2 (by decide) w1_233 rfl hw h_nm rfl dX5_draftShift_1 ?_
  refine lv_iconst (v := nI 0) E.1.1 E.1.2.1 dX5_draftShift_4 rfl ?_
  refine lv_aload_n E.1.1 E.1.2.1 dX5_draftShift_5 rfl (lv_at hl 1 rfl) ?_
  refine k_getN (v := .int (nI t)) E inlX3 rfl 0 (by decide) (List.mem_of_getElem? (i := 15) rfl) rfl hw h_a rfl dX5_draftShift_6 ?_
  refine lv_iload_n E.1.1 E.1.2.1 dX5_draftShift_9 rfl (lv_at hl 2 rfl) ?_
  refine lv_iadd E.1.1 E.1.2.1 dX5_draftShift_10 ?_
  refine va_mmax E.1.1 E.1.2.1 (by rw [E.1.2.2.1]; exact hl.1.symm) E.1.2.2.2.1 (E.1.2.2.2.2 _ w2_45) (E.1.2.2.2.2 _ w1_99) (E.1.2.2.2.2 _ w1_5) (E.1.2.2.2.2 _ w1_100) (by rw [hR]; exact Nat.le_of_ble_eq_true rfl) (by rw [hR]; exact Nat.le_of_ble_eq_true rfl) (by rw [hR]; exact Nat.le_of_ble_eq_true rfl) (by rw [hR]; first | exact Nat.le_of_ble_eq_true rfl | (dsimp only; omega)) dX5_draftShift_11 ?_
  refine k_top E (nI (t - w)) (mxneg (by omega) (by omega)) ?_
  refine lv_aload_n E.1.1 E.1.2.1 dX5_draftShift_14 rfl (lv_at hl 1 rfl) ?_
  refine k_getN (v := .int (nI per)) E inlX3 rfl 1 (by decide) (List.mem_of_getElem? (i := 16) rfl) rfl hw h_a rfl dX5_draftShift_15 ?_
  refine k_mv hw (va_runV (As := [.int (nI (t - w)), .int (nI per)]) (rest := []) E.1 (c_open l D cy L f H.size d r0 (t - w) (per) i1 i2 g (by omega) (by omega) (by omega) h_d h_row) ⟨callB_of 2 E.1.2.2.2.2 (gd_own w1_97) rfl rfl rfl (E.1.2.2.2.2 _ w1_2) (E.1.2.2.2.2 _ w1_94) hd_X0_open (by rw [hR]; exact ⟨Nat.le_of_ble_eq_true rfl, Nat.le_of_ble_eq_true rfl⟩), E.1.2.2.2.2 _ w1_95, E.1.2.2.2.2 _ w1_96⟩ (pw_preV (q := (RX0, TX0, 3)) E.2 hw h_d rfl) rfl rfl hl.1 rfl (lv_room (Nat.le_of_ble_eq_true rfl)) dX5_draftShift_18 (by rw [hR]; exact ⟨Nat.le_of_ble_eq_true rfl, Nat.le_of_ble_eq_true rfl⟩)) (fun L1 f H locs hp hw => ?_)
  obtain ⟨hL1, hfr, h_d, h_row⟩ := hp
  have hL1 : L = L1 := hL1
  subst hL1
  have h_d : cel L f d (.inr (0, [.ref r0, .int (nI (t - w)), .int (nI per)])) := h_d
  have h_row : cel L f r0 (.inl (cy 1, 59, .inr (.inl (wd (fun _ => false))))) := h_row
  have h_nm := h_nm.keep (fun _ h => h) (hfr _ h_nm.1 n_nm_d n_nm_row)
  have h_a := h_a.keep (fun _ h => h) (hfr _ h_a.1 n_a_d n_a_row)
  have h_rw := h_rw.keep (fun _ h => h) (hfr _ h_rw.1 n_rw_d n_rw_row)
  have hF : ∀ b ∈ L, b ≠ d → b ≠ r0 → f b = f0 b := fun b hb h0 h1 => (hfr b (hLs b hb) h0 h1).trans (hF b hb h0 h1)
  rw [← rb_0 (shD (den t per b) w)] at h_row
  refine lv_iconst (v := nI 0) E.1.1 E.1.2.1 dX5_draftShift_21 rfl ?_
  refine lv_iload_n E.1.1 E.1.2.1 dX5_draftShift_22 rfl (lv_at hl 2 rfl) ?_
  refine va_mmax E.1.1 E.1.2.1 (by rw [E.1.2.2.1]; exact hl.1.symm) E.1.2.2.2.1 (E.1.2.2.2.2 _ w2_45) (E.1.2.2.2.2 _ w1_99) (E.1.2.2.2.2 _ w1_5) (E.1.2.2.2.2 _ w1_100) (by rw [hR]; exact Nat.le_of_ble_eq_true rfl) (by rw [hR]; exact Nat.le_of_ble_eq_true rfl) (by rw [hR]; exact Nat.le_of_ble_eq_true rfl) (by rw [hR]; first | exact Nat.le_of_ble_eq_true rfl | (dsimp only; omega)) dX5_draftShift_23 ?_
  refine k_top E (nI 0) (mxneg0 (by omega)) ?_
  refine lv_istore_n (lv' := [(3, .int (nI 0)), (0, .ref nm), (1, .ref a), (2, .int (-nI w))]) E.1.1 E.1.2.1 dX5_draftShift_26 rfl hl (by decide) rfl (fun ls hl => ?_)
  have lp27 : ∀ (k : Nat) (i : Nat) (f : Nat → va_E) (H : Heap) (locs : List Loc) (ls : Array Slot), (t - w + per - i < k) → (i ≤ t - w + per) → (cel L f nm (.inr (5, [.ref sl, .ref im, .ref d, .ref tr, .int (nI base)]))) → (cel L f d (.inr (0, [.ref r0, .int (nI (t - w)), .int (nI per)]))) → (cel L f r0 (.inl (cy 1, 59, .inr (.inl (wd (rb (shD (den t per b) w) (i))))))) → (cel L f a (.inr (3, [.int (nI t), .int (nI per), .ref rw, .ref mc]))) → (cel L f rw (.inl (cy 1, 3, .inr (.inl (wd b))))) → (∀ b ∈ L, b ≠ d → b ≠ r0 → f b = f0 b) → (WW D (AW L sz) s.heap L f H locs) → (lv_has ls 4 [(3, .int (nI i)), (0, .ref nm), (1, .ref a), (2, .int (-nI w))]) → W p l e R s m args below meth c H locs 0 0 Q (F0 m 27 ls []) := by
    intro k
    induction k with
    | zero => intro _ _ _ _ _ hk; exact absurd hk (Nat.not_lt_zero _)
    | succ k ih27 =>
      intro i f H locs ls hk hi h_nm h_d h_row h_a h_rw hF hw hl
      refine lv_iload_n E.1.1 E.1.2.1 dX5_draftShift_27 rfl (lv_at hl 0 rfl) ?_
      refine lv_aload_n E.1.1 E.1.2.1 dX5_draftShift_28 rfl (lv_at hl 1 rfl) ?_
      refine k_get (v := .ref d) E inlX5 rfl 2 (by decide) w1_233 rfl hw h_nm rfl dX5_draftShift_29 ?_
      refine k_ri (va_runV (As := []) (rest := [.int (nI i)]) E.1 (c_length l D cy L f H.size d r0 (t - w) (per) h_d) ⟨callB_of 0 E.1.2.2.2.2 (gd_own w1_123) rfl rfl rfl (E.1.2.2.2.2 _ w1_2) (E.1.2.2.2.2 _ w2_49) hd_X0_length (by rw [hR]; exact ⟨Nat.le_of_ble_eq_true rfl, Nat.le_of_ble_eq_true rfl⟩), E.1.2.2.2.2 _ w1_121, E.1.2.2.2.2 _ w1_122⟩ (pw_preV (q := (RX0, TX0, 3)) E.2 hw h_d rfl) rfl rfl hl.1 rfl (lv_room (Nat.le_of_ble_eq_true rfl)) dX5_draftShift_32 ⟨Nat.zero_le _, Nat.zero_le _⟩) ?_
      refine k_ge (tgt := 62) E dX5_draftShift_35 (by decide) (by omega) (by omega) (fun c35 => ?_) (fun c35 => ?_)
      · exact k_mvret E hQ hlk hr hw (Nat.le_of_ble_eq_true rfl) (Nat.le_of_ble_eq_true rfl) (⟨rfl, hF, h_d, by rw [show t - w + per = i by omega]; exact h_row⟩) dX5_draftShift_62
      · refine lv_aload_n E.1.1 E.1.2.1 dX5_draftShift_38 rfl (lv_at hl 2 rfl) ?_
        refine lv_iload_n E.1.1 E.1.2.1 dX5_draftShift_39 rfl (lv_at hl 0 rfl) ?_
        refine lv_iload_n E.1.1 E.1.2.1 dX5_draftShift_40 rfl (lv_at hl 3 rfl) ?_
        refine lv_isub E.1.1 E.1.2.1 dX5_draftShift_41 ?_
        refine k_top E (nI (i + w)) nI_nn ?_
        refine k_ri (va_runV (As := [.int (nI (i + w))]) (rest := []) E.1 (c_holds l D cy L f H.size a rw mc t per (i + w) b ht hper hperx (by omega) h_a h_rw) ⟨callB_of 1 E.1.2.2.2.2 (gd_own w2_81) rfl rfl rfl (E.1.2.2.2.2 _ w1_8) (E.1.2.2.2.2 _ w2_78) hd_X3_holds (by rw [hR]; exact ⟨Nat.le_of_ble_eq_true rfl, Nat.le_of_ble_eq_true rfl⟩), E.1.2.2.2.2 _ w2_79, E.1.2.2.2.2 _ w2_80⟩ (pw_preV (q := (RX3, TX3, 4)) E.2 hw h_a rfl) rfl rfl hl.1 rfl (lv_room (Nat.le_of_ble_eq_true rfl)) dX5_draftShift_42 ⟨Nat.zero_le _, Nat.zero_le _⟩) ?_
        refine k_if0 (tgt := 56) E dX5_draftShift_45 (by decide) (fun c45 => ?_) (fun c45 => ?_)
        · rw [rb_f (X := shD (den t per b) w) (i := i) (c45)] at h_row
          refine lv_iinc (v := nI (i + 1)) (lv' := [(3, .int (nI (i + 1))), (0, .ref nm), (1, .ref a), (2, .int (-nI w))]) E.1.1 E.1.2.1 dX5_draftShift_56 hl (k := 0) rfl (nI_1 _) (by decide) rfl (fun ls hl => ?_)
          refine lv_goto (tgt := 27) E.1.1 E.1.2.1 dX5_draftShift_59 (by decide) ?_
          exact ih27  (i + 1) f H locs ls (by omega) (by omega) h_nm h_d h_row h_a h_rw hF hw (lv_sub hl [0, 1, 2, 3] rfl)
        · refine lv_aload_n E.1.1 E.1.2.1 dX5_draftShift_48 rfl (lv_at hl 1 rfl) ?_
          refine k_get (v := .ref d) E inlX5 rfl 2 (by decide) w1_233 rfl hw h_nm rfl dX5_draftShift_49 ?_
          refine lv_iload_n E.1.1 E.1.2.1 dX5_draftShift_52 rfl (lv_at hl 0 rfl) ?_
          refine k_mv hw (va_runV (As := [.int (nI i)]) (rest := []) E.1 (c_mark l D cy L f H.size d r0 (t - w) (per) (i) (rb (shD (den t per b) w) (i)) (by omega) h_d h_row) ⟨callB_of 1 E.1.2.2.2.2 (gd_own w2_29) rfl rfl rfl (E.1.2.2.2.2 _ w1_2) (E.1.2.2.2.2 _ w2_26) hd_X0_mark (by rw [hR]; exact ⟨Nat.le_of_ble_eq_true rfl, Nat.le_of_ble_eq_true rfl⟩), E.1.2.2.2.2 _ w2_27, E.1.2.2.2.2 _ w2_28⟩ (pw_preV (q := (RX0, TX0, 3)) E.2 hw h_d rfl) rfl rfl hl.1 rfl (lv_room (Nat.le_of_ble_eq_true rfl)) dX5_draftShift_53 (by rw [hR]; exact ⟨Nat.le_of_ble_eq_true rfl, Nat.le_of_ble_eq_true rfl⟩)) (fun L1 f H locs hp hw => ?_)
          obtain ⟨hL1, hfr, h_row⟩ := hp
          have hL1 : L = L1 := hL1
          subst hL1
          have h_row : cel L f r0 (.inl (cy 1, 59, .inr (.inl (wd (bset (rb (shD (den t per b) w) (i)) (i) true))))) := h_row
          have h_nm := h_nm.keep (fun _ h => h) (hfr _ h_nm.1 n_nm_row)
          have h_d := h_d.keep (fun _ h => h) (hfr _ h_d.1 n_d_row)
          have h_a := h_a.keep (fun _ h => h) (hfr _ h_a.1 n_a_row)
          have h_rw := h_rw.keep (fun _ h => h) (hfr _ h_rw.1 n_rw_row)
          have hF : ∀ b ∈ L, b ≠ d → b ≠ r0 → f b = f0 b := fun b hb h0 h1 => (hfr b (hLs b hb) h1).trans (hF b hb h0 h1)
          rw [rb_t (X := shD (den t per b) w) (i := i) (c45)] at h_row
          refine lv_iinc (v := nI (i + 1)) (lv' := [(3, .int (nI (i + 1))), (0, .ref nm), (1, .ref a), (2, .int (-nI w))]) E.1.1 E.1.2.1 dX5_draftShift_56 hl (k := 0) rfl (nI_1 _) (by decide) rfl (fun ls hl => ?_)
          refine lv_goto (tgt := 27) E.1.1 E.1.2.1 dX5_draftShift_59 (by decide) ?_
          exact ih27  (i + 1) f H locs ls (by omega) (by omega) h_nm h_d h_row h_a h_rw hF hw (lv_sub hl [0, 1, 2, 3] rfl)
  exact lp27 (t - w + per - 0 + 1) 0 f H locs ls (Nat.lt_succ_self _) (by omega) h_nm h_d h_row h_a h_rw hF hw (lv_sub hl [0, 1, 2, 3] rfl)

set_option maxHeartbeats 4000000 in
set_option maxRecDepth 100000 in
theorem c_draftStretch (l : Launch) (D : va_G) (cy : Nat → ClassId) (L : List Nat) (f0 : Nat → va_E) (sz : Nat) (nm sl im d tr base r0 : Nat) (i1 i2 : Int32) (g : Nat → Int64) (a rw mc t per w v : Nat) (b : Nat → Bool) (ht : t ≤ 120) (hper : 0 < per) (hperx : per ≤ 60) (hw0 : 0 < w) (hw1 : w ≤ 12) (hv : v ≤ 20) (h_nm : cel L f0 nm (.inr (5, [.ref sl, .ref im, .ref d, .ref tr, .int (nI base)]))) (h_d : cel L f0 d (.inr (0, [.ref r0, .int i1, .int i2]))) (h_row : cel L f0 r0 (.inl (cy 1, 59, .inr (.inl g)))) (h_a : cel L f0 a (.inr (3, [.int (nI t), .int (nI per), .ref rw, .ref mc]))) (h_rw : cel L f0 rw (.inl (cy 1, 3, .inr (.inl (wd b))))) : Met l yX5_draftStretch (.code yX5_draftStretch cX5_draftStretch 5 none :: wsL_law) { frames := 2, cells := 0, slots := 0, locals := 46 } (va_Pc [.ref nm, .ref a, .int (nI w), .int (nI v)] (PW D cy L f0 sz)) (va_Qv (fun u : List Nat × (Nat → va_E) => L = u.1 ∧ (∀ b ∈ L, b ≠ d → b ≠ r0 → u.2 b = f0 b) ∧ cel L u.2 d (.inr (0, [.ref r0, .int (nI (w * t + v)), .int (nI (w * per))])) ∧ cel L u.2 r0 (.inl (cy 1, 59, .inr (.inl (wd (rb (stU (den t per b) w v) (w * t + v + w * per))))))) (PB D (AW L sz)) (AW L sz)) 0 0 (AW L sz) := by
  refine m_start (by decide) (Nat.le_of_ble_eq_true rfl) ?_
  intro p e R Q s m args below meth c ls hsz hR hQ E hr hlk hnm hw hl
  have hl : lv_has ls 5 [(0, .ref nm), (1, .ref a), (2, .int (nI w)), (3, .int (nI v))] := hl
  obtain ⟨H, hH⟩ : ∃ X, X = s.heap := ⟨_, rfl⟩
  obtain ⟨locs, hlocs⟩ : ∃ X : List Loc, X = [] := ⟨_, rfl⟩
  have hw0 := hw
  obtain ⟨f, hf0⟩ : ∃ X, X = f0 := ⟨_, rfl⟩
  rw [← hf0] at h_nm h_d h_row h_a h_rw
  have hw : WW D (AW L sz) s.heap L f H locs := by rw [hH, hlocs, hf0]; exact hw
  have hF : ∀ b ∈ L, b ≠ d → b ≠ r0 → f b = f0 b := fun b hb h0 h1 => by rw [hf0]
  suffices hgo : W p l e R s m args below meth c H locs 0 0 Q (F0 m 0 ls []) by rw [hH, hlocs] at hgo; exact hgo
  clear hH hlocs hw0 hf0
  have hLs : ∀ b ∈ L, b ∈ L := fun _ h => h
  have n_nm_d : nm ≠ d := h_nm.ne h_d (by simp)
  have n_nm_row : nm ≠ r0 := h_nm.ne h_row (by simp)
  have n_d_row : d ≠ r0 := h_d.ne h_row (by simp)
  have n_row_d : r0 ≠ d := h_row.ne h_d (by simp)
  have n_a_d : a ≠ d := h_a.ne h_d (by simp)
  have n_a_row : a ≠ r0 := h_a.ne h_row (by simp)
  have n_rw_d : rw ≠ d := h_rw.ne h_d (by simp)
  have n_rw_row : rw ≠ r0 := h_rw.ne h_row (by simp)
  have hwt : w * t ≤ 12 * 120 := Nat.mul_le_mul hw1 ht
  have hwp : w * per ≤ 12 * 60 := Nat.mul_le_mul hw1 hperx
  have hwp0 : 0 < w * per := Nat.mul_pos hw0 hper
  refine lv_aload_n E.1.1 E.1.2.1 dX5_draftStretch_0 rfl (lv_at hl 0 rfl) ?_
  refine k_get (v := .ref d) E inlX5 rfl 2 (by decide) w1_233 rfl hw h_nm rfl dX5_draftStretch_1 ?_
  refine lv_iload_n E.1.1 E.1.2.1 dX5_draftStretch_4 rfl (lv_at hl 2 rfl) ?_
  refine lv_aload_n E.1.1 E.1.2.1 dX5_draftStretch_5 rfl (lv_at hl 1 rfl) ?_
  refine k_getN (v := .int (nI t)) E inlX3 rfl 0 (by decide) (List.mem_of_getElem? (i := 15) rfl) rfl hw h_a rfl dX5_draftStretch_6 ?_
  refine k_mul E dX5_draftStretch_9 ?_
  refine lv_iload_n E.1.1 E.1.2.1 dX5_draftStretch_10 rfl (lv_at hl 3 rfl) ?_
  refine k_add E dX5_draftStretch_11 ?_
  refine lv_iload_n E.1.1 E.1.2.1 dX5_draftStretch_12 rfl (lv_at hl 2 rfl) ?_
  refine lv_aload_n E.1.1 E.1.2.1 dX5_draftStretch_13 rfl (lv_at hl 1 rfl) ?_
  refine k_getN (v := .int (nI per)) E inlX3 rfl 1 (by decide) (List.mem_of_getElem? (i := 16) rfl) rfl hw h_a rfl dX5_draftStretch_14 ?_
  refine k_mul E dX5_draftStretch_17 ?_
  refine k_mv hw (va_runV (As := [.int (nI ((w * t) + v)), .int (nI (w * per))]) (rest := []) E.1 (c_open l D cy L f H.size d r0 ((w * t) + v) (w * per) i1 i2 g (by omega) (by omega) (by omega) h_d h_row) ⟨callB_of 2 E.1.2.2.2.2 (gd_own w1_97) rfl rfl rfl (E.1.2.2.2.2 _ w1_2) (E.1.2.2.2.2 _ w1_94) hd_X0_open (by rw [hR]; exact ⟨Nat.le_of_ble_eq_true rfl, Nat.le_of_ble_eq_true rfl⟩), E.1.2.2.2.2 _ w1_95, E.1.2.2.2.2 _ w1_96⟩ (pw_preV (q := (RX0, TX0, 3)) E.2 hw h_d rfl) rfl rfl hl.1 rfl (lv_room (Nat.le_of_ble_eq_true rfl)) dX5_draftStretch_18 (by rw [hR]; exact ⟨Nat.le_of_ble_eq_true rfl, Nat.le_of_ble_eq_true rfl⟩)) (fun L1 f H locs hp hw => ?_)
  obtain ⟨hL1, hfr, h_d, h_row⟩ := hp
  have hL1 : L = L1 := hL1
  subst hL1
  have h_d : cel L f d (.inr (0, [.ref r0, .int (nI ((w * t) + v)), .int (nI (w * per))])) := h_d
  have h_row : cel L f r0 (.inl (cy 1, 59, .inr (.inl (wd (fun _ => false))))) := h_row
  have h_nm := h_nm.keep (fun _ h => h) (hfr _ h_nm.1 n_nm_d n_nm_row)
  have h_a := h_a.keep (fun _ h => h) (hfr _ h_a.1 n_a_d n_a_row)
  have h_rw := h_rw.keep (fun _ h => h) (hfr _ h_rw.1 n_rw_d n_rw_row)
  have hF : ∀ b ∈ L, b ≠ d → b ≠ r0 → f b = f0 b := fun b hb h0 h1 => (hfr b (hLs b hb) h0 h1).trans (hF b hb h0 h1)
  rw [rb_none (X := stU (den t per b) w v) (i := w * 0 + v) (fun n hn => stU_low (by omega))] at h_row
  refine lv_iconst (v := nI 0) E.1.1 E.1.2.1 dX5_draftStretch_21 rfl ?_
  refine lv_istore (lv' := [(4, .int (nI 0)), (0, .ref nm), (1, .ref a), (2, .int (nI w)), (3, .int (nI v))]) E.1.1 E.1.2.1 dX5_draftStretch_22 hl (by decide) rfl (fun ls hl => ?_)
  have lp24 : ∀ (k : Nat) (i : Nat) (f : Nat → va_E) (H : Heap) (locs : List Loc) (ls : Array Slot), (t + per - i < k) → (i ≤ t + per) → (cel L f nm (.inr (5, [.ref sl, .ref im, .ref d, .ref tr, .int (nI base)]))) → (cel L f d (.inr (0, [.ref r0, .int (nI ((w * t) + v)), .int (nI (w * per))]))) → (cel L f r0 (.inl (cy 1, 59, .inr (.inl (wd (rb (stU (den t per b) w v) (w * i + v))))))) → (cel L f a (.inr (3, [.int (nI t), .int (nI per), .ref rw, .ref mc]))) → (cel L f rw (.inl (cy 1, 3, .inr (.inl (wd b))))) → (∀ b ∈ L, b ≠ d → b ≠ r0 → f b = f0 b) → (WW D (AW L sz) s.heap L f H locs) → (lv_has ls 5 [(4, .int (nI i)), (0, .ref nm), (1, .ref a), (2, .int (nI w)), (3, .int (nI v))]) → W p l e R s m args below meth c H locs 0 0 Q (F0 m 24 ls []) := by
    intro k
    induction k with
    | zero => intro _ _ _ _ _ hk; exact absurd hk (Nat.not_lt_zero _)
    | succ k ih24 =>
      intro i f H locs ls hk hi h_nm h_d h_row h_a h_rw hF hw hl
      refine lv_iload E.1.1 E.1.2.1 dX5_draftStretch_24 (lv_at hl 0 rfl) ?_
      refine lv_aload_n E.1.1 E.1.2.1 dX5_draftStretch_26 rfl (lv_at hl 2 rfl) ?_
      refine k_getN (v := .int (nI t)) E inlX3 rfl 0 (by decide) (List.mem_of_getElem? (i := 15) rfl) rfl hw h_a rfl dX5_draftStretch_27 ?_
      refine lv_aload_n E.1.1 E.1.2.1 dX5_draftStretch_30 rfl (lv_at hl 2 rfl) ?_
      refine k_getN (v := .int (nI per)) E inlX3 rfl 1 (by decide) (List.mem_of_getElem? (i := 16) rfl) rfl hw h_a rfl dX5_draftStretch_31 ?_
      refine k_add E dX5_draftStretch_34 ?_
      refine k_ge (tgt := 66) E dX5_draftStretch_35 (by decide) (by omega) (by omega) (fun c35 => ?_) (fun c35 => ?_)
      · exact k_mvret E hQ hlk hr hw (Nat.le_of_ble_eq_true rfl) (Nat.le_of_ble_eq_true rfl) (⟨rfl, hF, h_d, by rw [show w * t + v + w * per = w * i + v by rw [show i = t + per by omega, Nat.mul_add]; omega]; exact h_row⟩) dX5_draftStretch_66
      · have hwi : w * i ≤ 12 * 180 := Nat.mul_le_mul hw1 (by omega)
        refine lv_aload_n E.1.1 E.1.2.1 dX5_draftStretch_38 rfl (lv_at hl 2 rfl) ?_
        refine lv_iload E.1.1 E.1.2.1 dX5_draftStretch_39 (lv_at hl 0 rfl) ?_
        refine k_ri (va_runV (As := [.int (nI i)]) (rest := []) E.1 (c_at l D cy L f H.size a rw mc t per i b ht hper hperx (by omega) h_a h_rw) ⟨callB_of 1 E.1.2.2.2.2 (gd_own w2_53) rfl rfl rfl (E.1.2.2.2.2 _ w1_8) (E.1.2.2.2.2 _ w2_50) hd_X3_at (by rw [hR]; exact ⟨Nat.le_of_ble_eq_true rfl, Nat.le_of_ble_eq_true rfl⟩), E.1.2.2.2.2 _ w2_51, E.1.2.2.2.2 _ w2_52⟩ (pw_preV (q := (RX3, TX3, 4)) E.2 hw h_a rfl) rfl rfl hl.1 rfl (lv_room (Nat.le_of_ble_eq_true rfl)) dX5_draftStretch_41 ⟨Nat.zero_le _, Nat.zero_le _⟩) ?_
        refine k_if0 (tgt := 60) E dX5_draftStretch_44 (by decide) (fun c44 => ?_) (fun c44 => ?_)
        · rw [show rb (stU (den t per b) w v) (w * i + v) = rb (stU (den t per b) w v) (w * (i + 1) + v) from stU_s hw0 false (by rw [den_in b (by omega)]; exact c44)] at h_row
          refine lv_iinc (v := nI (i + 1)) (lv' := [(4, .int (nI (i + 1))), (0, .ref nm), (1, .ref a), (2, .int (nI w)), (3, .int (nI v))]) E.1.1 E.1.2.1 dX5_draftStretch_60 hl (k := 0) rfl (nI_1 _) (by decide) rfl (fun ls hl => ?_)
          refine lv_goto (tgt := 24) E.1.1 E.1.2.1 dX5_draftStretch_63 (by decide) ?_
          exact ih24  (i + 1) f H locs ls (by omega) (by omega) h_nm h_d h_row h_a h_rw hF hw (lv_sub hl [0, 1, 2, 3, 4] rfl)
        · refine lv_aload_n E.1.1 E.1.2.1 dX5_draftStretch_47 rfl (lv_at hl 1 rfl) ?_
          refine k_get (v := .ref d) E inlX5 rfl 2 (by decide) w1_233 rfl hw h_nm rfl dX5_draftStretch_48 ?_
          refine lv_iload_n E.1.1 E.1.2.1 dX5_draftStretch_51 rfl (lv_at hl 3 rfl) ?_
          refine lv_iload E.1.1 E.1.2.1 dX5_draftStretch_52 (lv_at hl 0 rfl) ?_
          refine k_mul E dX5_draftStretch_54 ?_
          refine lv_iload_n E.1.1 E.1.2.1 dX5_draftStretch_55 rfl (lv_at hl 4 rfl) ?_
          refine k_add E dX5_draftStretch_56 ?_
          refine k_mv hw (va_runV (As := [.int (nI ((w * i) + v))]) (rest := []) E.1 (c_mark l D cy L f H.size d r0 ((w * t) + v) (w * per) ((w * i) + v) (rb (stU (den t per b) w v) (w * i + v)) (by omega) h_d h_row) ⟨callB_of 1 E.1.2.2.2.2 (gd_own w2_29) rfl rfl rfl (E.1.2.2.2.2 _ w1_2) (E.1.2.2.2.2 _ w2_26) hd_X0_mark (by rw [hR]; exact ⟨Nat.le_of_ble_eq_true rfl, Nat.le_of_ble_eq_true rfl⟩), E.1.2.2.2.2 _ w2_27, E.1.2.2.2.2 _ w2_28⟩ (pw_preV (q := (RX0, TX0, 3)) E.2 hw h_d rfl) rfl rfl hl.1 rfl (lv_room (Nat.le_of_ble_eq_true rfl)) dX5_draftStretch_57 (by rw [hR]; exact ⟨Nat.le_of_ble_eq_true rfl, Nat.le_of_ble_eq_true rfl⟩)) (fun L1 f H locs hp hw => ?_)
          obtain ⟨hL1, hfr, h_row⟩ := hp
          have hL1 : L = L1 := hL1
          subst hL1
          have h_row : cel L f r0 (.inl (cy 1, 59, .inr (.inl (wd (bset (rb (stU (den t per b) w v) (w * i + v)) ((w * i) + v) true))))) := h_row
          have h_nm := h_nm.keep (fun _ h => h) (hfr _ h_nm.1 n_nm_row)
          have h_d := h_d.keep (fun _ h => h) (hfr _ h_d.1 n_d_row)
          have h_a := h_a.keep (fun _ h => h) (hfr _ h_a.1 n_a_row)
          have h_rw := h_rw.keep (fun _ h => h) (hfr _ h_rw.1 n_rw_row)
          have hF : ∀ b ∈ L, b ≠ d → b ≠ r0 → f b = f0 b := fun b hb h0 h1 => (hfr b (hLs b hb) h1).trans (hF b hb h0 h1)
          rw [show bset (rb (stU (den t per b) w v) (w * i + v)) (w * i + v) true = rb (stU (den t per b) w v) (w * (i + 1) + v) from stU_s hw0 true (by rw [den_in b (by omega)]; exact c44)] at h_row
          refine lv_iinc (v := nI (i + 1)) (lv' := [(4, .int (nI (i + 1))), (0, .ref nm), (1, .ref a), (2, .int (nI w)), (3, .int (nI v))]) E.1.1 E.1.2.1 dX5_draftStretch_60 hl (k := 0) rfl (nI_1 _) (by decide) rfl (fun ls hl => ?_)
          refine lv_goto (tgt := 24) E.1.1 E.1.2.1 dX5_draftStretch_63 (by decide) ?_
          exact ih24  (i + 1) f H locs ls (by omega) (by omega) h_nm h_d h_row h_a h_rw hF hw (lv_sub hl [0, 1, 2, 3, 4] rfl)
  exact lp24 (t + per - 0 + 1) 0 f H locs ls (Nat.lt_succ_self _) (by omega) h_nm h_d h_row h_a h_rw hF hw (lv_sub hl [0, 1, 2, 3, 4] rfl)

set_option maxHeartbeats 4000000 in
set_option maxRecDepth 100000 in
theorem c_draftShrink (l : Launch) (D : va_G) (cy : Nat → ClassId) (L : List Nat) (f0 : Nat → va_E) (sz : Nat) (nm sl im d tr base r0 : Nat) (i1 i2 : Int32) (g : Nat → Int64) (a rw mc t per w v : Nat) (b : Nat → Bool) (ht : t ≤ 120) (hper : 0 < per) (hperx : per ≤ 60) (hw0 : 0 < w) (hw1 : w ≤ 12) (hv : v ≤ 20) (h_nm : cel L f0 nm (.inr (5, [.ref sl, .ref im, .ref d, .ref tr, .int (nI base)]))) (h_d : cel L f0 d (.inr (0, [.ref r0, .int i1, .int i2]))) (h_row : cel L f0 r0 (.inl (cy 1, 59, .inr (.inl g)))) (h_a : cel L f0 a (.inr (3, [.int (nI t), .int (nI per), .ref rw, .ref mc]))) (h_rw : cel L f0 rw (.inl (cy 1, 3, .inr (.inl (wd b))))) : Met l yX5_draftShrink (.code yX5_draftShrink cX5_draftShrink 5 none :: wsL_law) { frames := 3, cells := 0, slots := 0, locals := 64 } (va_Pc [.ref nm, .ref a, .int (nI w), .int (nI v)] (PW D cy L f0 sz)) (va_Qv (fun u : List Nat × (Nat → va_E) => L = u.1 ∧ (∀ b ∈ L, b ≠ d → b ≠ r0 → u.2 b = f0 b) ∧ cel L u.2 d (.inr (0, [.ref r0, .int (nI (t)), .int (nI (per))])) ∧ cel L u.2 r0 (.inl (cy 1, 59, .inr (.inl (wd (rb (skD (den t per b) w v) (t + per))))))) (PB D (AW L sz)) (AW L sz)) 0 0 (AW L sz) := by
  refine m_start (by decide) (Nat.le_of_ble_eq_true rfl) ?_
  intro p e R Q s m args below meth c ls hsz hR hQ E hr hlk hnm hw hl
  have hl : lv_has ls 5 [(0, .ref nm), (1, .ref a), (2, .int (nI w)), (3, .int (nI v))] := hl
  obtain ⟨H, hH⟩ : ∃ X, X = s.heap := ⟨_, rfl⟩
  obtain ⟨locs, hlocs⟩ : ∃ X : List Loc, X = [] := ⟨_, rfl⟩
  have hw0 := hw
  obtain ⟨f, hf0⟩ : ∃ X, X = f0 := ⟨_, rfl⟩
  rw [← hf0] at h_nm h_d h_row h_a h_rw
  have hw : WW D (AW L sz) s.heap L f H locs := by rw [hH, hlocs, hf0]; exact hw
  have hF : ∀ b ∈ L, b ≠ d → b ≠ r0 → f b = f0 b := fun b hb h0 h1 => by rw [hf0]
  suffices hgo : W p l e R s m args below meth c H locs 0 0 Q (F0 m 0 ls []) by rw [hH, hlocs] at hgo; exact hgo
  clear hH hlocs hw0 hf0
  have hLs : ∀ b ∈ L, b ∈ L := fun _ h => h
  have n_nm_d : nm ≠ d := h_nm.ne h_d (by simp)
  have n_nm_row : nm ≠ r0 := h_nm.ne h_row (by simp)
  have n_d_row : d ≠ r0 := h_d.ne h_row (by simp)
  have n_row_d : r0 ≠ d := h_row.ne h_d (by simp)
  have n_a_d : a ≠ d := h_a.ne h_d (by simp)
  have n_a_row : a ≠ r0 := h_a.ne h_row (by simp)
  have n_rw_d : rw ≠ d := h_rw.ne h_d (by simp)
  have n_rw_row : rw ≠ r0 := h_rw.ne h_row (by simp)
  refine lv_aload_n E.1.1 E.1.2.1 dX5_draftShrink_0 rfl (lv_at hl 0 rfl) ?_
  refine k_get (v := .ref d) E inlX5 rfl 2 (by decide) w1_233 rfl hw h_nm rfl dX5_draftShrink_1 ?_
  refine lv_aload_n E.1.1 E.1.2.1 dX5_draftShrink_4 rfl (lv_at hl 1 rfl) ?_
  refine k_getN (v := .int (nI t)) E inlX3 rfl 0 (by decide) (List.mem_of_getElem? (i := 15) rfl) rfl hw h_a rfl dX5_draftShrink_5 ?_
  refine lv_aload_n E.1.1 E.1.2.1 dX5_draftShrink_8 rfl (lv_at hl 1 rfl) ?_
  refine k_getN (v := .int (nI per)) E inlX3 rfl 1 (by decide) (List.mem_of_getElem? (i := 16) rfl) rfl hw h_a rfl dX5_draftShrink_9 ?_
  refine k_mv hw (va_runV (As := [.int (nI t), .int (nI per)]) (rest := []) E.1 (c_open l D cy L f H.size d r0 (t) (per) i1 i2 g (by omega) (by omega) (by omega) h_d h_row) ⟨callB_of 2 E.1.2.2.2.2 (gd_own w1_97) rfl rfl rfl (E.1.2.2.2.2 _ w1_2) (E.1.2.2.2.2 _ w1_94) hd_X0_open (by rw [hR]; exact ⟨Nat.le_of_ble_eq_true rfl, Nat.le_of_ble_eq_true rfl⟩), E.1.2.2.2.2 _ w1_95, E.1.2.2.2.2 _ w1_96⟩ (pw_preV (q := (RX0, TX0, 3)) E.2 hw h_d rfl) rfl rfl hl.1 rfl (lv_room (Nat.le_of_ble_eq_true rfl)) dX5_draftShrink_12 (by rw [hR]; exact ⟨Nat.le_of_ble_eq_true rfl, Nat.le_of_ble_eq_true rfl⟩)) (fun L1 f H locs hp hw => ?_)
  obtain ⟨hL1, hfr, h_d, h_row⟩ := hp
  have hL1 : L = L1 := hL1
  subst hL1
  have h_d : cel L f d (.inr (0, [.ref r0, .int (nI t), .int (nI per)])) := h_d
  have h_row : cel L f r0 (.inl (cy 1, 59, .inr (.inl (wd (fun _ => false))))) := h_row
  have h_nm := h_nm.keep (fun _ h => h) (hfr _ h_nm.1 n_nm_d n_nm_row)
  have h_a := h_a.keep (fun _ h => h) (hfr _ h_a.1 n_a_d n_a_row)
  have h_rw := h_rw.keep (fun _ h => h) (hfr _ h_rw.1 n_rw_d n_rw_row)
  have hF : ∀ b ∈ L, b ≠ d → b ≠ r0 → f b = f0 b := fun b hb h0 h1 => (hfr b (hLs b hb) h0 h1).trans (hF b hb h0 h1)
  rw [← rb_0 (skD (den t per b) w v)] at h_row
  refine lv_iconst (v := nI 0) E.1.1 E.1.2.1 dX5_draftShrink_15 rfl ?_
  refine lv_istore (lv' := [(4, .int (nI 0)), (0, .ref nm), (1, .ref a), (2, .int (nI w)), (3, .int (nI v))]) E.1.1 E.1.2.1 dX5_draftShrink_16 hl (by decide) rfl (fun ls hl => ?_)
  have lp18 : ∀ (k : Nat) (i : Nat) (f : Nat → va_E) (H : Heap) (locs : List Loc) (ls : Array Slot), (t + per - i < k) → (i ≤ t + per) → (cel L f nm (.inr (5, [.ref sl, .ref im, .ref d, .ref tr, .int (nI base)]))) → (cel L f d (.inr (0, [.ref r0, .int (nI t), .int (nI per)]))) → (cel L f r0 (.inl (cy 1, 59, .inr (.inl (wd (rb (skD (den t per b) w v) (i))))))) → (cel L f a (.inr (3, [.int (nI t), .int (nI per), .ref rw, .ref mc]))) → (cel L f rw (.inl (cy 1, 3, .inr (.inl (wd b))))) → (∀ b ∈ L, b ≠ d → b ≠ r0 → f b = f0 b) → (WW D (AW L sz) s.heap L f H locs) → (lv_has ls 5 [(4, .int (nI i)), (0, .ref nm), (1, .ref a), (2, .int (nI w)), (3, .int (nI v))]) → W p l e R s m args below meth c H locs 0 0 Q (F0 m 18 ls []) := by
    intro k
    induction k with
    | zero => intro _ _ _ _ _ hk; exact absurd hk (Nat.not_lt_zero _)
    | succ k ih18 =>
      intro i f H locs ls hk hi h_nm h_d h_row h_a h_rw hF hw hl
      refine lv_iload E.1.1 E.1.2.1 dX5_draftShrink_18 (lv_at hl 0 rfl) ?_
      refine lv_aload_n E.1.1 E.1.2.1 dX5_draftShrink_20 rfl (lv_at hl 1 rfl) ?_
      refine k_get (v := .ref d) E inlX5 rfl 2 (by decide) w1_233 rfl hw h_nm rfl dX5_draftShrink_21 ?_
      refine k_ri (va_runV (As := []) (rest := [.int (nI i)]) E.1 (c_length l D cy L f H.size d r0 (t) (per) h_d) ⟨callB_of 0 E.1.2.2.2.2 (gd_own w1_123) rfl rfl rfl (E.1.2.2.2.2 _ w1_2) (E.1.2.2.2.2 _ w2_49) hd_X0_length (by rw [hR]; exact ⟨Nat.le_of_ble_eq_true rfl, Nat.le_of_ble_eq_true rfl⟩), E.1.2.2.2.2 _ w1_121, E.1.2.2.2.2 _ w1_122⟩ (pw_preV (q := (RX0, TX0, 3)) E.2 hw h_d rfl) rfl rfl hl.1 rfl (lv_room (Nat.le_of_ble_eq_true rfl)) dX5_draftShrink_24 ⟨Nat.zero_le _, Nat.zero_le _⟩) ?_
      refine k_ge (tgt := 58) E dX5_draftShrink_27 (by decide) (by omega) (by omega) (fun c27 => ?_) (fun c27 => ?_)
      · exact k_mvret E hQ hlk hr hw (Nat.le_of_ble_eq_true rfl) (Nat.le_of_ble_eq_true rfl) (⟨rfl, hF, h_d, by rw [show t + per = i by omega]; exact h_row⟩) dX5_draftShrink_58
      · have hwi : w * i ≤ 12 * 180 := Nat.mul_le_mul hw1 (by omega)
        refine lv_aload_n E.1.1 E.1.2.1 dX5_draftShrink_30 rfl (lv_at hl 2 rfl) ?_
        refine lv_iload_n E.1.1 E.1.2.1 dX5_draftShrink_31 rfl (lv_at hl 3 rfl) ?_
        refine lv_iload E.1.1 E.1.2.1 dX5_draftShrink_32 (lv_at hl 0 rfl) ?_
        refine k_mul E dX5_draftShrink_34 ?_
        refine lv_iload_n E.1.1 E.1.2.1 dX5_draftShrink_35 rfl (lv_at hl 4 rfl) ?_
        refine k_add E dX5_draftShrink_36 ?_
        refine k_ri (va_runV (As := [.int (nI ((w * i) + v))]) (rest := []) E.1 (c_holds l D cy L f H.size a rw mc t per (w * i + v) b ht hper hperx (by omega) h_a h_rw) ⟨callB_of 1 E.1.2.2.2.2 (gd_own w2_81) rfl rfl rfl (E.1.2.2.2.2 _ w1_8) (E.1.2.2.2.2 _ w2_78) hd_X3_holds (by rw [hR]; exact ⟨Nat.le_of_ble_eq_true rfl, Nat.le_of_ble_eq_true rfl⟩), E.1.2.2.2.2 _ w2_79, E.1.2.2.2.2 _ w2_80⟩ (pw_preV (q := (RX3, TX3, 4)) E.2 hw h_a rfl) rfl rfl hl.1 rfl (lv_room (Nat.le_of_ble_eq_true rfl)) dX5_draftShrink_37 ⟨Nat.zero_le _, Nat.zero_le _⟩) ?_
        refine k_if0 (tgt := 52) E dX5_draftShrink_40 (by decide) (fun c40 => ?_) (fun c40 => ?_)
        · rw [rb_f (X := skD (den t per b) w v) (i := i) (c40)] at h_row
          refine lv_iinc (v := nI (i + 1)) (lv' := [(4, .int (nI (i + 1))), (0, .ref nm), (1, .ref a), (2, .int (nI w)), (3, .int (nI v))]) E.1.1 E.1.2.1 dX5_draftShrink_52 hl (k := 0) rfl (nI_1 _) (by decide) rfl (fun ls hl => ?_)
          refine lv_goto (tgt := 18) E.1.1 E.1.2.1 dX5_draftShrink_55 (by decide) ?_
          exact ih18  (i + 1) f H locs ls (by omega) (by omega) h_nm h_d h_row h_a h_rw hF hw (lv_sub hl [0, 1, 2, 3, 4] rfl)
        · refine lv_aload_n E.1.1 E.1.2.1 dX5_draftShrink_43 rfl (lv_at hl 1 rfl) ?_
          refine k_get (v := .ref d) E inlX5 rfl 2 (by decide) w1_233 rfl hw h_nm rfl dX5_draftShrink_44 ?_
          refine lv_iload E.1.1 E.1.2.1 dX5_draftShrink_47 (lv_at hl 0 rfl) ?_
          refine k_mv hw (va_runV (As := [.int (nI i)]) (rest := []) E.1 (c_mark l D cy L f H.size d r0 (t) (per) (i) (rb (skD (den t per b) w v) (i)) (by omega) h_d h_row) ⟨callB_of 1 E.1.2.2.2.2 (gd_own w2_29) rfl rfl rfl (E.1.2.2.2.2 _ w1_2) (E.1.2.2.2.2 _ w2_26) hd_X0_mark (by rw [hR]; exact ⟨Nat.le_of_ble_eq_true rfl, Nat.le_of_ble_eq_true rfl⟩), E.1.2.2.2.2 _ w2_27, E.1.2.2.2.2 _ w2_28⟩ (pw_preV (q := (RX0, TX0, 3)) E.2 hw h_d rfl) rfl rfl hl.1 rfl (lv_room (Nat.le_of_ble_eq_true rfl)) dX5_draftShrink_49 (by rw [hR]; exact ⟨Nat.le_of_ble_eq_true rfl, Nat.le_of_ble_eq_true rfl⟩)) (fun L1 f H locs hp hw => ?_)
          obtain ⟨hL1, hfr, h_row⟩ := hp
          have hL1 : L = L1 := hL1
          subst hL1
          have h_row : cel L f r0 (.inl (cy 1, 59, .inr (.inl (wd (bset (rb (skD (den t per b) w v) (i)) (i) true))))) := h_row
          have h_nm := h_nm.keep (fun _ h => h) (hfr _ h_nm.1 n_nm_row)
          have h_d := h_d.keep (fun _ h => h) (hfr _ h_d.1 n_d_row)
          have h_a := h_a.keep (fun _ h => h) (hfr _ h_a.1 n_a_row)
          have h_rw := h_rw.keep (fun _ h => h) (hfr _ h_rw.1 n_rw_row)
          have hF : ∀ b ∈ L, b ≠ d → b ≠ r0 → f b = f0 b := fun b hb h0 h1 => (hfr b (hLs b hb) h1).trans (hF b hb h0 h1)
          rw [rb_t (X := skD (den t per b) w v) (i := i) (c40)] at h_row
          refine lv_iinc (v := nI (i + 1)) (lv' := [(4, .int (nI (i + 1))), (0, .ref nm), (1, .ref a), (2, .int (nI w)), (3, .int (nI v))]) E.1.1 E.1.2.1 dX5_draftShrink_52 hl (k := 0) rfl (nI_1 _) (by decide) rfl (fun ls hl => ?_)
          refine lv_goto (tgt := 18) E.1.1 E.1.2.1 dX5_draftShrink_55 (by decide) ?_
          exact ih18  (i + 1) f H locs ls (by omega) (by omega) h_nm h_d h_row h_a h_rw hF hw (lv_sub hl [0, 1, 2, 3, 4] rfl)
  exact lp18 (t + per - 0 + 1) 0 f H locs ls (Nat.lt_succ_self _) (by omega) h_nm h_d h_row h_a h_rw hF hw (lv_sub hl [0, 1, 2, 3, 4] rfl)
