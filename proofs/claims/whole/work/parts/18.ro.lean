theorem pa_fold {t per n : Nat} (hp : 0 < per) : (if fold t per n + 1 < t + per then fold t per n + 1 else t) = fold t per (n + 1) := by
  rw [← fold_add hp n 1]
  have hl := fold_lt (t := t) (n := n) hp
  by_cases h : fold t per n + 1 < t + per
  · rw [if_pos h, fold_in h]
  · rw [if_neg h, fold_ge hp (by omega), show fold t per n + 1 - t = per by omega, Nat.mod_self, Nat.add_zero]
/-- the least one from n on, within w -/
def lfrom (S : Nat → Bool) (w n : Nat) : Int32 := if fa_first (fun k => S (n + k)) w < w then nI (n + fa_first (fun k => S (n + k)) w) else -6
theorem lfrom_at {S : Nat → Bool} {w n i : Nat} (h1 : ∀ j, j < i → S (n + j) = false) (hi : i < w) (h2 : S (n + i) = true) : lfrom S w n = nI (n + i) := by
  have e : fa_first (fun k => S (n + k)) w = i := first_is (by omega) h1 (Or.inr h2)
  unfold lfrom
  rw [e, if_pos hi]
theorem lfrom_no {S : Nat → Bool} {w n : Nat} (h1 : ∀ j, j < w → S (n + j) = false) : lfrom S w n = -6 := by
  have e : fa_first (fun k => S (n + k)) w = w := first_is (by omega) h1 (Or.inl rfl)
  unfold lfrom
  rw [e, if_neg (by omega)]
theorem cnt_mono (x : Nat → Bool) {i j : Nat} (h : i ≤ j) : fa_cnt x i ≤ fa_cnt x j := by
  induction j with
  | zero => rw [show i = 0 by omega]; exact Nat.le_refl _
  | succ j ih =>
    by_cases hij : i = j + 1
    · rw [hij]; exact Nat.le_refl _
    · have := ih (by omega)
      rw [fa_cnt]
      omega
theorem cnt_add (x : Nat → Bool) (i : Nat) : ∀ j, fa_cnt x (i + j) = fa_cnt x i + fa_cnt (fun k => x (i + k)) j
  | 0 => rfl
  | j + 1 => by
    rw [← Nat.add_assoc, fa_cnt, fa_cnt, cnt_add x i j, Nat.add_assoc]
theorem cnt_round {S : Nat → Bool} {t per : Nat} (hp : 0 < per) (hE : EvP S t per) : ∀ (k j : Nat), fa_cnt S (t + j + k * per) = fa_cnt S (t + j) + k * (fa_cnt S (t + per) - fa_cnt S t)
  | 0, j => by simp
  | k + 1, j => by
    have ih := cnt_round hp hE k j
    have e1 : fa_cnt S (t + j + (k + 1) * per) = fa_cnt S (t + j + k * per) + fa_cnt (fun i => S (t + j + k * per + i)) per := by
      rw [← cnt_add, Nat.succ_mul, ← Nat.add_assoc]
    have e2 : ∀ n, t ≤ n → fa_cnt (fun i => S (n + i)) per = fa_cnt (fun i => S (t + i)) per := by
      intro n hn
      obtain ⟨d, rfl⟩ : ∃ d, n = t + d := ⟨n - t, by omega⟩
      clear hn
      induction d with
      | zero => rfl
      | succ d ihd =>
        rw [← ihd]
        have a1 := cnt_add S (t + d) (per + 1)
        have a2 : fa_cnt (fun k => S (t + d + k)) (per + 1) = fa_cnt (fun k => S (t + d + k)) 1 + fa_cnt (fun k => S (t + (d + 1) + k)) per := by
          rw [Nat.add_comm per 1, cnt_add (fun k => S (t + d + k)) 1 per]
          congr 1
          apply fa_cnt_cong
          intro q _
          congr 1
          omega
        have a3 : fa_cnt (fun k => S (t + d + k)) (per + 1) = fa_cnt (fun k => S (t + d + k)) per + if S (t + d + per) then 1 else 0 := rfl
        have a4 : fa_cnt (fun k => S (t + d + k)) 1 = 0 + if S (t + d + 0) then 1 else 0 := rfl
        have a5 := hE (t + d) (by omega)
        rw [Nat.add_zero, a5] at a4
        omega
    have e3 : fa_cnt S (t + per) = fa_cnt S t + fa_cnt (fun i => S (t + i)) per := cnt_add S t per
    rw [e1, ih, e2 _ (by omega), Nat.succ_mul]
    omega
theorem cnt_far {S : Nat → Bool} {t per n : Nat} (hp : 0 < per) (hE : EvP S t per) (hn : t ≤ n) : fa_cnt S n = fa_cnt S (t + (n - t) % per) + (n - t) / per * (fa_cnt S (t + per) - fa_cnt S t) := by
  rw [← cnt_round hp hE]
  congr 1
  have := Nat.mod_add_div (n - t) per
  rw [Nat.mul_comm]
  omega
theorem cnt_den {t per : Nat} (b : Nat → Bool) {n : Nat} (h : n ≤ t + per) : fa_cnt (den t per b) n = fa_cnt b n := fa_cnt_cong (fun k hk => den_in b (by omega))
def wlk (go : Nat → Nat) (base num : Nat) : Nat → Nat
  | 0 => 0
  | k + 1 => go (wlk go base num k * base + num / base ^ k % base)
theorem gbit {g : Nat → Bool} {n i : Nat} (hn : n ≤ 64) (hi : i < n) : lg_cmp (((lN (bsum g n)).toUInt64 >>> ((nI i).toInt64.toUInt64 &&& Int64.toUInt64 63)).toInt64 &&& 1) 0 = b2i (g i) := by
  rw [ush_bit (Nat.lt_of_lt_of_le (bsum_lt g n) (Nat.pow_le_pow_right (by decide) hn)) (by omega), cmp_01, Nat.mod_eq_of_lt (show i < 64 by omega), bsum_test]
  simp [hi]
/-- a set of states as a long -/
def lset (x : Nat → Bool) : Int64 := lN (bsum x 64)
theorem lset_cong {x y : Nat → Bool} (h : ∀ i, i < 64 → x i = y i) : lset x = lset y := by unfold lset; rw [bsum_cong h]
theorem lset_0 : (0 : Int64) = lset (fun _ => false) := by
  have h := wd_zero (b := fun _ => false) (k := 0) (fun _ _ => rfl)
  exact h.symm
theorem lset_or1 {x : Nat → Bool} {j : Nat} (hj : j < 64) : lset x ||| ((1 : Int64) <<< ((nI j).toInt64 &&& 63)) = lset (bset x j true) := by
  have h := wd_set (b := x) (n := j) (k := 0) (by omega) (by omega)
  unfold wd at h
  simp only [Nat.mul_zero, Nat.zero_add] at h
  exact h
theorem lset_or {x y : Nat → Bool} : lset x ||| lset y = lset (fun i => x i || y i) := by
  unfold lset
  rw [fb_orL]
  congr 1
  apply bsum_ext
  · exact Nat.or_lt_two_pow (bsum_lt _ _) (bsum_lt _ _)
  · intro i hi
    rw [Nat.testBit_or, bsum_test, bsum_test]
    simp [hi]
theorem lset_and {x y : Nat → Bool} : lset x &&& lset y = lset (fun i => x i && y i) := by
  unfold lset
  rw [fb_andL]
  congr 1
  apply bsum_ext
  · exact Nat.lt_of_le_of_lt Nat.and_le_left (bsum_lt _ _)
  · intro i hi
    rw [Nat.testBit_and, bsum_test, bsum_test]
    simp [hi]
theorem lset_inj {x y : Nat → Bool} (h : lset x = lset y) : ∀ i, i < 64 → x i = y i := bsum_inj (lN_inj (bsum_lt _ _) (bsum_lt _ _) h)
theorem lset_cmp {x y : Nat → Bool} : lg_cmp (lset x &&& lset y) 0 = 0 ↔ ¬ ∃ j, j < 64 ∧ x j = true ∧ y j = true := by
  have e1 := lg_cmp_eq (lset x &&& lset y) 0
  have e2 : lset x &&& lset y = lset (fun i => x i && y i) := lset_and
  rw [e1, e2]
  constructor
  · rintro h ⟨j, h1, h2, h3⟩
    have h9 := lset_inj (h.trans lset_0) j h1
    have h10 : (x j && y j) = false := h9
    rw [h2, h3] at h10
    cases h10
  · intro h
    refine (lset_cong (fun j hj => ?_)).trans lset_0.symm
    cases hx : x j
    · rfl
    · cases hy : y j
      · rfl
      · exact absurd ⟨j, hj, hx, hy⟩ h
theorem lset_bit {x : Nat → Bool} {i : Nat} (hi : i < 64) : lg_cmp (((lset x).toUInt64 >>> ((nI i).toInt64.toUInt64 &&& Int64.toUInt64 63)).toInt64 &&& 1) 0 = b2i (x i) := gbit (Nat.le_refl 64) hi
/-- where any of the states x goes, by the first K pairs -/
noncomputable def acc (x : Nat → Bool) (go : Nat → Nat) (base K : Nat) : Nat → Bool := fun j => dB (∃ k, k < K ∧ x (k / base) = true ∧ go k = j)
theorem acc_0 (x : Nat → Bool) (go : Nat → Nat) (base : Nat) : acc x go base 0 = fun _ => false := by
  funext j
  exact dB_f (by rintro ⟨k, h, _⟩; omega)
theorem acc_s {x : Nat → Bool} {go : Nat → Nat} {base K : Nat} (h : x (K / base) = true) : bset (acc x go base K) (go K) true = acc x go base (K + 1) := by
  funext j
  by_cases hj : j = go K
  · rw [hj, bset_same]
    exact (dB_t ⟨K, by omega, h, rfl⟩).symm
  · rw [bset_ne _ _ hj]
    unfold acc
    congr 1
    apply propext
    constructor
    · rintro ⟨k, h1, h2, h3⟩; exact ⟨k, by omega, h2, h3⟩
    · rintro ⟨k, h1, h2, h3⟩
      refine ⟨k, ?_, h2, h3⟩
      rcases Nat.lt_or_ge k K with z | z
      · exact z
      · exact absurd h3 (by rw [show k = K by omega]; exact fun z => hj z.symm)
theorem acc_skip {x : Nat → Bool} {go : Nat → Nat} {base i : Nat} (hb : 0 < base) (h : x i = false) : acc x go base (i * base) = acc x go base ((i + 1) * base) := by
  funext j
  unfold acc
  congr 1
  apply propext
  constructor
  · rintro ⟨k, h1, h2, h3⟩; exact ⟨k, by rw [Nat.succ_mul]; omega, h2, h3⟩
  · rintro ⟨k, h1, h2, h3⟩
    refine ⟨k, ?_, h2, h3⟩
    rcases Nat.lt_or_ge k (i * base) with z | z
    · exact z
    · have e : k / base = i := by
        have a1 : i ≤ k / base := (Nat.le_div_iff_mul_le hb).mpr z
        have a2 : k / base < i + 1 := (Nat.div_lt_iff_lt_mul hb).mpr h1
        omega
      rw [e, h] at h2
      cases h2
noncomputable def rch (x : Nat → Bool) (go : Nat → Nat) (base n : Nat) : Nat → Nat → Bool
  | 0 => x
  | k + 1 => fun j => rch x go base n k j || acc (rch x go base n k) go base (n * base) j
noncomputable def stp (x y : Nat → Bool) (go : Nat → Nat) (base n : Nat) : Int32 := if fa_first (fun k => dB (∃ j, j < 64 ∧ rch x go base n k j = true ∧ y j = true)) 64 < 64 then nI (fa_first (fun k => dB (∃ j, j < 64 ∧ rch x go base n k j = true ∧ y j = true)) 64) else -6
theorem stp_at {x y : Nat → Bool} {go : Nat → Nat} {base n i : Nat} (h1 : ∀ j, j < i → dB (∃ a, a < 64 ∧ rch x go base n j a = true ∧ y a = true) = false) (hi : i < 64) (h2 : ∃ a, a < 64 ∧ rch x go base n i a = true ∧ y a = true) : stp x y go base n = nI i := by
  have e : fa_first (fun k => dB (∃ j, j < 64 ∧ rch x go base n k j = true ∧ y j = true)) 64 = i := first_is (by omega) h1 (Or.inr (dB_t h2))
  unfold stp
  rw [e, if_pos hi]
theorem stp_no {x y : Nat → Bool} {go : Nat → Nat} {base n : Nat} (h1 : ∀ j, j < 64 → dB (∃ a, a < 64 ∧ rch x go base n j a = true ∧ y a = true) = false) : stp x y go base n = -6 := by
  have e : fa_first (fun k => dB (∃ j, j < 64 ∧ rch x go base n k j = true ∧ y j = true)) 64 = 64 := first_is (by omega) h1 (Or.inl rfl)
  unfold stp
  rw [e, if_neg (by omega)]
set_option maxHeartbeats 4000000 in
set_option maxRecDepth 100000 in
theorem c_at (l : Launch) (D : va_G) (cy : Nat → ClassId) (L : List Nat) (f : Nat → va_E) (sz : Nat) (a rw mc t per n : Nat) (b : Nat → Bool) (ht : t ≤ 120) (hper : 0 < per) (hper2 : per ≤ 60) (hn : n < 192) (h_a : cel L f a (.inr (3, [.int (nI t), .int (nI per), .ref rw, .ref mc]))) (h_rw : cel L f rw (.inl (cy 1, 3, .inr (.inl (wd b))))) : Met l yX3_at (.code yX3_at cX3_at 2 (Option.some FieldType.boolean) :: wsL_law) { frames := 1, cells := 0, slots := 0, locals := 22 } (va_Pc [.ref a, .int (nI n)] (PW D cy L f sz)) (vp_Si (fun r => r = b2i (b n))) 0 0 (fun _ => False) := by
  refine m_start (by decide) (Nat.le_of_ble_eq_true rfl) ?_
  intro p e R Q s m args below meth c ls hsz hR hQ E hr hlk hnm hw hl
  have hl : lv_has ls 2 [(0, .ref a), (1, .int (nI n))] := hl
  refine lv_aload_n E.1.1 E.1.2.1 dX3_at_0 rfl (lv_at hl 0 rfl) ?_
  refine k_get (v := .ref rw) E inlX3 rfl 2 (by decide) w1_219 rfl hw h_a rfl dX3_at_1 ?_
  refine lv_iload_n E.1.1 E.1.2.1 dX3_at_4 rfl (lv_at hl 1 rfl) ?_
  refine k_ri (va_runSN (As := [.ref rw, .int (nI n)]) (rest := []) E.1 (c_bitin l D cy L f s.heap.size rw n 3 b (by omega) (by omega) (by decide) h_rw) ⟨va_cnB 2 E.1.2.2.2.2 (gd_own w1_126) rfl rfl rfl (E.2.2.1 _ (List.mem_of_getElem? (i := 19) rfl)) (E.1.2.2.2.2 _ w1_1) hd_X5_bit (by rw [hR]; exact ⟨Nat.le_of_ble_eq_true rfl, Nat.le_of_ble_eq_true rfl⟩), E.1.2.2.2.2 _ w1_125, trivial⟩ (pw_pre E.2 hw) rfl rfl hl.1 rfl (lv_room (Nat.le_of_ble_eq_true rfl)) dX3_at_5 ⟨Nat.zero_le _, Nat.zero_le _⟩) ?_
  exact k_zret E hQ hlk hr (rfl) dX3_at_8

set_option maxHeartbeats 4000000 in
set_option maxRecDepth 100000 in
theorem c_holds (l : Launch) (D : va_G) (cy : Nat → ClassId) (L : List Nat) (f : Nat → va_E) (sz : Nat) (a rw mc t per n : Nat) (b : Nat → Bool) (ht : t ≤ 120) (hper : 0 < per) (hper2 : per ≤ 60) (hn : n < 2147483648) (h_a : cel L f a (.inr (3, [.int (nI t), .int (nI per), .ref rw, .ref mc]))) (h_rw : cel L f rw (.inl (cy 1, 3, .inr (.inl (wd b))))) : Met l yX3_holds (.code yX3_holds cX3_holds 2 (Option.some FieldType.boolean) :: wsL_law) { frames := 2, cells := 0, slots := 0, locals := 43 } (va_Pc [.ref a, .int (nI n)] (PW D cy L f sz)) (vp_Si (fun r => r = b2i (den t per b n))) 0 0 (fun _ => False) := by
  refine m_start (by decide) (Nat.le_of_ble_eq_true rfl) ?_
  intro p e R Q s m args below meth c ls hsz hR hQ E hr hlk hnm hw hl
  have hl : lv_has ls 2 [(0, .ref a), (1, .int (nI n))] := hl
  refine lv_aload_n E.1.1 E.1.2.1 dX3_holds_0 rfl (lv_at hl 0 rfl) ?_
  refine lv_iload_n E.1.1 E.1.2.1 dX3_holds_1 rfl (lv_at hl 1 rfl) ?_
  refine lv_aload_n E.1.1 E.1.2.1 dX3_holds_2 rfl (lv_at hl 0 rfl) ?_
  refine k_get (v := .int (nI t)) E inlX3 rfl 0 (by decide) w1_215 rfl hw h_a rfl dX3_holds_3 ?_
  refine lv_aload_n E.1.1 E.1.2.1 dX3_holds_6 rfl (lv_at hl 0 rfl) ?_
  refine k_get (v := .int (nI per)) E inlX3 rfl 1 (by decide) w1_217 rfl hw h_a rfl dX3_holds_7 ?_
  have hf := fold_lt (t := t) (p := per) (n := n) hper
  refine k_ri (va_runSN (As := [.int (nI n), .int (nI t), .int (nI per)]) (rest := [.ref a]) E.1 (c_folded l D cy L f s.heap.size n t per hper (by omega) (by omega)) ⟨va_cnB 3 E.1.2.2.2.2 (gd_own w1_155) rfl rfl rfl (E.2.2.1 _ (List.mem_of_getElem? (i := 20) rfl)) (E.1.2.2.2.2 _ w1_1) hd_X5_folded (by rw [hR]; exact ⟨Nat.le_of_ble_eq_true rfl, Nat.le_of_ble_eq_true rfl⟩), E.1.2.2.2.2 _ w1_154, trivial⟩ (pw_pre E.2 hw) rfl rfl hl.1 rfl (lv_room (Nat.le_of_ble_eq_true rfl)) dX3_holds_10 ⟨Nat.zero_le _, Nat.zero_le _⟩) ?_
  refine k_ri (va_runV (As := [.int (nI (fold t per n))]) (rest := []) E.1 (c_at l D cy L f s.heap.size a rw mc t per (fold t per n) b ht hper hper2 (by omega) h_a h_rw) ⟨callB_of 1 E.1.2.2.2.2 (gd_own w2_53) rfl rfl rfl (E.1.2.2.2.2 _ w1_8) (E.1.2.2.2.2 _ w2_83) hd_X3_at (by rw [hR]; exact ⟨Nat.le_of_ble_eq_true rfl, Nat.le_of_ble_eq_true rfl⟩), E.1.2.2.2.2 _ w2_51, E.1.2.2.2.2 _ w2_52⟩ (pw_preV (q := (RX3, TX3, 4)) E.2 hw h_a rfl) rfl rfl hl.1 rfl (lv_room (Nat.le_of_ble_eq_true rfl)) dX3_holds_13 ⟨Nat.zero_le _, Nat.zero_le _⟩) ?_
  exact k_zret E hQ hlk hr (rfl) dX3_holds_16

set_option maxHeartbeats 4000000 in
set_option maxRecDepth 100000 in
theorem c_placeAfter (l : Launch) (D : va_G) (cy : Nat → ClassId) (L : List Nat) (f : Nat → va_E) (sz : Nat) (a rw mc t per n : Nat) (b : Nat → Bool) (ht : t ≤ 120) (hper : 0 < per) (hper2 : per ≤ 60) (hn : n < 192) (h_a : cel L f a (.inr (3, [.int (nI t), .int (nI per), .ref rw, .ref mc]))) : Met l yX3_placeAfter (.code yX3_placeAfter cX3_placeAfter 2 (Option.some FieldType.int) :: wsL_law) { frames := 0, cells := 0, slots := 0, locals := 0 } (va_Pc [.ref a, .int (nI n)] (PW D cy L f sz)) (vp_Si (fun r => r = nI (if n + 1 < t + per then n + 1 else t))) 0 0 (fun _ => False) := by
  refine m_start (by decide) (Nat.le_of_ble_eq_true rfl) ?_
  intro p e R Q s m args below meth c ls hsz hR hQ E hr hlk hnm hw hl
  have hl : lv_has ls 2 [(0, .ref a), (1, .int (nI n))] := hl
  refine lv_iload_n E.1.1 E.1.2.1 dX3_placeAfter_0 rfl (lv_at hl 1 rfl) ?_
  refine lv_iconst (v := nI 1) E.1.1 E.1.2.1 dX3_placeAfter_1 rfl ?_
  refine k_add E dX3_placeAfter_2 ?_
  refine lv_aload_n E.1.1 E.1.2.1 dX3_placeAfter_3 rfl (lv_at hl 0 rfl) ?_
  refine k_get (v := .int (nI t)) E inlX3 rfl 0 (by decide) w1_215 rfl hw h_a rfl dX3_placeAfter_4 ?_
  refine lv_aload_n E.1.1 E.1.2.1 dX3_placeAfter_7 rfl (lv_at hl 0 rfl) ?_
  refine k_get (v := .int (nI per)) E inlX3 rfl 1 (by decide) w1_217 rfl hw h_a rfl dX3_placeAfter_8 ?_
  refine k_add E dX3_placeAfter_11 ?_
  refine k_ge (tgt := 21) E dX3_placeAfter_12 (by decide) (by omega) (by omega) (fun c12 => ?_) (fun c12 => ?_)
  · refine lv_aload_n E.1.1 E.1.2.1 dX3_placeAfter_21 rfl (lv_at hl 0 rfl) ?_
    refine k_get (v := .int (nI t)) E inlX3 rfl 0 (by decide) w1_215 rfl hw h_a rfl dX3_placeAfter_22 ?_
    exact k_iret E hQ hlk hr (by rw [if_neg (by omega)]) dX3_placeAfter_25
  · refine lv_iload_n E.1.1 E.1.2.1 dX3_placeAfter_15 rfl (lv_at hl 1 rfl) ?_
    refine lv_iconst (v := nI 1) E.1.1 E.1.2.1 dX3_placeAfter_16 rfl ?_
    refine k_add E dX3_placeAfter_17 ?_
    refine lv_goto (tgt := 25) E.1.1 E.1.2.1 dX3_placeAfter_18 (by decide) ?_
    exact k_iret E hQ hlk hr (by rw [if_pos c12]) dX3_placeAfter_25

set_option maxHeartbeats 4000000 in
set_option maxRecDepth 100000 in
theorem c_leastFrom (l : Launch) (D : va_G) (cy : Nat → ClassId) (L : List Nat) (f : Nat → va_E) (sz : Nat) (a rw mc t per n : Nat) (b : Nat → Bool) (ht : t ≤ 120) (hper : 0 < per) (hper2 : per ≤ 60) (hn : n ≤ 1000000000) (h_a : cel L f a (.inr (3, [.int (nI t), .int (nI per), .ref rw, .ref mc]))) (h_rw : cel L f rw (.inl (cy 1, 3, .inr (.inl (wd b))))) : Met l yX3_leastFrom (.code yX3_leastFrom cX3_leastFrom 3 (Option.some FieldType.int) :: wsL_law) { frames := 3, cells := 0, slots := 0, locals := 64 } (va_Pc [.ref a, .int (nI n)] (PW D cy L f sz)) (vp_Si (fun r => r = lfrom (den t per b) (t + per) n)) 0 0 (fun _ => False) := by
  refine m_start (by decide) (Nat.le_of_ble_eq_true rfl) ?_
  intro p e R Q s m args below meth c ls hsz hR hQ E hr hlk hnm hw hl
  have hl : lv_has ls 3 [(0, .ref a), (1, .int (nI n))] := hl
  refine lv_iconst (v := nI 0) E.1.1 E.1.2.1 dX3_leastFrom_0 rfl ?_
  refine lv_istore_n (lv' := [(2, .int (nI 0)), (0, .ref a), (1, .int (nI n))]) E.1.1 E.1.2.1 dX3_leastFrom_1 rfl hl (by decide) rfl (fun ls hl => ?_)
  have lp2 : ∀ (k : Nat) (i : Nat) (ls : Array Slot), (t + per - i < k) → (i ≤ t + per) → (∀ j, j < i → den t per b (n + j) = false) → (lv_has ls 3 [(2, .int (nI i)), (0, .ref a), (1, .int (nI n))]) → W p l e R s m args below meth c s.heap [] 0 0 Q (F0 m 2 ls []) := by
    intro k
    induction k with
    | zero => intro _ _ hk; exact absurd hk (Nat.not_lt_zero _)
    | succ k ih2 =>
      intro i  ls hk hi hg hl
      refine lv_iload_n E.1.1 E.1.2.1 dX3_leastFrom_2 rfl (lv_at hl 0 rfl) ?_
      refine lv_aload_n E.1.1 E.1.2.1 dX3_leastFrom_3 rfl (lv_at hl 1 rfl) ?_
      refine k_get (v := .int (nI t)) E inlX3 rfl 0 (by decide) w1_215 rfl hw h_a rfl dX3_leastFrom_4 ?_
      refine lv_aload_n E.1.1 E.1.2.1 dX3_leastFrom_7 rfl (lv_at hl 1 rfl) ?_
      refine k_get (v := .int (nI per)) E inlX3 rfl 1 (by decide) w1_217 rfl hw h_a rfl dX3_leastFrom_8 ?_
      refine k_add E dX3_leastFrom_11 ?_
      refine k_ge (tgt := 35) E dX3_leastFrom_12 (by decide) (by omega) (by omega) (fun c12 => ?_) (fun c12 => ?_)
      · refine lv_bipush (v := -6) E.1.1 E.1.2.1 dX3_leastFrom_35 rfl ?_
        exact k_iret E hQ hlk hr (by rw [lfrom_no (fun j hj => hg j (by omega))]) dX3_leastFrom_37
      · refine lv_aload_n E.1.1 E.1.2.1 dX3_leastFrom_15 rfl (lv_at hl 1 rfl) ?_
        refine lv_iload_n E.1.1 E.1.2.1 dX3_leastFrom_16 rfl (lv_at hl 2 rfl) ?_
        refine lv_iload_n E.1.1 E.1.2.1 dX3_leastFrom_17 rfl (lv_at hl 0 rfl) ?_
        refine k_add E dX3_leastFrom_18 ?_
        refine k_ri (va_runV (As := [.int (nI (n + i))]) (rest := []) E.1 (c_holds l D cy L f s.heap.size a rw mc t per (n + i) b ht hper hper2 (by omega) h_a h_rw) ⟨callB_of 1 E.1.2.2.2.2 (gd_own w2_81) rfl rfl rfl (E.1.2.2.2.2 _ w1_8) (E.1.2.2.2.2 _ w2_163) hd_X3_holds (by rw [hR]; exact ⟨Nat.le_of_ble_eq_true rfl, Nat.le_of_ble_eq_true rfl⟩), E.1.2.2.2.2 _ w2_79, E.1.2.2.2.2 _ w2_80⟩ (pw_preV (q := (RX3, TX3, 4)) E.2 hw h_a rfl) rfl rfl hl.1 rfl (lv_room (Nat.le_of_ble_eq_true rfl)) dX3_leastFrom_19 ⟨Nat.zero_le _, Nat.zero_le _⟩) ?_
        refine k_if0 (tgt := 29) E dX3_leastFrom_22 (by decide) (fun c22 => ?_) (fun c22 => ?_)
        · refine lv_iinc (v := nI (i + 1)) (lv' := [(2, .int (nI (i + 1))), (0, .ref a), (1, .int (nI n))]) E.1.1 E.1.2.1 dX3_leastFrom_29 hl (k := 0) rfl (nI_1 _) (by decide) rfl (fun ls hl => ?_)
          refine lv_goto (tgt := 2) E.1.1 E.1.2.1 dX3_leastFrom_32 (by decide) ?_
          exact ih2  (i + 1) ls (by omega) (by omega) (lt_s hg c22)  (lv_sub hl [0, 1, 2] rfl)
        · refine lv_iload_n E.1.1 E.1.2.1 dX3_leastFrom_25 rfl (lv_at hl 2 rfl) ?_
          refine lv_iload_n E.1.1 E.1.2.1 dX3_leastFrom_26 rfl (lv_at hl 0 rfl) ?_
          refine k_add E dX3_leastFrom_27 ?_
          exact k_iret E hQ hlk hr (by rw [lfrom_at hg c12 c22]) dX3_leastFrom_28
  exact lp2 (t + per - 0 + 1) 0 ls (Nat.lt_succ_self _) (by omega) (fun j hj => absurd hj (by omega))  (lv_sub hl [0, 1, 2] rfl)

set_option maxHeartbeats 4000000 in
set_option maxRecDepth 100000 in
theorem c_placesBefore (l : Launch) (D : va_G) (cy : Nat → ClassId) (L : List Nat) (f : Nat → va_E) (sz : Nat) (a rw mc t per x : Nat) (b : Nat → Bool) (ht : t ≤ 120) (hper : 0 < per) (hper2 : per ≤ 60) (hx : x ≤ t + per) (h_a : cel L f a (.inr (3, [.int (nI t), .int (nI per), .ref rw, .ref mc]))) (h_rw : cel L f rw (.inl (cy 1, 3, .inr (.inl (wd b))))) : Met l yX3_placesBefore (.code yX3_placesBefore cX3_placesBefore 4 (Option.some FieldType.int) :: wsL_law) { frames := 2, cells := 0, slots := 0, locals := 43 } (va_Pc [.ref a, .int (nI x)] (PW D cy L f sz)) (vp_Si (fun r => r = nI (fa_cnt b x))) 0 0 (fun _ => False) := by
  refine m_start (by decide) (Nat.le_of_ble_eq_true rfl) ?_
  intro p e R Q s m args below meth c ls hsz hR hQ E hr hlk hnm hw hl
  have hl : lv_has ls 4 [(0, .ref a), (1, .int (nI x))] := hl
  refine lv_iconst (v := nI 0) E.1.1 E.1.2.1 dX3_placesBefore_0 rfl ?_
  refine lv_istore_n (lv' := [(2, .int (nI 0)), (0, .ref a), (1, .int (nI x))]) E.1.1 E.1.2.1 dX3_placesBefore_1 rfl hl (by decide) rfl (fun ls hl => ?_)
  refine lv_iconst (v := nI 0) E.1.1 E.1.2.1 dX3_placesBefore_2 rfl ?_
  refine lv_istore_n (lv' := [(3, .int (nI 0)), (2, .int (nI 0)), (0, .ref a), (1, .int (nI x))]) E.1.1 E.1.2.1 dX3_placesBefore_3 rfl hl (by decide) rfl (fun ls hl => ?_)
  have lp4 : ∀ (k : Nat) (i : Nat) (ls : Array Slot), (x - i < k) → (i ≤ x) → (lv_has ls 4 [(3, .int (nI i)), (2, .int (nI (fa_cnt b i))), (0, .ref a), (1, .int (nI x))]) → W p l e R s m args below meth c s.heap [] 0 0 Q (F0 m 4 ls []) := by
    intro k
    induction k with
    | zero => intro _ _ hk; exact absurd hk (Nat.not_lt_zero _)
    | succ k ih4 =>
      intro i  ls hk hi hl
      refine lv_iload_n E.1.1 E.1.2.1 dX3_placesBefore_4 rfl (lv_at hl 0 rfl) ?_
      refine lv_iload_n E.1.1 E.1.2.1 dX3_placesBefore_5 rfl (lv_at hl 3 rfl) ?_
      refine k_ge (tgt := 39) E dX3_placesBefore_6 (by decide) (by omega) (by omega) (fun c6 => ?_) (fun c6 => ?_)
      · refine lv_iload_n E.1.1 E.1.2.1 dX3_placesBefore_39 rfl (lv_at hl 1 rfl) ?_
        exact k_iret E hQ hlk hr (by rw [show x = i by omega]) dX3_placesBefore_40
      · refine lv_iload_n E.1.1 E.1.2.1 dX3_placesBefore_9 rfl (lv_at hl 0 rfl) ?_
        refine lv_aload_n E.1.1 E.1.2.1 dX3_placesBefore_10 rfl (lv_at hl 2 rfl) ?_
        refine k_get (v := .int (nI t)) E inlX3 rfl 0 (by decide) w1_215 rfl hw h_a rfl dX3_placesBefore_11 ?_
        refine lv_aload_n E.1.1 E.1.2.1 dX3_placesBefore_14 rfl (lv_at hl 2 rfl) ?_
        refine k_get (v := .int (nI per)) E inlX3 rfl 1 (by decide) w1_217 rfl hw h_a rfl dX3_placesBefore_15 ?_
        refine k_add E dX3_placesBefore_18 ?_
        refine k_ge (tgt := 39) E dX3_placesBefore_19 (by decide) (by omega) (by omega) (fun c19 => absurd c19 (by omega)) (fun c19 => ?_)
        refine lv_aload_n E.1.1 E.1.2.1 dX3_placesBefore_22 rfl (lv_at hl 2 rfl) ?_
        refine lv_iload_n E.1.1 E.1.2.1 dX3_placesBefore_23 rfl (lv_at hl 0 rfl) ?_
        refine k_ri (va_runV (As := [.int (nI i)]) (rest := []) E.1 (c_at l D cy L f s.heap.size a rw mc t per i b ht hper hper2 (by omega) h_a h_rw) ⟨callB_of 1 E.1.2.2.2.2 (gd_own w2_53) rfl rfl rfl (E.1.2.2.2.2 _ w1_8) (E.1.2.2.2.2 _ w2_83) hd_X3_at (by rw [hR]; exact ⟨Nat.le_of_ble_eq_true rfl, Nat.le_of_ble_eq_true rfl⟩), E.1.2.2.2.2 _ w2_51, E.1.2.2.2.2 _ w2_52⟩ (pw_preV (q := (RX3, TX3, 4)) E.2 hw h_a rfl) rfl rfl hl.1 rfl (lv_room (Nat.le_of_ble_eq_true rfl)) dX3_placesBefore_24 ⟨Nat.zero_le _, Nat.zero_le _⟩) ?_
        refine k_if0 (tgt := 33) E dX3_placesBefore_27 (by decide) (fun c27 => ?_) (fun c27 => ?_)
        · refine lv_iinc (v := nI (i + 1)) (lv' := [(3, .int (nI (i + 1))), (2, .int (nI (fa_cnt b i))), (0, .ref a), (1, .int (nI x))]) E.1.1 E.1.2.1 dX3_placesBefore_33 hl (k := 0) rfl (nI_1 _) (by decide) rfl (fun ls hl => ?_)
          refine lv_goto (tgt := 4) E.1.1 E.1.2.1 dX3_placesBefore_36 (by decide) ?_
          rw [← fa_cnt_no c27] at hl
          exact ih4  (i + 1) ls (by omega) (by omega)  (lv_sub hl [0, 1, 2, 3] rfl)
        · refine lv_iinc (v := nI (fa_cnt b i + 1)) (lv' := [(2, .int (nI (fa_cnt b i + 1))), (3, .int (nI i)), (0, .ref a), (1, .int (nI x))]) E.1.1 E.1.2.1 dX3_placesBefore_30 hl (k := 1) rfl (nI_1 _) (by decide) rfl (fun ls hl => ?_)
          refine lv_iinc (v := nI (i + 1)) (lv' := [(3, .int (nI (i + 1))), (2, .int (nI (fa_cnt b i + 1))), (0, .ref a), (1, .int (nI x))]) E.1.1 E.1.2.1 dX3_placesBefore_33 hl (k := 1) rfl (nI_1 _) (by decide) rfl (fun ls hl => ?_)
          refine lv_goto (tgt := 4) E.1.1 E.1.2.1 dX3_placesBefore_36 (by decide) ?_
          rw [← fa_cnt_yes c27] at hl
          exact ih4  (i + 1) ls (by omega) (by omega)  (lv_sub hl [0, 1, 2, 3] rfl)
  exact lp4 (x - 0 + 1) 0 ls (Nat.lt_succ_self _) (by omega)  (lv_sub hl [0, 1, 2, 3] rfl)

set_option maxHeartbeats 4000000 in
set_option maxRecDepth 100000 in
theorem c_numbersBefore (l : Launch) (D : va_G) (cy : Nat → ClassId) (L : List Nat) (f : Nat → va_E) (sz : Nat) (a rw mc t per n : Nat) (b : Nat → Bool) (ht : t ≤ 120) (hper : 0 < per) (hper2 : per ≤ 60) (hn : n ≤ 1000000000) (h_a : cel L f a (.inr (3, [.int (nI t), .int (nI per), .ref rw, .ref mc]))) (h_rw : cel L f rw (.inl (cy 1, 3, .inr (.inl (wd b))))) : Met l yX3_numbersBefore (.code yX3_numbersBefore cX3_numbersBefore 4 (Option.some FieldType.int) :: wsL_law) { frames := 3, cells := 0, slots := 0, locals := 66 } (va_Pc [.ref a, .int (nI n)] (PW D cy L f sz)) (vp_Si (fun r => r = nI (fa_cnt (den t per b) n))) 0 0 (fun _ => False) := by
  refine m_start (by decide) (Nat.le_of_ble_eq_true rfl) ?_
  intro p e R Q s m args below meth c ls hsz hR hQ E hr hlk hnm hw hl
  have hl : lv_has ls 4 [(0, .ref a), (1, .int (nI n))] := hl
  refine lv_iload_n E.1.1 E.1.2.1 dX3_numbersBefore_0 rfl (lv_at hl 1 rfl) ?_
  refine lv_aload_n E.1.1 E.1.2.1 dX3_numbersBefore_1 rfl (lv_at hl 0 rfl) ?_
  refine k_get (v := .int (nI t)) E inlX3 rfl 0 (by decide) w1_215 rfl hw h_a rfl dX3_numbersBefore_2 ?_
  refine lv_aload_n E.1.1 E.1.2.1 dX3_numbersBefore_5 rfl (lv_at hl 0 rfl) ?_
  refine k_get (v := .int (nI per)) E inlX3 rfl 1 (by decide) w1_217 rfl hw h_a rfl dX3_numbersBefore_6 ?_
  refine k_add E dX3_numbersBefore_9 ?_
  refine k_le (tgt := 21) E dX3_numbersBefore_10 (by decide) (by omega) (by omega) (fun c10 => ?_) (fun c10 => ?_)
  · refine lv_aload_n E.1.1 E.1.2.1 dX3_numbersBefore_21 rfl (lv_at hl 0 rfl) ?_
    refine lv_iload_n E.1.1 E.1.2.1 dX3_numbersBefore_22 rfl (lv_at hl 1 rfl) ?_
    refine k_ri (va_runV (As := [.int (nI n)]) (rest := []) E.1 (c_placesBefore l D cy L f s.heap.size a rw mc t per (n) b ht hper hper2 (by omega) h_a h_rw) ⟨callB_of 1 E.1.2.2.2.2 (gd_own w2_117) rfl rfl rfl (E.1.2.2.2.2 _ w1_8) (E.1.2.2.2.2 _ w2_114) hd_X3_placesBefore (by rw [hR]; exact ⟨Nat.le_of_ble_eq_true rfl, Nat.le_of_ble_eq_true rfl⟩), E.1.2.2.2.2 _ w2_116, E.1.2.2.2.2 _ ws_17⟩ (pw_preV (q := (RX3, TX3, 4)) E.2 hw h_a rfl) rfl rfl hl.1 rfl (lv_room (Nat.le_of_ble_eq_true rfl)) dX3_numbersBefore_23 ⟨Nat.zero_le _, Nat.zero_le _⟩) ?_
    exact k_iret E hQ hlk hr (by rw [cnt_den b c10]) dX3_numbersBefore_26
  · refine lv_aload_n E.1.1 E.1.2.1 dX3_numbersBefore_13 rfl (lv_at hl 0 rfl) ?_
    refine k_get (v := .int (nI per)) E inlX3 rfl 1 (by decide) w1_217 rfl hw h_a rfl dX3_numbersBefore_14 ?_
    refine lv_iconst (v := nI 1) E.1.1 E.1.2.1 dX3_numbersBefore_17 rfl ?_
    refine k_ge (tgt := 27) E dX3_numbersBefore_18 (by decide) (by omega) (by omega) (fun c18 => ?_) (fun c18 => absurd c18 (by omega))
    refine lv_aload_n E.1.1 E.1.2.1 dX3_numbersBefore_27 rfl (lv_at hl 0 rfl) ?_
    refine lv_aload_n E.1.1 E.1.2.1 dX3_numbersBefore_28 rfl (lv_at hl 0 rfl) ?_
    refine k_get (v := .int (nI t)) E inlX3 rfl 0 (by decide) w1_215 rfl hw h_a rfl dX3_numbersBefore_29 ?_
    refine lv_aload_n E.1.1 E.1.2.1 dX3_numbersBefore_32 rfl (lv_at hl 0 rfl) ?_
    refine k_get (v := .int (nI per)) E inlX3 rfl 1 (by decide) w1_217 rfl hw h_a rfl dX3_numbersBefore_33 ?_
    refine k_add E dX3_numbersBefore_36 ?_
    refine k_ri (va_runV (As := [.int (nI (t + per))]) (rest := []) E.1 (c_placesBefore l D cy L f s.heap.size a rw mc t per (t + per) b ht hper hper2 (by omega) h_a h_rw) ⟨callB_of 1 E.1.2.2.2.2 (gd_own w2_117) rfl rfl rfl (E.1.2.2.2.2 _ w1_8) (E.1.2.2.2.2 _ w2_114) hd_X3_placesBefore (by rw [hR]; exact ⟨Nat.le_of_ble_eq_true rfl, Nat.le_of_ble_eq_true rfl⟩), E.1.2.2.2.2 _ w2_116, E.1.2.2.2.2 _ ws_17⟩ (pw_preV (q := (RX3, TX3, 4)) E.2 hw h_a rfl) rfl rfl hl.1 rfl (lv_room (Nat.le_of_ble_eq_true rfl)) dX3_numbersBefore_37 ⟨Nat.zero_le _, Nat.zero_le _⟩) ?_
    refine lv_aload_n E.1.1 E.1.2.1 dX3_numbersBefore_40 rfl (lv_at hl 0 rfl) ?_
    refine lv_aload_n E.1.1 E.1.2.1 dX3_numbersBefore_41 rfl (lv_at hl 0 rfl) ?_
    refine k_get (v := .int (nI t)) E inlX3 rfl 0 (by decide) w1_215 rfl hw h_a rfl dX3_numbersBefore_42 ?_
    refine k_ri (va_runV (As := [.int (nI t)]) (rest := [.int (nI (fa_cnt b (t + per)))]) E.1 (c_placesBefore l D cy L f s.heap.size a rw mc t per (t) b ht hper hper2 (by omega) h_a h_rw) ⟨callB_of 1 E.1.2.2.2.2 (gd_own w2_117) rfl rfl rfl (E.1.2.2.2.2 _ w1_8) (E.1.2.2.2.2 _ w2_114) hd_X3_placesBefore (by rw [hR]; exact ⟨Nat.le_of_ble_eq_true rfl, Nat.le_of_ble_eq_true rfl⟩), E.1.2.2.2.2 _ w2_116, E.1.2.2.2.2 _ ws_17⟩ (pw_preV (q := (RX3, TX3, 4)) E.2 hw h_a rfl) rfl rfl hl.1 rfl (lv_room (Nat.le_of_ble_eq_true rfl)) dX3_numbersBefore_45 ⟨Nat.zero_le _, Nat.zero_le _⟩) ?_
    have hmn := cnt_mono b (show t ≤ t + per by omega)
    refine k_sub E dX3_numbersBefore_48 (by omega) ?_
    refine lv_istore_n (lv' := [(2, .int (nI ((fa_cnt b (t + per)) - (fa_cnt b (t))))), (0, .ref a), (1, .int (nI n))]) E.1.1 E.1.2.1 dX3_numbersBefore_49 rfl hl (by decide) rfl (fun ls hl => ?_)
    refine lv_iload_n E.1.1 E.1.2.1 dX3_numbersBefore_50 rfl (lv_at hl 2 rfl) ?_
    refine lv_aload_n E.1.1 E.1.2.1 dX3_numbersBefore_51 rfl (lv_at hl 1 rfl) ?_
    refine k_get (v := .int (nI t)) E inlX3 rfl 0 (by decide) w1_215 rfl hw h_a rfl dX3_numbersBefore_52 ?_
    refine k_sub E dX3_numbersBefore_55 (by omega) ?_
    refine lv_aload_n E.1.1 E.1.2.1 dX3_numbersBefore_56 rfl (lv_at hl 1 rfl) ?_
    refine k_get (v := .int (nI per)) E inlX3 rfl 1 (by decide) w1_217 rfl hw h_a rfl dX3_numbersBefore_57 ?_
    refine k_div E dX3_numbersBefore_60 (by omega) (by omega) (by omega) ?_
    refine lv_istore_n (lv' := [(3, .int (nI ((n - t) / per))), (2, .int (nI ((fa_cnt b (t + per)) - (fa_cnt b (t))))), (0, .ref a), (1, .int (nI n))]) E.1.1 E.1.2.1 dX3_numbersBefore_61 rfl hl (by decide) rfl (fun ls hl => ?_)
    refine lv_aload_n E.1.1 E.1.2.1 dX3_numbersBefore_62 rfl (lv_at hl 2 rfl) ?_
    refine lv_aload_n E.1.1 E.1.2.1 dX3_numbersBefore_63 rfl (lv_at hl 2 rfl) ?_
    refine k_get (v := .int (nI t)) E inlX3 rfl 0 (by decide) w1_215 rfl hw h_a rfl dX3_numbersBefore_64 ?_
    refine lv_iload_n E.1.1 E.1.2.1 dX3_numbersBefore_67 rfl (lv_at hl 3 rfl) ?_
    refine lv_aload_n E.1.1 E.1.2.1 dX3_numbersBefore_68 rfl (lv_at hl 2 rfl) ?_
    refine k_get (v := .int (nI t)) E inlX3 rfl 0 (by decide) w1_215 rfl hw h_a rfl dX3_numbersBefore_69 ?_
    refine k_sub E dX3_numbersBefore_72 (by omega) ?_
    refine lv_aload_n E.1.1 E.1.2.1 dX3_numbersBefore_73 rfl (lv_at hl 2 rfl) ?_
    refine k_get (v := .int (nI per)) E inlX3 rfl 1 (by decide) w1_217 rfl hw h_a rfl dX3_numbersBefore_74 ?_
    refine k_rem E dX3_numbersBefore_77 (by omega) (by omega) (by omega) ?_
    refine k_add E dX3_numbersBefore_78 ?_
    have hmo := Nat.mod_lt (n - t) hper
    refine k_ri (va_runV (As := [.int (nI (t + ((n - t) % per)))]) (rest := []) E.1 (c_placesBefore l D cy L f s.heap.size a rw mc t per (t + ((n - t) % per)) b ht hper hper2 (by omega) h_a h_rw) ⟨callB_of 1 E.1.2.2.2.2 (gd_own w2_117) rfl rfl rfl (E.1.2.2.2.2 _ w1_8) (E.1.2.2.2.2 _ w2_114) hd_X3_placesBefore (by rw [hR]; exact ⟨Nat.le_of_ble_eq_true rfl, Nat.le_of_ble_eq_true rfl⟩), E.1.2.2.2.2 _ w2_116, E.1.2.2.2.2 _ ws_17⟩ (pw_preV (q := (RX3, TX3, 4)) E.2 hw h_a rfl) rfl rfl hl.1 rfl (lv_room (Nat.le_of_ble_eq_true rfl)) dX3_numbersBefore_79 ⟨Nat.zero_le _, Nat.zero_le _⟩) ?_
    refine lv_iload_n E.1.1 E.1.2.1 dX3_numbersBefore_82 rfl (lv_at hl 0 rfl) ?_
    refine lv_iload_n E.1.1 E.1.2.1 dX3_numbersBefore_83 rfl (lv_at hl 1 rfl) ?_
    refine k_mul E dX3_numbersBefore_84 ?_
    refine k_add E dX3_numbersBefore_85 ?_
    exact k_iret E hQ hlk hr (by rw [cnt_far hper (den_ev b hper) (show t ≤ n by omega), cnt_den b (by omega), cnt_den b (Nat.le_refl _), cnt_den b (by omega)]) dX3_numbersBefore_86

set_option maxHeartbeats 4000000 in
set_option maxRecDepth 100000 in
theorem c_sameAs (l : Launch) (D : va_G) (cy : Nat → ClassId) (L : List Nat) (f : Nat → va_E) (sz : Nat) (a rw mc t per a2 rw2 mc2 t2 per2 : Nat) (b b2 : Nat → Bool) (ht : t ≤ 120) (hper : 0 < per) (hperx : per ≤ 60) (ht2 : t2 ≤ 120) (hper2 : 0 < per2) (hper2x : per2 ≤ 60)  (h_a : cel L f a (.inr (3, [.int (nI t), .int (nI per), .ref rw, .ref mc]))) (h_rw : cel L f rw (.inl (cy 1, 3, .inr (.inl (wd b))))) (h_a2 : cel L f a2 (.inr (3, [.int (nI t2), .int (nI per2), .ref rw2, .ref mc2]))) (h_rw2 : cel L f rw2 (.inl (cy 1, 3, .inr (.inl (wd b2))))) : Met l yX3_sameAs (.code yX3_sameAs cX3_sameAs 3 (Option.some FieldType.boolean) :: wsL_law) { frames := 0, cells := 0, slots := 0, locals := 0 } (va_Pc [.ref a, .ref a2] (PW D cy L f sz)) (vp_Si (fun r => r = b2i (dB (t = t2 ∧ per = per2 ∧ SameR b b2)))) 0 0 (fun _ => False) := by
  refine m_start (by decide) (Nat.le_of_ble_eq_true rfl) ?_
  intro p e R Q s m args below meth c ls hsz hR hQ E hr hlk hnm hw hl
  have hl : lv_has ls 3 [(0, .ref a), (1, .ref a2)] := hl
  refine lv_aload_n E.1.1 E.1.2.1 dX3_sameAs_0 rfl (lv_at hl 0 rfl) ?_
  refine k_get (v := .int (nI t)) E inlX3 rfl 0 (by decide) w1_215 rfl hw h_a rfl dX3_sameAs_1 ?_
  refine lv_aload_n E.1.1 E.1.2.1 dX3_sameAs_4 rfl (lv_at hl 1 rfl) ?_
  refine k_get (v := .int (nI t2)) E inlX3 rfl 0 (by decide) w1_215 rfl hw h_a2 rfl dX3_sameAs_5 ?_
  refine k_ne (tgt := 22) E dX3_sameAs_8 (by decide) (by omega) (by omega) (fun c8 => ?_) (fun c8 => ?_)
  · refine lv_iconst (v := nI 0) E.1.1 E.1.2.1 dX3_sameAs_22 rfl ?_
    refine k_top E (b2i false) rfl ?_
    exact k_zret E hQ hlk hr (by rw [dB_f (fun h => c8 h.1)]) dX3_sameAs_23
  · refine lv_aload_n E.1.1 E.1.2.1 dX3_sameAs_11 rfl (lv_at hl 0 rfl) ?_
    refine k_get (v := .int (nI per)) E inlX3 rfl 1 (by decide) w1_217 rfl hw h_a rfl dX3_sameAs_12 ?_
    refine lv_aload_n E.1.1 E.1.2.1 dX3_sameAs_15 rfl (lv_at hl 1 rfl) ?_
    refine k_get (v := .int (nI per2)) E inlX3 rfl 1 (by decide) w1_217 rfl hw h_a2 rfl dX3_sameAs_16 ?_
    refine k_eq (tgt := 24) E dX3_sameAs_19 (by decide) (by omega) (by omega) (fun c19 => ?_) (fun c19 => ?_)
    · refine lv_iconst (v := nI 0) E.1.1 E.1.2.1 dX3_sameAs_24 rfl ?_
      refine lv_istore_n (lv' := [(2, .int (nI 0)), (0, .ref a), (1, .ref a2)]) E.1.1 E.1.2.1 dX3_sameAs_25 rfl hl (by decide) rfl (fun ls hl => ?_)
      have lp26 : ∀ (k : Nat) (i : Nat) (ls : Array Slot), (3 - i < k) → (i ≤ 3) → (∀ j, j < i → wd b j = wd b2 j) → (lv_has ls 3 [(2, .int (nI i)), (0, .ref a), (1, .ref a2)]) → W p l e R s m args below meth c s.heap [] 0 0 Q (F0 m 26 ls []) := by
        intro k
        induction k with
        | zero => intro _ _ hk; exact absurd hk (Nat.not_lt_zero _)
        | succ k ih26 =>
          intro i  ls hk hi hg hl
          refine lv_iload_n E.1.1 E.1.2.1 dX3_sameAs_26 rfl (lv_at hl 0 rfl) ?_
          refine lv_aload_n E.1.1 E.1.2.1 dX3_sameAs_27 rfl (lv_at hl 1 rfl) ?_
          refine k_get (v := .ref rw) E inlX3 rfl 2 (by decide) w1_219 rfl hw h_a rfl dX3_sameAs_28 ?_
          refine k_alen E hw 1 h_rw rfl (n := 3) rfl dX3_sameAs_31 ?_
          refine k_ge (tgt := 68) E dX3_sameAs_32 (by decide) (by omega) (by omega) (fun c32 => ?_) (fun c32 => ?_)
          · refine lv_iconst (v := nI 1) E.1.1 E.1.2.1 dX3_sameAs_68 rfl ?_
            refine k_top E (b2i true) rfl ?_
            exact k_zret E hQ hlk hr (by rw [dB_t ⟨c8, c19, same_wd.mp (fun j hj => hg j (by omega))⟩]) dX3_sameAs_69
          · refine lv_iload_n E.1.1 E.1.2.1 dX3_sameAs_35 rfl (lv_at hl 0 rfl) ?_
            refine lv_aload_n E.1.1 E.1.2.1 dX3_sameAs_36 rfl (lv_at hl 2 rfl) ?_
            refine k_get (v := .ref rw2) E inlX3 rfl 2 (by decide) w1_219 rfl hw h_a2 rfl dX3_sameAs_37 ?_
            refine k_alen E hw 1 h_rw2 rfl (n := 3) rfl dX3_sameAs_40 ?_
            refine k_ge (tgt := 68) E dX3_sameAs_41 (by decide) (by omega) (by omega) (fun c41 => absurd c41 (by omega)) (fun c41 => ?_)
            refine lv_aload_n E.1.1 E.1.2.1 dX3_sameAs_44 rfl (lv_at hl 1 rfl) ?_
            refine k_get (v := .ref rw) E inlX3 rfl 2 (by decide) w1_219 rfl hw h_a rfl dX3_sameAs_45 ?_
            refine lv_iload_n E.1.1 E.1.2.1 dX3_sameAs_48 rfl (lv_at hl 0 rfl) ?_
            refine k_lald E hw (v := (wd b) i) h_rw (by omega) (by omega) (rfl) dX3_sameAs_49 ?_
            refine lv_aload_n E.1.1 E.1.2.1 dX3_sameAs_50 rfl (lv_at hl 2 rfl) ?_
            refine k_get (v := .ref rw2) E inlX3 rfl 2 (by decide) w1_219 rfl hw h_a2 rfl dX3_sameAs_51 ?_
            refine lv_iload_n E.1.1 E.1.2.1 dX3_sameAs_54 rfl (lv_at hl 0 rfl) ?_
            refine k_lald E hw (v := (wd b2) i) h_rw2 (by omega) (by omega) (rfl) dX3_sameAs_55 ?_
            refine W.lcmp E.1.1 E.1.2.1 dX3_sameAs_56 ?_
            refine lv_if_eq (tgt := 62) E.1.1 E.1.2.1 dX3_sameAs_57 (by decide) (fun c57 => ?_) (fun c57 => ?_)
            · refine lv_iinc (v := nI (i + 1)) (lv' := [(2, .int (nI (i + 1))), (0, .ref a), (1, .ref a2)]) E.1.1 E.1.2.1 dX3_sameAs_62 hl (k := 0) rfl (nI_1 _) (by decide) rfl (fun ls hl => ?_)
              refine lv_goto (tgt := 26) E.1.1 E.1.2.1 dX3_sameAs_65 (by decide) ?_
              exact ih26  (i + 1) ls (by omega) (by omega) (lt_s hg ((lg_cmp_eq _ _).mp c57))  (lv_sub hl [0, 1, 2] rfl)
            · refine lv_iconst (v := nI 0) E.1.1 E.1.2.1 dX3_sameAs_60 rfl ?_
              refine k_top E (b2i false) rfl ?_
              exact k_zret E hQ hlk hr (by rw [dB_f (fun h => c57 ((lg_cmp_eq _ _).mpr (same_wd.mpr h.2.2 i (by omega))))]) dX3_sameAs_61
      exact lp26 (3 - 0 + 1) 0 ls (Nat.lt_succ_self _) (by omega) (fun j hj => absurd hj (by omega))  (lv_sub hl [0, 1, 2] rfl)
    · refine lv_iconst (v := nI 0) E.1.1 E.1.2.1 dX3_sameAs_22 rfl ?_
      refine k_top E (b2i false) rfl ?_
      exact k_zret E hQ hlk hr (by rw [dB_f (fun h => c19 h.2.1)]) dX3_sameAs_23

set_option maxHeartbeats 4000000 in
set_option maxRecDepth 100000 in
theorem c_after (l : Launch) (D : va_G) (cy : Nat → ClassId) (L : List Nat) (f : Nat → va_E) (sz : Nat) (mc gs base nf i dg : Nat) (go : Nat → Nat) (gd : Nat → Bool) (hnf : nf ≤ 64) (hbase : 1 < base) (hbase5 : base ≤ 5) (hi : i < nf) (hdg : dg < base) (h_mc : cel L f mc (.inr (2, [.int (nI base), .int (nI nf), .ref gs, .long (lN (bsum gd nf))]))) (h_gs : cel L f gs (.inl (cy 0, nf * base, .inl (fun k => nI (go k))))) : Met l yX2_after (.code yX2_after cX2_after 4 (Option.some FieldType.int) :: wsL_law) { frames := 0, cells := 0, slots := 0, locals := 0 } (va_Pc [.ref mc, .int (nI i), .int (nI dg)] (PW D cy L f sz)) (vp_Si (fun r => r = nI (go (i * base + dg)))) 0 0 (fun _ => False) := by
  refine m_start (by decide) (Nat.le_of_ble_eq_true rfl) ?_
  intro p e R Q s m args below meth c ls hsz hR hQ E hr hlk hnm hw hl
  have hl : lv_has ls 4 [(0, .ref mc), (1, .int (nI i)), (2, .int (nI dg))] := hl
  have hbb : nf * base ≤ 320 := by have := Nat.mul_le_mul hnf hbase5; omega
  have hix := ix3 (d := dg) hi hdg
  refine lv_iload_n E.1.1 E.1.2.1 dX2_after_0 rfl (lv_at hl 1 rfl) ?_
  refine lv_aload_n E.1.1 E.1.2.1 dX2_after_1 rfl (lv_at hl 0 rfl) ?_
  refine k_get (v := .int (nI base)) E inlX2 rfl 0 (by decide) w1_188 rfl hw h_mc rfl dX2_after_2 ?_
  refine k_mul E dX2_after_5 ?_
  refine lv_iload_n E.1.1 E.1.2.1 dX2_after_6 rfl (lv_at hl 2 rfl) ?_
  refine k_add E dX2_after_7 ?_
  refine lv_istore_n (lv' := [(3, .int (nI ((i * base) + dg))), (0, .ref mc), (1, .int (nI i)), (2, .int (nI dg))]) E.1.1 E.1.2.1 dX2_after_8 rfl hl (by decide) rfl (fun ls hl => ?_)
  refine lv_iload_n E.1.1 E.1.2.1 dX2_after_9 rfl (lv_at hl 0 rfl) ?_
  refine k_zlt (tgt := 31) E dX2_after_10 (by decide) (by omega) ?_
  refine lv_iload_n E.1.1 E.1.2.1 dX2_after_13 rfl (lv_at hl 0 rfl) ?_
  refine lv_aload_n E.1.1 E.1.2.1 dX2_after_14 rfl (lv_at hl 1 rfl) ?_
  refine k_get (v := .ref gs) E inlX2 rfl 2 (by decide) w1_191 rfl hw h_mc rfl dX2_after_15 ?_
  refine k_alen E hw 0 h_gs rfl (n := nf * base) rfl dX2_after_18 ?_
  refine k_ge (tgt := 31) E dX2_after_19 (by decide) (by omega) (by omega) (fun c19 => absurd c19 (by omega)) (fun c19 => ?_)
  refine lv_aload_n E.1.1 E.1.2.1 dX2_after_22 rfl (lv_at hl 1 rfl) ?_
  refine k_get (v := .ref gs) E inlX2 rfl 2 (by decide) w1_191 rfl hw h_mc rfl dX2_after_23 ?_
  refine lv_iload_n E.1.1 E.1.2.1 dX2_after_26 rfl (lv_at hl 0 rfl) ?_
  refine k_iald E hw (v := nI (go ((i * base) + dg))) h_gs (by omega) (by omega) (rfl) dX2_after_27 ?_
  refine lv_goto (tgt := 32) E.1.1 E.1.2.1 dX2_after_28 (by decide) ?_
  exact k_iret E hQ hlk hr (rfl) dX2_after_32

set_option maxHeartbeats 4000000 in
set_option maxRecDepth 100000 in
theorem c_isGood (l : Launch) (D : va_G) (cy : Nat → ClassId) (L : List Nat) (f : Nat → va_E) (sz : Nat) (mc gs base nf i : Nat) (go : Nat → Nat) (gd : Nat → Bool) (hnf : nf ≤ 64) (hbase : 1 < base) (hbase5 : base ≤ 5) (hi : i < nf) (h_mc : cel L f mc (.inr (2, [.int (nI base), .int (nI nf), .ref gs, .long (lN (bsum gd nf))]))) : Met l yX2_isGood (.code yX2_isGood cX2_isGood 2 (Option.some FieldType.boolean) :: wsL_law) { frames := 0, cells := 0, slots := 0, locals := 0 } (va_Pc [.ref mc, .int (nI i)] (PW D cy L f sz)) (vp_Si (fun r => r = b2i (gd i))) 0 0 (fun _ => False) := by
  refine m_start (by decide) (Nat.le_of_ble_eq_true rfl) ?_
  intro p e R Q s m args below meth c ls hsz hR hQ E hr hlk hnm hw hl
  have hl : lv_has ls 2 [(0, .ref mc), (1, .int (nI i))] := hl
  refine lv_aload_n E.1.1 E.1.2.1 dX2_isGood_0 rfl (lv_at hl 0 rfl) ?_
  refine k_get (v := .long (lN (bsum gd nf))) E inlX2 rfl 3 (by decide) w1_192 rfl hw h_mc rfl dX2_isGood_1 ?_
  refine lv_iload_n E.1.1 E.1.2.1 dX2_isGood_4 rfl (lv_at hl 1 rfl) ?_
  refine lv_lushr E.1.1 E.1.2.1 dX2_isGood_5 rfl ?_
  refine lv_lconst (v := 1) E.1.1 E.1.2.1 dX2_isGood_6 rfl ?_
  refine lv_land E.1.1 E.1.2.1 dX2_isGood_7 ?_
  refine lv_lconst (v := 0) E.1.1 E.1.2.1 dX2_isGood_8 rfl ?_
  refine W.lcmp E.1.1 E.1.2.1 dX2_isGood_9 ?_
  refine k_top E (b2i (gd i)) (gbit hnf hi) ?_
  refine k_if0 (tgt := 17) E dX2_isGood_10 (by decide) (fun c10 => ?_) (fun c10 => ?_)
  · refine lv_iconst (v := nI 0) E.1.1 E.1.2.1 dX2_isGood_17 rfl ?_
    refine k_top E (b2i false) rfl ?_
    exact k_zret E hQ hlk hr (by rw [c10]) dX2_isGood_18
  · refine lv_iconst (v := nI 1) E.1.1 E.1.2.1 dX2_isGood_13 rfl ?_
    refine lv_goto (tgt := 18) E.1.1 E.1.2.1 dX2_isGood_14 (by decide) ?_
    refine k_top E (b2i true) rfl ?_
    exact k_zret E hQ hlk hr (by rw [c10]) dX2_isGood_18

set_option maxHeartbeats 4000000 in
set_option maxRecDepth 100000 in
theorem c_read (l : Launch) (D : va_G) (cy : Nat → ClassId) (L : List Nat) (f : Nat → va_E) (sz : Nat) (mc gs base nf num n : Nat) (go : Nat → Nat) (gd : Nat → Bool) (hnf : nf ≤ 64) (hbase : 1 < base) (hbase5 : base ≤ 5) (hgo : ∀ k, k < nf * base → go k < nf) (h0 : 0 < nf) (hn : n ≤ 40) (hnum : num < 2147483648) (h_mc : cel L f mc (.inr (2, [.int (nI base), .int (nI nf), .ref gs, .long (lN (bsum gd nf))]))) (h_gs : cel L f gs (.inl (cy 0, nf * base, .inl (fun k => nI (go k))))) : Met l yX2_read (.code yX2_read cX2_read 6 (Option.some FieldType.int) :: wsL_law) { frames := 1, cells := 0, slots := 0, locals := 23 } (va_Pc [.ref mc, .int (nI num), .int (nI n)] (PW D cy L f sz)) (vp_Si (fun r => r = nI (wlk go base num n))) 0 0 (fun _ => False) := by
  refine m_start (by decide) (Nat.le_of_ble_eq_true rfl) ?_
  intro p e R Q s m args below meth c ls hsz hR hQ E hr hlk hnm hw hl
  have hl : lv_has ls 6 [(0, .ref mc), (1, .int (nI num)), (2, .int (nI n))] := hl
  refine lv_iconst (v := nI 0) E.1.1 E.1.2.1 dX2_read_0 rfl ?_
  refine lv_istore_n (lv' := [(3, .int (nI 0)), (0, .ref mc), (1, .int (nI num)), (2, .int (nI n))]) E.1.1 E.1.2.1 dX2_read_1 rfl hl (by decide) rfl (fun ls hl => ?_)
  refine lv_iload_n E.1.1 E.1.2.1 dX2_read_2 rfl (lv_at hl 2 rfl) ?_
  refine k_top E (nI (num / base ^ 0)) (by rw [Nat.pow_zero, Nat.div_one]) ?_
  refine lv_istore (lv' := [(4, .int (nI (num / base ^ 0))), (3, .int (nI 0)), (0, .ref mc), (1, .int (nI num)), (2, .int (nI n))]) E.1.1 E.1.2.1 dX2_read_3 hl (by decide) rfl (fun ls hl => ?_)
  refine lv_iconst (v := nI 0) E.1.1 E.1.2.1 dX2_read_5 rfl ?_
  refine lv_istore (lv' := [(5, .int (nI 0)), (4, .int (nI (num / base ^ 0))), (3, .int (nI 0)), (0, .ref mc), (1, .int (nI num)), (2, .int (nI n))]) E.1.1 E.1.2.1 dX2_read_6 hl (by decide) rfl (fun ls hl => ?_)
  have lp8 : ∀ (k : Nat) (i : Nat) (ls : Array Slot), (n - i < k) → (i ≤ n) → (wlk go base num i < nf) → (lv_has ls 6 [(5, .int (nI i)), (3, .int (nI (wlk go base num i))), (4, .int (nI (num / base ^ i))), (0, .ref mc), (1, .int (nI num)), (2, .int (nI n))]) → W p l e R s m args below meth c s.heap [] 0 0 Q (F0 m 8 ls []) := by
    intro k
    induction k with
    | zero => intro _ _ hk; exact absurd hk (Nat.not_lt_zero _)
    | succ k ih8 =>
      intro i  ls hk hi hw2 hl
      
      refine lv_iload E.1.1 E.1.2.1 dX2_read_8 (lv_at hl 0 rfl) ?_
      refine lv_iload_n E.1.1 E.1.2.1 dX2_read_10 rfl (lv_at hl 5 rfl) ?_
      refine k_ge (tgt := 50) E dX2_read_11 (by decide) (by omega) (by omega) (fun c11 => ?_) (fun c11 => ?_)
      · refine lv_iload_n E.1.1 E.1.2.1 dX2_read_50 rfl (lv_at hl 1 rfl) ?_
        exact k_iret E hQ hlk hr (by rw [show n = i by omega]) dX2_read_51
      · refine lv_aload_n E.1.1 E.1.2.1 dX2_read_14 rfl (lv_at hl 3 rfl) ?_
        refine k_get (v := .int (nI base)) E inlX2 rfl 0 (by decide) w1_188 rfl hw h_mc rfl dX2_read_15 ?_
        refine lv_iconst (v := nI 1) E.1.1 E.1.2.1 dX2_read_18 rfl ?_
        refine k_le (tgt := 50) E dX2_read_19 (by decide) (by omega) (by omega) (fun c19 => absurd c19 (by omega)) (fun c19 => ?_)
        have hdl := Nat.div_le_self num (base ^ i)
        have hdm := Nat.mod_lt (num / base ^ i) (show 0 < base by omega)
        refine lv_aload_n E.1.1 E.1.2.1 dX2_read_22 rfl (lv_at hl 3 rfl) ?_
        refine lv_iload_n E.1.1 E.1.2.1 dX2_read_23 rfl (lv_at hl 1 rfl) ?_
        refine lv_iload E.1.1 E.1.2.1 dX2_read_24 (lv_at hl 2 rfl) ?_
        refine lv_aload_n E.1.1 E.1.2.1 dX2_read_26 rfl (lv_at hl 3 rfl) ?_
        refine k_get (v := .int (nI base)) E inlX2 rfl 0 (by decide) w1_188 rfl hw h_mc rfl dX2_read_27 ?_
        refine k_rem E dX2_read_30 (by omega) (by omega) (by omega) ?_
        refine k_ri (va_runV (As := [.int (nI (wlk go base num i)), .int (nI ((num / base ^ i) % base))]) (rest := []) E.1 (c_after l D cy L f s.heap.size mc gs base nf (wlk go base num i) (num / base ^ i % base) go gd hnf hbase hbase5 hw2 hdm h_mc h_gs) ⟨callB_of 2 E.1.2.2.2.2 (gd_own w2_125) rfl rfl rfl (E.1.2.2.2.2 _ w1_9) (E.1.2.2.2.2 _ w2_141) hd_X2_after (by rw [hR]; exact ⟨Nat.le_of_ble_eq_true rfl, Nat.le_of_ble_eq_true rfl⟩), E.1.2.2.2.2 _ w2_123, E.1.2.2.2.2 _ w2_124⟩ (pw_preV (q := (RX2, TX2, 4)) E.2 hw h_mc rfl) rfl rfl hl.1 rfl (lv_room (Nat.le_of_ble_eq_true rfl)) dX2_read_31 ⟨Nat.zero_le _, Nat.zero_le _⟩) ?_
        refine lv_istore_n (lv' := [(3, .int (nI (go (wlk go base num i * base + num / base ^ i % base)))), (5, .int (nI i)), (4, .int (nI (num / base ^ i))), (0, .ref mc), (1, .int (nI num)), (2, .int (nI n))]) E.1.1 E.1.2.1 dX2_read_34 rfl hl (by decide) rfl (fun ls hl => ?_)
        refine lv_iload E.1.1 E.1.2.1 dX2_read_35 (lv_at hl 2 rfl) ?_
        refine lv_aload_n E.1.1 E.1.2.1 dX2_read_37 rfl (lv_at hl 3 rfl) ?_
        refine k_get (v := .int (nI base)) E inlX2 rfl 0 (by decide) w1_188 rfl hw h_mc rfl dX2_read_38 ?_
        refine k_div E dX2_read_41 (by omega) (by omega) (by omega) ?_
        refine lv_istore (lv' := [(4, .int (nI ((num / base ^ i) / base))), (3, .int (nI (go (wlk go base num i * base + num / base ^ i % base)))), (5, .int (nI i)), (0, .ref mc), (1, .int (nI num)), (2, .int (nI n))]) E.1.1 E.1.2.1 dX2_read_42 hl (by decide) rfl (fun ls hl => ?_)
        refine lv_iinc (v := nI (i + 1)) (lv' := [(5, .int (nI (i + 1))), (4, .int (nI ((num / base ^ i) / base))), (3, .int (nI (go (wlk go base num i * base + num / base ^ i % base)))), (0, .ref mc), (1, .int (nI num)), (2, .int (nI n))]) E.1.1 E.1.2.1 dX2_read_44 hl (k := 2) rfl (nI_1 _) (by decide) rfl (fun ls hl => ?_)
        refine lv_goto (tgt := 8) E.1.1 E.1.2.1 dX2_read_47 (by decide) ?_
        rw [Nat.div_div_eq_div_mul, ← Nat.pow_succ] at hl
        exact ih8  (i + 1) ls (by omega) (by omega) (hgo _ (ix3 hw2 hdm))  (lv_sub hl [0, 2, 1, 3, 4, 5] rfl)
  exact lp8 (n - 0 + 1) 0 ls (Nat.lt_succ_self _) (by omega) (h0)  (lv_sub hl [0, 2, 1, 3, 4, 5] rfl)

set_option maxHeartbeats 4000000 in
set_option maxRecDepth 100000 in
theorem c_afterAnyOf (l : Launch) (D : va_G) (cy : Nat → ClassId) (L : List Nat) (f : Nat → va_E) (sz : Nat) (mc gs base nf : Nat) (go : Nat → Nat) (gd : Nat → Bool) (hnf : nf ≤ 64) (hbase : 1 < base) (hbase5 : base ≤ 5) (hgo : ∀ k, k < nf * base → go k < nf) (x : Nat → Bool) (h_mc : cel L f mc (.inr (2, [.int (nI base), .int (nI nf), .ref gs, .long (lN (bsum gd nf))]))) (h_gs : cel L f gs (.inl (cy 0, nf * base, .inl (fun k => nI (go k))))) : Met l yX2_afterAnyOf (.code yX2_afterAnyOf cX2_afterAnyOf 7 (Option.some FieldType.long) :: wsL_law) { frames := 1, cells := 0, slots := 0, locals := 23 } (va_Pc [.ref mc, .long (lset x)] (PW D cy L f sz)) (vp_Sl (fun r => r = lset (acc x go base (nf * base)))) 0 0 (fun _ => False) := by
  refine m_start (by decide) (Nat.le_of_ble_eq_true rfl) ?_
  intro p e R Q s m args below meth c ls hsz hR hQ E hr hlk hnm hw hl
  have hl : lv_has ls 7 [(0, .ref mc), (1, .long (lset x))] := hl
  refine lv_lconst (v := 0) E.1.1 E.1.2.1 dX2_afterAnyOf_0 rfl ?_
  refine k_topl E (lset (acc x go base (0 * base))) (by rw [Nat.zero_mul, acc_0]; exact lset_0) ?_
  refine lv_lstore_n (lv' := [(3, .long (lset (acc x go base (0 * base)))), (0, .ref mc), (1, .long (lset x))]) E.1.1 E.1.2.1 dX2_afterAnyOf_1 rfl hl (by decide) rfl (fun ls hl => ?_)
  refine lv_iconst (v := nI 0) E.1.1 E.1.2.1 dX2_afterAnyOf_2 rfl ?_
  refine lv_istore (lv' := [(5, .int (nI 0)), (3, .long (lset (acc x go base (0 * base)))), (0, .ref mc), (1, .long (lset x))]) E.1.1 E.1.2.1 dX2_afterAnyOf_3 hl (by decide) rfl (fun ls hl => ?_)
  have lp5 : ∀ (k : Nat) (i : Nat) (ls : Array Slot), (nf - i < k) → (i ≤ nf) → (lv_has ls 7 [(5, .int (nI i)), (3, .long (lset (acc x go base (i * base)))), (0, .ref mc), (1, .long (lset x))]) → W p l e R s m args below meth c s.heap [] 0 0 Q (F0 m 5 ls []) := by
    intro k
    induction k with
    | zero => intro _ _ hk; exact absurd hk (Nat.not_lt_zero _)
    | succ k ih5 =>
      intro i  ls hk hi hl
      refine lv_iload E.1.1 E.1.2.1 dX2_afterAnyOf_5 (lv_at hl 0 rfl) ?_
      refine lv_aload_n E.1.1 E.1.2.1 dX2_afterAnyOf_7 rfl (lv_at hl 2 rfl) ?_
      refine k_get (v := .int (nI nf)) E inlX2 rfl 1 (by decide) w1_189 rfl hw h_mc rfl dX2_afterAnyOf_8 ?_
      refine k_ge (tgt := 62) E dX2_afterAnyOf_11 (by decide) (by omega) (by omega) (fun c11 => ?_) (fun c11 => ?_)
      · refine lv_lload_n E.1.1 E.1.2.1 dX2_afterAnyOf_62 rfl (lv_at hl 1 rfl) ?_
        exact k_lret E hQ hlk hr (by rw [show nf = i by omega]) dX2_afterAnyOf_63
      · refine lv_lload_n E.1.1 E.1.2.1 dX2_afterAnyOf_14 rfl (lv_at hl 3 rfl) ?_
        refine lv_iload E.1.1 E.1.2.1 dX2_afterAnyOf_15 (lv_at hl 0 rfl) ?_
        refine lv_lushr E.1.1 E.1.2.1 dX2_afterAnyOf_17 rfl ?_
        refine lv_lconst (v := 1) E.1.1 E.1.2.1 dX2_afterAnyOf_18 rfl ?_
        refine lv_land E.1.1 E.1.2.1 dX2_afterAnyOf_19 ?_
        refine lv_lconst (v := 0) E.1.1 E.1.2.1 dX2_afterAnyOf_20 rfl ?_
        refine W.lcmp E.1.1 E.1.2.1 dX2_afterAnyOf_21 ?_
        refine k_top E (b2i (x i)) (lset_bit (by omega)) ?_
        refine k_if0 (tgt := 56) E dX2_afterAnyOf_22 (by decide) (fun c22 => ?_) (fun c22 => ?_)
        · refine lv_iinc (v := nI (i + 1)) (lv' := [(5, .int (nI (i + 1))), (3, .long (lset (acc x go base (i * base)))), (0, .ref mc), (1, .long (lset x))]) E.1.1 E.1.2.1 dX2_afterAnyOf_56 hl (k := 0) rfl (nI_1 _) (by decide) rfl (fun ls hl => ?_)
          refine lv_goto (tgt := 5) E.1.1 E.1.2.1 dX2_afterAnyOf_59 (by decide) ?_
          rw [acc_skip (by omega) c22] at hl
          exact ih5  (i + 1) ls (by omega) (by omega)  (lv_sub hl [0, 1, 2, 3] rfl)
        · refine lv_iconst (v := nI 0) E.1.1 E.1.2.1 dX2_afterAnyOf_25 rfl ?_
          refine lv_istore (lv' := [(6, .int (nI 0)), (5, .int (nI i)), (3, .long (lset (acc x go base (i * base)))), (0, .ref mc), (1, .long (lset x))]) E.1.1 E.1.2.1 dX2_afterAnyOf_26 hl (by decide) rfl (fun ls hl => ?_)
          have lp28 : ∀ (k : Nat) (dg : Nat) (ls : Array Slot), (base - dg < k) → (dg ≤ base) → (lv_has ls 7 [(6, .int (nI dg)), (5, .int (nI i)), (3, .long (lset (acc x go base (i * base + dg)))), (0, .ref mc), (1, .long (lset x))]) → W p l e R s m args below meth c s.heap [] 0 0 Q (F0 m 28 ls []) := by
            intro k
            induction k with
            | zero => intro _ _ hk; exact absurd hk (Nat.not_lt_zero _)
            | succ k ih28 =>
              intro dg  ls hk hdg hl
              refine lv_iload E.1.1 E.1.2.1 dX2_afterAnyOf_28 (lv_at hl 0 rfl) ?_
              refine lv_aload_n E.1.1 E.1.2.1 dX2_afterAnyOf_30 rfl (lv_at hl 3 rfl) ?_
              refine k_get (v := .int (nI base)) E inlX2 rfl 0 (by decide) w1_188 rfl hw h_mc rfl dX2_afterAnyOf_31 ?_
              refine k_ge (tgt := 56) E dX2_afterAnyOf_34 (by decide) (by omega) (by omega) (fun c34 => ?_) (fun c34 => ?_)
              · refine lv_iinc (v := nI (i + 1)) (lv' := [(5, .int (nI (i + 1))), (6, .int (nI dg)), (3, .long (lset (acc x go base (i * base + dg)))), (0, .ref mc), (1, .long (lset x))]) E.1.1 E.1.2.1 dX2_afterAnyOf_56 hl (k := 1) rfl (nI_1 _) (by decide) rfl (fun ls hl => ?_)
                refine lv_goto (tgt := 5) E.1.1 E.1.2.1 dX2_afterAnyOf_59 (by decide) ?_
                rw [show i * base + dg = (i + 1) * base by rw [Nat.succ_mul, show dg = base by omega]] at hl
                exact ih5  (i + 1) ls (by omega) (by omega)  (lv_sub hl [0, 2, 3, 4] rfl)
              · have hgk := hgo _ (ix3 (d := dg) (show i < nf by omega) (by omega))
                refine lv_lload_n E.1.1 E.1.2.1 dX2_afterAnyOf_37 rfl (lv_at hl 2 rfl) ?_
                refine lv_lconst (v := 1) E.1.1 E.1.2.1 dX2_afterAnyOf_38 rfl ?_
                refine lv_aload_n E.1.1 E.1.2.1 dX2_afterAnyOf_39 rfl (lv_at hl 3 rfl) ?_
                refine lv_iload E.1.1 E.1.2.1 dX2_afterAnyOf_40 (lv_at hl 1 rfl) ?_
                refine lv_iload E.1.1 E.1.2.1 dX2_afterAnyOf_42 (lv_at hl 0 rfl) ?_
                refine k_ri (va_runV (As := [.int (nI i), .int (nI dg)]) (rest := [.long 1, .long (lset (acc x go base (i * base + dg)))]) E.1 (c_after l D cy L f s.heap.size mc gs base nf i dg go gd hnf hbase hbase5 (by omega) (by omega) h_mc h_gs) ⟨callB_of 2 E.1.2.2.2.2 (gd_own w2_125) rfl rfl rfl (E.1.2.2.2.2 _ w1_9) (E.1.2.2.2.2 _ w2_141) hd_X2_after (by rw [hR]; exact ⟨Nat.le_of_ble_eq_true rfl, Nat.le_of_ble_eq_true rfl⟩), E.1.2.2.2.2 _ w2_123, E.1.2.2.2.2 _ w2_124⟩ (pw_preV (q := (RX2, TX2, 4)) E.2 hw h_mc rfl) rfl rfl hl.1 rfl (lv_room (Nat.le_of_ble_eq_true rfl)) dX2_afterAnyOf_44 ⟨Nat.zero_le _, Nat.zero_le _⟩) ?_
                refine lv_lshl E.1.1 E.1.2.1 dX2_afterAnyOf_47 rfl ?_
                refine lv_lor E.1.1 E.1.2.1 dX2_afterAnyOf_48 ?_
                refine k_topl E (lset (acc x go base (i * base + dg + 1))) (by rw [lset_or1 (by omega), acc_s (by rw [ix1 (by omega)]; exact c22)]) ?_
                refine lv_lstore_n (lv' := [(3, .long (lset (acc x go base (i * base + dg + 1)))), (6, .int (nI dg)), (5, .int (nI i)), (0, .ref mc), (1, .long (lset x))]) E.1.1 E.1.2.1 dX2_afterAnyOf_49 rfl hl (by decide) rfl (fun ls hl => ?_)
                refine lv_iinc (v := nI (dg + 1)) (lv' := [(6, .int (nI (dg + 1))), (3, .long (lset (acc x go base (i * base + dg + 1)))), (5, .int (nI i)), (0, .ref mc), (1, .long (lset x))]) E.1.1 E.1.2.1 dX2_afterAnyOf_50 hl (k := 1) rfl (nI_1 _) (by decide) rfl (fun ls hl => ?_)
                refine lv_goto (tgt := 28) E.1.1 E.1.2.1 dX2_afterAnyOf_53 (by decide) ?_
                exact ih28  (dg + 1) ls (by omega) (by omega)  (lv_sub hl [0, 2, 1, 3, 4] rfl)
          exact lp28 (base - 0 + 1) 0 ls (Nat.lt_succ_self _) (by omega)  (lv_sub hl [0, 1, 2, 3, 4] rfl)
  exact lp5 (nf - 0 + 1) 0 ls (Nat.lt_succ_self _) (by omega)  (lv_sub hl [0, 1, 2, 3] rfl)

set_option maxHeartbeats 4000000 in
set_option maxRecDepth 100000 in
theorem c_steps (l : Launch) (D : va_G) (cy : Nat → ClassId) (L : List Nat) (f : Nat → va_E) (sz : Nat) (mc gs base nf : Nat) (go : Nat → Nat) (gd : Nat → Bool) (hnf : nf ≤ 64) (hbase : 1 < base) (hbase5 : base ≤ 5) (hgo : ∀ k, k < nf * base → go k < nf) (x y : Nat → Bool) (h_mc : cel L f mc (.inr (2, [.int (nI base), .int (nI nf), .ref gs, .long (lN (bsum gd nf))]))) (h_gs : cel L f gs (.inl (cy 0, nf * base, .inl (fun k => nI (go k))))) : Met l yX2_steps (.code yX2_steps cX2_steps 8 (Option.some FieldType.int) :: wsL_law) { frames := 2, cells := 0, slots := 0, locals := 49 } (va_Pc [.ref mc, .long (lset x), .long (lset y)] (PW D cy L f sz)) (vp_Si (fun r => r = stp x y go base nf)) 0 0 (fun _ => False) := by
  refine m_start (by decide) (Nat.le_of_ble_eq_true rfl) ?_
  intro p e R Q s m args below meth c ls hsz hR hQ E hr hlk hnm hw hl
  have hl : lv_has ls 8 [(0, .ref mc), (1, .long (lset x)), (3, .long (lset y))] := hl
  refine lv_lload_n E.1.1 E.1.2.1 dX2_steps_0 rfl (lv_at hl 1 rfl) ?_
  refine lv_lstore (lv' := [(5, .long (lset x)), (0, .ref mc), (1, .long (lset x)), (3, .long (lset y))]) E.1.1 E.1.2.1 dX2_steps_1 hl (by decide) rfl (fun ls hl => ?_)
  refine lv_iconst (v := nI 0) E.1.1 E.1.2.1 dX2_steps_3 rfl ?_
  refine lv_istore (lv' := [(7, .int (nI 0)), (5, .long (lset x)), (0, .ref mc), (1, .long (lset x)), (3, .long (lset y))]) E.1.1 E.1.2.1 dX2_steps_4 hl (by decide) rfl (fun ls hl => ?_)
  have lp6 : ∀ (k : Nat) (i : Nat) (ls : Array Slot), (64 - i < k) → (i ≤ 64) → (∀ j, j < i → dB (∃ a, a < 64 ∧ rch x go base nf j a = true ∧ y a = true) = false) → (lv_has ls 8 [(7, .int (nI i)), (5, .long (lset (rch x go base nf i))), (0, .ref mc), (1, .long (lset x)), (3, .long (lset y))]) → W p l e R s m args below meth c s.heap [] 0 0 Q (F0 m 6 ls []) := by
    intro k
    induction k with
    | zero => intro _ _ hk; exact absurd hk (Nat.not_lt_zero _)
    | succ k ih6 =>
      intro i  ls hk hi hg hl
      refine lv_iload E.1.1 E.1.2.1 dX2_steps_6 (lv_at hl 0 rfl) ?_
      refine lv_bipush (v := nI 64) E.1.1 E.1.2.1 dX2_steps_8 rfl ?_
      refine k_ge (tgt := 42) E dX2_steps_10 (by decide) (by omega) (by omega) (fun c10 => ?_) (fun c10 => ?_)
      · refine lv_bipush (v := -6) E.1.1 E.1.2.1 dX2_steps_42 rfl ?_
        exact k_iret E hQ hlk hr (by rw [stp_no (fun j hj => hg j (by omega))]) dX2_steps_44
      · refine lv_lload E.1.1 E.1.2.1 dX2_steps_13 (lv_at hl 1 rfl) ?_
        refine lv_lload_n E.1.1 E.1.2.1 dX2_steps_15 rfl (lv_at hl 4 rfl) ?_
        refine lv_land E.1.1 E.1.2.1 dX2_steps_16 ?_
        refine lv_lconst (v := 0) E.1.1 E.1.2.1 dX2_steps_17 rfl ?_
        refine W.lcmp E.1.1 E.1.2.1 dX2_steps_18 ?_
        refine lv_if_eq (tgt := 25) E.1.1 E.1.2.1 dX2_steps_19 (by decide) (fun c19 => ?_) (fun c19 => ?_)
        · refine lv_lload E.1.1 E.1.2.1 dX2_steps_25 (lv_at hl 1 rfl) ?_
          refine lv_aload_n E.1.1 E.1.2.1 dX2_steps_27 rfl (lv_at hl 2 rfl) ?_
          refine lv_lload E.1.1 E.1.2.1 dX2_steps_28 (lv_at hl 1 rfl) ?_
          refine k_rl (va_runV (As := [.long (lset (rch x go base nf i))]) (rest := [.long (lset (rch x go base nf i))]) E.1 (c_afterAnyOf l D cy L f s.heap.size mc gs base nf go gd hnf hbase hbase5 hgo (rch x go base nf i) h_mc h_gs) ⟨callB_of 1 E.1.2.2.2.2 (gd_own w2_140) rfl rfl rfl (E.1.2.2.2.2 _ w1_9) (E.1.2.2.2.2 _ w2_137) hd_X2_afterAnyOf (by rw [hR]; exact ⟨Nat.le_of_ble_eq_true rfl, Nat.le_of_ble_eq_true rfl⟩), E.1.2.2.2.2 _ w2_139, E.1.2.2.2.2 _ ws_18⟩ (pw_preV (q := (RX2, TX2, 4)) E.2 hw h_mc rfl) rfl rfl hl.1 rfl (lv_room (Nat.le_of_ble_eq_true rfl)) dX2_steps_30 ⟨Nat.zero_le _, Nat.zero_le _⟩) ?_
          refine lv_lor E.1.1 E.1.2.1 dX2_steps_33 ?_
          refine k_topl E (lset (fun j => rch x go base nf i j || acc (rch x go base nf i) go base (nf * base) j)) lset_or ?_
          refine lv_lstore (lv' := [(5, .long (lset (fun j => rch x go base nf i j || acc (rch x go base nf i) go base (nf * base) j))), (7, .int (nI i)), (0, .ref mc), (1, .long (lset x)), (3, .long (lset y))]) E.1.1 E.1.2.1 dX2_steps_34 hl (by decide) rfl (fun ls hl => ?_)
          refine lv_iinc (v := nI (i + 1)) (lv' := [(7, .int (nI (i + 1))), (5, .long (lset (fun j => rch x go base nf i j || acc (rch x go base nf i) go base (nf * base) j))), (0, .ref mc), (1, .long (lset x)), (3, .long (lset y))]) E.1.1 E.1.2.1 dX2_steps_36 hl (k := 1) rfl (nI_1 _) (by decide) rfl (fun ls hl => ?_)
          refine lv_goto (tgt := 6) E.1.1 E.1.2.1 dX2_steps_39 (by decide) ?_
          rw [show (fun j => rch x go base nf i j || acc (rch x go base nf i) go base (nf * base) j) = rch x go base nf (i + 1) from rfl] at hl
          exact ih6  (i + 1) ls (by omega) (by omega) (lt_s hg (dB_f (lset_cmp.mp c19)))  (lv_sub hl [0, 1, 2, 3, 4] rfl)
        · refine lv_iload E.1.1 E.1.2.1 dX2_steps_22 (lv_at hl 0 rfl) ?_
          exact k_iret E hQ hlk hr (by rw [stp_at hg c10 (Classical.not_not.mp (fun z => c19 (lset_cmp.mpr z)))]) dX2_steps_24
  exact lp6 (64 - 0 + 1) 0 ls (Nat.lt_succ_self _) (by omega) (fun j hj => absurd hj (by omega))  (lv_sub hl [0, 1, 2, 3, 4] rfl)

set_option maxHeartbeats 4000000 in
set_option maxRecDepth 100000 in
theorem c_leastCommon (l : Launch) (D : va_G) (cy : Nat → ClassId) (L : List Nat) (f : Nat → va_E) (sz : Nat) (x y : Nat) (hx : 0 < x) (hx2 : x ≤ 60) (hy : 0 < y) (hy2 : y ≤ 60) : Met l yX5_leastCommon (.code yX5_leastCommon cX5_leastCommon 3 (Option.some FieldType.int) :: wsL_law) { frames := 0, cells := 0, slots := 0, locals := 0 } (va_Pc [.int (nI x), .int (nI y)] (PW D cy L f sz)) (vp_Si (fun r => ∃ z, r = nI z ∧ 0 < z ∧ z ≤ 3600 ∧ x ∣ z ∧ y ∣ z)) 0 0 (fun _ => False) := by
  refine m_start (by decide) (Nat.le_of_ble_eq_true rfl) ?_
  intro p e R Q s m args below meth c ls hsz hR hQ E hr hlk hnm hw hl
  have hl : lv_has ls 3 [(0, .int (nI x)), (1, .int (nI y))] := hl
  refine lv_iload_n E.1.1 E.1.2.1 dX5_leastCommon_0 rfl (lv_at hl 0 rfl) ?_
  refine lv_iconst (v := nI 1) E.1.1 E.1.2.1 dX5_leastCommon_1 rfl ?_
  refine k_lt (tgt := 10) E dX5_leastCommon_2 (by decide) (by omega) (by omega) (fun c2 => absurd c2 (by omega)) (fun c2 => ?_)
  refine lv_iload_n E.1.1 E.1.2.1 dX5_leastCommon_5 rfl (lv_at hl 1 rfl) ?_
  refine lv_iconst (v := nI 1) E.1.1 E.1.2.1 dX5_leastCommon_6 rfl ?_
  refine k_ge (tgt := 12) E dX5_leastCommon_7 (by decide) (by omega) (by omega) (fun c7 => ?_) (fun c7 => absurd c7 (by omega))
  refine lv_iconst (v := nI 1) E.1.1 E.1.2.1 dX5_leastCommon_12 rfl ?_
  refine lv_istore_n (lv' := [(2, .int (nI 1)), (0, .int (nI x)), (1, .int (nI y))]) E.1.1 E.1.2.1 dX5_leastCommon_13 rfl hl (by decide) rfl (fun ls hl => ?_)
  have lp14 : ∀ (k : Nat) (i : Nat) (ls : Array Slot), (y - i < k) → (1 ≤ i) → (i ≤ y) → (lv_has ls 3 [(2, .int (nI i)), (0, .int (nI x)), (1, .int (nI y))]) → W p l e R s m args below meth c s.heap [] 0 0 Q (F0 m 14 ls []) := by
    intro k
    induction k with
    | zero => intro _ _ hk; exact absurd hk (Nat.not_lt_zero _)
    | succ k ih14 =>
      intro i  ls hk hi hi2 hl
      refine lv_iload_n E.1.1 E.1.2.1 dX5_leastCommon_14 rfl (lv_at hl 0 rfl) ?_
      refine lv_iload_n E.1.1 E.1.2.1 dX5_leastCommon_15 rfl (lv_at hl 2 rfl) ?_
      refine k_ge (tgt := 37) E dX5_leastCommon_16 (by decide) (by omega) (by omega) (fun c16 => ?_) (fun c16 => ?_)
      · have hxy : x * y ≤ 60 * 60 := Nat.mul_le_mul hx2 hy2
        have hxy0 : 0 < x * y := Nat.mul_pos hx hy
        refine lv_iload_n E.1.1 E.1.2.1 dX5_leastCommon_37 rfl (lv_at hl 1 rfl) ?_
        refine lv_iload_n E.1.1 E.1.2.1 dX5_leastCommon_38 rfl (lv_at hl 2 rfl) ?_
        refine k_mul E dX5_leastCommon_39 ?_
        exact k_iret E hQ hlk hr (⟨x * y, rfl, hxy0, by omega, Nat.dvd_mul_right x y, Nat.dvd_mul_left y x⟩) dX5_leastCommon_40
      · have hxi : x * i ≤ 60 * 60 := Nat.mul_le_mul hx2 (by omega)
        have hxi0 : 0 < x * i := Nat.mul_pos hx (by omega)
        have hmod := Nat.mod_lt (x * i) hy
        refine lv_iload_n E.1.1 E.1.2.1 dX5_leastCommon_19 rfl (lv_at hl 1 rfl) ?_
        refine lv_iload_n E.1.1 E.1.2.1 dX5_leastCommon_20 rfl (lv_at hl 0 rfl) ?_
        refine k_mul E dX5_leastCommon_21 ?_
        refine lv_iload_n E.1.1 E.1.2.1 dX5_leastCommon_22 rfl (lv_at hl 2 rfl) ?_
        refine k_rem E dX5_leastCommon_23 (by omega) (by omega) (by omega) ?_
        refine k_z1 (tgt := 31) E dX5_leastCommon_24 (by decide) (by omega) (fun c24 => ?_) (fun c24 => ?_)
        · refine lv_iinc (v := nI (i + 1)) (lv' := [(2, .int (nI (i + 1))), (0, .int (nI x)), (1, .int (nI y))]) E.1.1 E.1.2.1 dX5_leastCommon_31 hl (k := 0) rfl (nI_1 _) (by decide) rfl (fun ls hl => ?_)
          refine lv_goto (tgt := 14) E.1.1 E.1.2.1 dX5_leastCommon_34 (by decide) ?_
          exact ih14  (i + 1) ls (by omega) (by omega) (by omega)  (lv_sub hl [0, 1, 2] rfl)
        · refine lv_iload_n E.1.1 E.1.2.1 dX5_leastCommon_27 rfl (lv_at hl 1 rfl) ?_
          refine lv_iload_n E.1.1 E.1.2.1 dX5_leastCommon_28 rfl (lv_at hl 0 rfl) ?_
          refine k_mul E dX5_leastCommon_29 ?_
          exact k_iret E hQ hlk hr (⟨x * i, rfl, hxi0, by omega, Nat.dvd_mul_right x i, Nat.dvd_of_mod_eq_zero c24⟩) dX5_leastCommon_30
  exact lp14 (y - 1 + 1) 1 ls (Nat.lt_succ_self _) (by omega) (by omega)  (lv_sub hl [0, 1, 2] rfl)
