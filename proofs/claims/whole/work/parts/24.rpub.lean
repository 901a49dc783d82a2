theorem nbS {x : Int32} (h : (!(i32in x 0 (nI 5))) = true) : inS x = false := nb h
theorem tab_out {x : Int32} {n : Nat} (hn : n < 2147483647) (h : i32in x 0 (nI n) = false) : x.toInt < 0 ∨ (n : Int) < x.toInt := by
  unfold i32in at h
  rw [Bool.and_eq_false_iff, decide_eq_false_iff_not, decide_eq_false_iff_not, i32_le, i32_le, nI_t (by omega)] at h
  have e0 : (0 : Int32).toInt = 0 := rfl
  rcases h with h | h <;> omega
theorem sg_l {i : Nat} (hi : i < 64) : lN (2 ^ (i % 64)) = lset (sg i) := by
  unfold lset
  congr 1
  apply bsum_ext
  · exact Nat.pow_lt_pow_right (by decide) (by omega)
  · intro j hj
    rw [Nat.mod_eq_of_lt hi, two_tb]
    unfold sg
    by_cases h : j = i
    · simp [h]
    · simp [h, show ¬ i = j by omega]
theorem one_sg : (1 : Int64) = lset (sg 0) := sg_l (i := 0) (by decide)
theorem shl_sg {i : Nat} (hi : i < 64) : (1 : Int64) <<< ((nI i).toInt64 &&& 63) = lset (sg i) := by rw [one_shl (by omega), sg_l hi]
theorem good_l {g : Nat → Bool} {n : Nat} (hn : n ≤ 64) : lN (bsum g n) = lset (gq g n) := by
  unfold lset
  congr 1
  apply bsum_ext (Nat.lt_of_lt_of_le (bsum_lt g n) (Nat.pow_le_pow_right (by decide) hn))
  intro j hj
  rw [bsum_test]
  rfl
theorem ev_all {X : Nat → Bool} {T z : Nat} (hz : 0 < z) (hE : EvP X T z) (h : ∀ n, n < T + z → X n = false) : ∀ n, X n = false := by
  intro n
  by_cases hn : n < T + z
  · exact h n hn
  · have hl := Nat.mod_lt (n - T) hz
    rw [hE.back hz (show T ≤ n by omega)]
    exact h _ (by omega)
theorem lfrom_LI {X : Nat → Bool} {T z : Nat} (hz : 0 < z) (hw : T + z < 1000000) (hE : EvP X T z) : LI X (lfrom X (T + z) 0) := by
  have e : (fun k => X (0 + k)) = X := funext (fun k => by rw [Nat.zero_add])
  unfold lfrom
  rw [e]
  by_cases h : fa_first X (T + z) < T + z
  · rw [if_pos h, Nat.zero_add]
    exact Or.inr ⟨_, by omega, rfl, fa_first_yes X _ h, fun j hj => fa_first_no X _ j hj⟩
  · rw [if_neg h]
    have hl := fa_first_le X (T + z)
    exact Or.inl ⟨rfl, ev_all hz hE (fun n hn => fa_first_no X (T + z) n (by omega))⟩
theorem nI_ne6 {n : Nat} (h : n < 1000000) : nI n ≠ -6 := by
  intro e
  have h1 := congrArg Int32.toInt e
  rw [nI_t (by omega)] at h1
  have e6 : (-6 : Int32).toInt = -6 := by decide
  omega
theorem LI.none {X : Nat → Bool} {r : Int32} (h : LI X r) : r = -6 ↔ ∀ n, X n = false := by
  rcases h with ⟨h1, h2⟩ | ⟨n, h0, h1, h2, h3⟩
  · exact ⟨fun _ => h2, fun _ => h1⟩
  · constructor
    · intro e; exact absurd (h1.symm.trans e) (nI_ne6 h0)
    · intro e; rw [e n] at h2; cases h2
theorem LI.uni {X : Nat → Bool} {r r' : Int32} (h : LI X r) (h' : LI X r') : r = r' := by
  rcases h with ⟨h1, h2⟩ | ⟨n, h0, h1, h2, h3⟩ <;> rcases h' with ⟨g1, g2⟩ | ⟨k, g0, g1, g2, g3⟩
  · rw [h1, g1]
  · rw [h2 k] at g2; cases g2
  · rw [g2 n] at h2; cases h2
  · rcases Nat.lt_trichotomy n k with z | z | z
    · rw [g3 n z] at h2; cases h2
    · rw [h1, g1, z]
    · rw [h3 k z] at g2; cases g2
theorem same_iff {S T : Nat → Bool} {t q t2 q2 : Nat} {b b2 : Nat → Bool} (h : SetIs S t q b) (h2 : SetIs T t2 q2 b2) : (t = t2 ∧ q = q2 ∧ SameR b b2) ↔ S = T := by
  constructor
  · rintro ⟨rfl, rfl, hs⟩
    funext n
    have hl := fold_lt (t := t) (n := n) h.1.1
    have h3 := h.2.1
    have h4 := h.2.2.1
    rw [h.den, h2.den]
    exact hs _ (by omega)
  · intro e
    subst e
    exact h.uni h2
theorem dB_cong {p q : Prop} (h : p ↔ q) : dB p = dB q := by rw [propext h]
theorem has_any {S : Nat → Bool} {t q : Nat} (h : Canon S t q) (hw : t + q < 1000000) : lfrom S (t + q) 0 = -6 ↔ ¬ ∃ n, S n = true := by
  rw [(lfrom_LI h.1 hw h.2.1).none]
  constructor
  · rintro h1 ⟨n, hn⟩; rw [h1 n] at hn; cases hn
  · intro h1 n
    cases hs : S n
    · rfl
    · exact absurd ⟨n, hs⟩ h1
theorem nn_ex {base : Nat} {SS : Nat → Nat → Bool} (h : ∀ j, j < 6 → ∃ n, MchOf (SS j) base n) : ∃ nn : Nat → Nat, ∀ j, j < 6 → MchOf (SS j) base (nn j) := by
  obtain ⟨n0, h0⟩ := h 0 (by decide)
  obtain ⟨n1, h1⟩ := h 1 (by decide)
  obtain ⟨n2, h2⟩ := h 2 (by decide)
  obtain ⟨n3, h3⟩ := h 3 (by decide)
  obtain ⟨n4, h4⟩ := h 4 (by decide)
  obtain ⟨n5, h5⟩ := h 5 (by decide)
  refine ⟨fun j => if j = 0 then n0 else if j = 1 then n1 else if j = 2 then n2 else if j = 3 then n3 else if j = 4 then n4 else n5, fun j hj => ?_⟩
  rcases (show j = 0 ∨ j = 1 ∨ j = 2 ∨ j = 3 ∨ j = 4 ∨ j = 5 by omega) with rfl | rfl | rfl | rfl | rfl | rfl
  · exact h0
  · exact h1
  · exact h2
  · exact h3
  · exact h4
  · exact h5
set_option maxHeartbeats 4000000 in
set_option maxRecDepth 100000 in
theorem p_has (l : Launch) (D : va_G) (cy : Nat → ClassId) (L : List Nat) (f : Nat → va_E) (sz : Nat) (M : List Nat) (A : Nat → Nat) (base : Nat) (SS : Nat → Nat → Bool) (kp : Nat → Bool) (kb : Nat → Nat) (KS : Nat → Nat → Nat → Bool) (hA : AdOK L M A) (hN : NmW cy L f M A base SS kp kb KS) (slot num : Int32) : Met l yX5_has (.code yX5_has cX5_has 3 (Option.some FieldType.int) :: wsL_law) { frames := 3, cells := 0, slots := 0, locals := 64 } (va_Pc [.ref (A 0), .int slot, .int num] (PW D cy L f sz)) (vp_Si (fun r => rd_has SS slot num r)) 0 0 (fun _ => False) := by
  refine m_start (by decide) (Nat.le_of_ble_eq_true rfl) ?_
  intro p e R Q s m args below meth c ls hsz hR hQ E hr hlk hnm hw hl
  have hl : lv_has ls 3 [(0, .ref (A 0)), (1, .int slot), (2, .int num)] := hl
  obtain ⟨hB, h_nm, ⟨sa, h_sl, hSl⟩, ⟨i1, i2, j1, j2, j3, j4, g, B0, G0, h_d, h_row, h_tr, h_rows, h_goes⟩, hRm⟩ := hN
  have hb2 := hB.two
  refine lv_aload_n E.1.1 E.1.2.1 dX5_has_0 rfl (lv_at hl 0 rfl) ?_
  refine lv_iload_n E.1.1 E.1.2.1 dX5_has_1 rfl (lv_at hl 1 rfl) ?_
  refine k_ri (va_runV (As := [.int slot]) (rest := []) E.1 (c_unknown l D cy L f s.heap.size (A 0) (A 1) (A 2) (A 3) (A 5) base sa slot h_nm h_sl) ⟨callB_of 1 E.1.2.2.2.2 (gd_own w2_18) rfl rfl rfl (E.1.2.2.2.2 _ w1_1) (E.1.2.2.2.2 _ w2_15) hd_X5_unknown (by rw [hR]; exact ⟨Nat.le_of_ble_eq_true rfl, Nat.le_of_ble_eq_true rfl⟩), E.1.2.2.2.2 _ w2_17, E.1.2.2.2.2 _ ws_9⟩ (pw_preV (q := (RX5, TX5, 5)) E.2 hw h_nm rfl) rfl rfl hl.1 rfl (lv_room (Nat.le_of_ble_eq_true rfl)) dX5_has_2 ⟨Nat.zero_le _, Nat.zero_le _⟩) ?_
  refine k_if0 (tgt := 10) E dX5_has_5 (by decide) (fun c5 => ?_) (fun c5 => ?_)
  · obtain ⟨j, hj, rfl⟩ := inS_ex c5
    refine lv_iload_n E.1.1 E.1.2.1 dX5_has_10 rfl (lv_at hl 2 rfl) ?_
    refine lv_iconst (v := nI 0) E.1.1 E.1.2.1 dX5_has_11 rfl ?_
    refine lv_ldc (v := nI 1000000000) E.1.1 E.1.2.1 E.1.2.2.2.1 (E.1.2.2.2.2 _ w2_154) dX5_has_12 ?_
    refine k_ri (va_runS (As := [.int num, .int (nI 0), .int (nI 1000000000)]) (rest := []) E.1 (c_within l D cy L f s.heap.size num (nI 0) (nI 1000000000)) ⟨callB_of 3 E.1.2.2.2.2 (gd_own w2_21) rfl rfl rfl (E.1.2.2.2.2 _ w1_1) (E.1.2.2.2.2 _ w2_19) hd_X5_within (by rw [hR]; exact ⟨Nat.le_of_ble_eq_true rfl, Nat.le_of_ble_eq_true rfl⟩), E.1.2.2.2.2 _ w2_20⟩ (pw_pre E.2 hw) rfl rfl hl.1 rfl (lv_room (Nat.le_of_ble_eq_true rfl)) dX5_has_14 ⟨Nat.zero_le _, Nat.zero_le _⟩) ?_
    refine k_if1 (tgt := 23) E dX5_has_17 (by decide) (fun c17 => ?_) (fun c17 => ?_)
    · obtain ⟨x, hx, rfl⟩ := in_ex (by decide) c17
      obtain ⟨t, per, b, n, hS, hMc, rw, mc, gs, m1, m2, m3, m4, h_a, h_rw, h_mc, h_gs⟩ := hSl j (by omega)
      have ht := hS.2.2.1
      have hper := hS.1.1
      have hperx := hS.2.1
      have hden : den t per b = SS j := funext (fun n => (hS.den n).symm)
      refine lv_aload_n E.1.1 E.1.2.1 dX5_has_23 rfl (lv_at hl 0 rfl) ?_
      refine k_get (v := .ref (A 1)) E inlX5 rfl 0 (by decide) w1_231 rfl hw h_nm rfl dX5_has_24 ?_
      refine lv_iload_n E.1.1 E.1.2.1 dX5_has_27 rfl (lv_at hl 1 rfl) ?_
      refine k_aald E hw 4 (r := sa j) h_sl rfl (by omega) (by omega) (rfl) dX5_has_28 ?_
      refine lv_iload_n E.1.1 E.1.2.1 dX5_has_29 rfl (lv_at hl 2 rfl) ?_
      refine k_ri (va_runV (As := [.int (nI x)]) (rest := []) E.1 (c_holds l D cy L f s.heap.size (sa j) rw mc t per x b ht hper hperx (by omega) h_a h_rw) ⟨callB_of 1 E.1.2.2.2.2 (gd_own w2_81) rfl rfl rfl (E.1.2.2.2.2 _ w1_8) (E.1.2.2.2.2 _ w2_78) hd_X3_holds (by rw [hR]; exact ⟨Nat.le_of_ble_eq_true rfl, Nat.le_of_ble_eq_true rfl⟩), E.1.2.2.2.2 _ w2_79, E.1.2.2.2.2 _ w2_80⟩ (pw_preV (q := (RX3, TX3, 4)) E.2 hw h_a rfl) rfl rfl hl.1 rfl (lv_room (Nat.le_of_ble_eq_true rfl)) dX5_has_30 ⟨Nat.zero_le _, Nat.zero_le _⟩) ?_
      refine k_ri (va_runS (As := [.int (b2i (den t per b x))]) (rest := []) E.1 (c_truth l D cy L f s.heap.size (den t per b x)) ⟨callB_of 1 E.1.2.2.2.2 (gd_own w2_132) rfl rfl rfl (E.1.2.2.2.2 _ w1_1) (E.1.2.2.2.2 _ w2_130) hd_X5_truth (by rw [hR]; exact ⟨Nat.le_of_ble_eq_true rfl, Nat.le_of_ble_eq_true rfl⟩), E.1.2.2.2.2 _ w2_131⟩ (pw_pre E.2 hw) rfl rfl hl.1 rfl (lv_room (Nat.le_of_ble_eq_true rfl)) dX5_has_33 ⟨Nat.zero_le _, Nat.zero_le _⟩) ?_
      exact k_iret E hQ hlk hr (by unfold rd_has; rw [if_neg (inS_t hj), if_neg (by rw [in_t (by decide) hx]; decide), ix_nI (by omega), ix_nI (by omega)]; exact by rw [hden]) dX5_has_36
    · refine lv_bipush (v := -2) E.1.1 E.1.2.1 dX5_has_20 rfl ?_
      exact k_iret E hQ hlk hr (by unfold rd_has; rw [if_neg (inS_t hj), if_pos (show i32in _ 0 _ = false from c17)]) dX5_has_22
  · refine lv_iconst (v := -1) E.1.1 E.1.2.1 dX5_has_8 rfl ?_
    exact k_iret E hQ hlk hr (by unfold rd_has; rw [if_pos (nbS c5)]) dX5_has_9

set_option maxHeartbeats 4000000 in
set_option maxRecDepth 100000 in
theorem p_next (l : Launch) (D : va_G) (cy : Nat → ClassId) (L : List Nat) (f : Nat → va_E) (sz : Nat) (M : List Nat) (A : Nat → Nat) (base : Nat) (SS : Nat → Nat → Bool) (kp : Nat → Bool) (kb : Nat → Nat) (KS : Nat → Nat → Nat → Bool) (hA : AdOK L M A) (hN : NmW cy L f M A base SS kp kb KS) (slot num : Int32) : Met l yX5_next (.code yX5_next cX5_next 3 (Option.some FieldType.int) :: wsL_law) { frames := 4, cells := 0, slots := 0, locals := 86 } (va_Pc [.ref (A 0), .int slot, .int num] (PW D cy L f sz)) (vp_Si (fun r => rd_next SS slot num r)) 0 0 (fun _ => False) := by
  refine m_start (by decide) (Nat.le_of_ble_eq_true rfl) ?_
  intro p e R Q s m args below meth c ls hsz hR hQ E hr hlk hnm hw hl
  have hl : lv_has ls 3 [(0, .ref (A 0)), (1, .int slot), (2, .int num)] := hl
  obtain ⟨hB, h_nm, ⟨sa, h_sl, hSl⟩, ⟨i1, i2, j1, j2, j3, j4, g, B0, G0, h_d, h_row, h_tr, h_rows, h_goes⟩, hRm⟩ := hN
  have hb2 := hB.two
  refine lv_aload_n E.1.1 E.1.2.1 dX5_next_0 rfl (lv_at hl 0 rfl) ?_
  refine lv_iload_n E.1.1 E.1.2.1 dX5_next_1 rfl (lv_at hl 1 rfl) ?_
  refine k_ri (va_runV (As := [.int slot]) (rest := []) E.1 (c_unknown l D cy L f s.heap.size (A 0) (A 1) (A 2) (A 3) (A 5) base sa slot h_nm h_sl) ⟨callB_of 1 E.1.2.2.2.2 (gd_own w2_18) rfl rfl rfl (E.1.2.2.2.2 _ w1_1) (E.1.2.2.2.2 _ w2_15) hd_X5_unknown (by rw [hR]; exact ⟨Nat.le_of_ble_eq_true rfl, Nat.le_of_ble_eq_true rfl⟩), E.1.2.2.2.2 _ w2_17, E.1.2.2.2.2 _ ws_9⟩ (pw_preV (q := (RX5, TX5, 5)) E.2 hw h_nm rfl) rfl rfl hl.1 rfl (lv_room (Nat.le_of_ble_eq_true rfl)) dX5_next_2 ⟨Nat.zero_le _, Nat.zero_le _⟩) ?_
  refine k_if0 (tgt := 10) E dX5_next_5 (by decide) (fun c5 => ?_) (fun c5 => ?_)
  · obtain ⟨j, hj, rfl⟩ := inS_ex c5
    refine lv_iload_n E.1.1 E.1.2.1 dX5_next_10 rfl (lv_at hl 2 rfl) ?_
    refine lv_iconst (v := nI 0) E.1.1 E.1.2.1 dX5_next_11 rfl ?_
    refine lv_ldc (v := nI 1000000000) E.1.1 E.1.2.1 E.1.2.2.2.1 (E.1.2.2.2.2 _ w2_154) dX5_next_12 ?_
    refine k_ri (va_runS (As := [.int num, .int (nI 0), .int (nI 1000000000)]) (rest := []) E.1 (c_within l D cy L f s.heap.size num (nI 0) (nI 1000000000)) ⟨callB_of 3 E.1.2.2.2.2 (gd_own w2_21) rfl rfl rfl (E.1.2.2.2.2 _ w1_1) (E.1.2.2.2.2 _ w2_19) hd_X5_within (by rw [hR]; exact ⟨Nat.le_of_ble_eq_true rfl, Nat.le_of_ble_eq_true rfl⟩), E.1.2.2.2.2 _ w2_20⟩ (pw_pre E.2 hw) rfl rfl hl.1 rfl (lv_room (Nat.le_of_ble_eq_true rfl)) dX5_next_14 ⟨Nat.zero_le _, Nat.zero_le _⟩) ?_
    refine k_if1 (tgt := 23) E dX5_next_17 (by decide) (fun c17 => ?_) (fun c17 => ?_)
    · obtain ⟨x, hx, rfl⟩ := in_ex (by decide) c17
      obtain ⟨t, per, b, n, hS, hMc, rw, mc, gs, m1, m2, m3, m4, h_a, h_rw, h_mc, h_gs⟩ := hSl j (by omega)
      have ht := hS.2.2.1
      have hper := hS.1.1
      have hperx := hS.2.1
      have hden : den t per b = SS j := funext (fun n => (hS.den n).symm)
      refine lv_aload_n E.1.1 E.1.2.1 dX5_next_23 rfl (lv_at hl 0 rfl) ?_
      refine k_get (v := .ref (A 1)) E inlX5 rfl 0 (by decide) w1_231 rfl hw h_nm rfl dX5_next_24 ?_
      refine lv_iload_n E.1.1 E.1.2.1 dX5_next_27 rfl (lv_at hl 1 rfl) ?_
      refine k_aald E hw 4 (r := sa j) h_sl rfl (by omega) (by omega) (rfl) dX5_next_28 ?_
      refine lv_iload_n E.1.1 E.1.2.1 dX5_next_29 rfl (lv_at hl 2 rfl) ?_
      refine k_ri (va_runV (As := [.int (nI x)]) (rest := []) E.1 (c_leastFrom l D cy L f s.heap.size (sa j) rw mc t per x b ht hper hperx (by omega) h_a h_rw) ⟨callB_of 1 E.1.2.2.2.2 (gd_own w2_162) rfl rfl rfl (E.1.2.2.2.2 _ w1_8) (E.1.2.2.2.2 _ w2_159) hd_X3_leastFrom (by rw [hR]; exact ⟨Nat.le_of_ble_eq_true rfl, Nat.le_of_ble_eq_true rfl⟩), E.1.2.2.2.2 _ w2_160, E.1.2.2.2.2 _ w2_161⟩ (pw_preV (q := (RX3, TX3, 4)) E.2 hw h_a rfl) rfl rfl hl.1 rfl (lv_room (Nat.le_of_ble_eq_true rfl)) dX5_next_30 ⟨Nat.zero_le _, Nat.zero_le _⟩) ?_
      exact k_iret E hQ hlk hr (by unfold rd_next; rw [if_neg (inS_t hj), if_neg (by rw [in_t (by decide) hx]; decide), ix_nI (by omega), ix_nI (by omega)]; exact ⟨t, per, hS.1, by rw [hden]⟩) dX5_next_33
    · refine lv_bipush (v := -2) E.1.1 E.1.2.1 dX5_next_20 rfl ?_
      exact k_iret E hQ hlk hr (by unfold rd_next; rw [if_neg (inS_t hj), if_pos (show i32in _ 0 _ = false from c17)]) dX5_next_22
  · refine lv_iconst (v := -1) E.1.1 E.1.2.1 dX5_next_8 rfl ?_
    exact k_iret E hQ hlk hr (by unfold rd_next; rw [if_pos (nbS c5)]) dX5_next_9

set_option maxHeartbeats 4000000 in
set_option maxRecDepth 100000 in
theorem p_below (l : Launch) (D : va_G) (cy : Nat → ClassId) (L : List Nat) (f : Nat → va_E) (sz : Nat) (M : List Nat) (A : Nat → Nat) (base : Nat) (SS : Nat → Nat → Bool) (kp : Nat → Bool) (kb : Nat → Nat) (KS : Nat → Nat → Nat → Bool) (hA : AdOK L M A) (hN : NmW cy L f M A base SS kp kb KS) (slot num : Int32) : Met l yX5_below (.code yX5_below cX5_below 3 (Option.some FieldType.int) :: wsL_law) { frames := 4, cells := 0, slots := 0, locals := 89 } (va_Pc [.ref (A 0), .int slot, .int num] (PW D cy L f sz)) (vp_Si (fun r => rd_below SS slot num r)) 0 0 (fun _ => False) := by
  refine m_start (by decide) (Nat.le_of_ble_eq_true rfl) ?_
  intro p e R Q s m args below meth c ls hsz hR hQ E hr hlk hnm hw hl
  have hl : lv_has ls 3 [(0, .ref (A 0)), (1, .int slot), (2, .int num)] := hl
  obtain ⟨hB, h_nm, ⟨sa, h_sl, hSl⟩, ⟨i1, i2, j1, j2, j3, j4, g, B0, G0, h_d, h_row, h_tr, h_rows, h_goes⟩, hRm⟩ := hN
  have hb2 := hB.two
  refine lv_aload_n E.1.1 E.1.2.1 dX5_below_0 rfl (lv_at hl 0 rfl) ?_
  refine lv_iload_n E.1.1 E.1.2.1 dX5_below_1 rfl (lv_at hl 1 rfl) ?_
  refine k_ri (va_runV (As := [.int slot]) (rest := []) E.1 (c_unknown l D cy L f s.heap.size (A 0) (A 1) (A 2) (A 3) (A 5) base sa slot h_nm h_sl) ⟨callB_of 1 E.1.2.2.2.2 (gd_own w2_18) rfl rfl rfl (E.1.2.2.2.2 _ w1_1) (E.1.2.2.2.2 _ w2_15) hd_X5_unknown (by rw [hR]; exact ⟨Nat.le_of_ble_eq_true rfl, Nat.le_of_ble_eq_true rfl⟩), E.1.2.2.2.2 _ w2_17, E.1.2.2.2.2 _ ws_9⟩ (pw_preV (q := (RX5, TX5, 5)) E.2 hw h_nm rfl) rfl rfl hl.1 rfl (lv_room (Nat.le_of_ble_eq_true rfl)) dX5_below_2 ⟨Nat.zero_le _, Nat.zero_le _⟩) ?_
  refine k_if0 (tgt := 10) E dX5_below_5 (by decide) (fun c5 => ?_) (fun c5 => ?_)
  · obtain ⟨j, hj, rfl⟩ := inS_ex c5
    refine lv_iload_n E.1.1 E.1.2.1 dX5_below_10 rfl (lv_at hl 2 rfl) ?_
    refine lv_iconst (v := nI 0) E.1.1 E.1.2.1 dX5_below_11 rfl ?_
    refine lv_ldc (v := nI 1000000000) E.1.1 E.1.2.1 E.1.2.2.2.1 (E.1.2.2.2.2 _ w2_154) dX5_below_12 ?_
    refine k_ri (va_runS (As := [.int num, .int (nI 0), .int (nI 1000000000)]) (rest := []) E.1 (c_within l D cy L f s.heap.size num (nI 0) (nI 1000000000)) ⟨callB_of 3 E.1.2.2.2.2 (gd_own w2_21) rfl rfl rfl (E.1.2.2.2.2 _ w1_1) (E.1.2.2.2.2 _ w2_19) hd_X5_within (by rw [hR]; exact ⟨Nat.le_of_ble_eq_true rfl, Nat.le_of_ble_eq_true rfl⟩), E.1.2.2.2.2 _ w2_20⟩ (pw_pre E.2 hw) rfl rfl hl.1 rfl (lv_room (Nat.le_of_ble_eq_true rfl)) dX5_below_14 ⟨Nat.zero_le _, Nat.zero_le _⟩) ?_
    refine k_if1 (tgt := 23) E dX5_below_17 (by decide) (fun c17 => ?_) (fun c17 => ?_)
    · obtain ⟨x, hx, rfl⟩ := in_ex (by decide) c17
      obtain ⟨t, per, b, n, hS, hMc, rw, mc, gs, m1, m2, m3, m4, h_a, h_rw, h_mc, h_gs⟩ := hSl j (by omega)
      have ht := hS.2.2.1
      have hper := hS.1.1
      have hperx := hS.2.1
      have hden : den t per b = SS j := funext (fun n => (hS.den n).symm)
      refine lv_aload_n E.1.1 E.1.2.1 dX5_below_23 rfl (lv_at hl 0 rfl) ?_
      refine k_get (v := .ref (A 1)) E inlX5 rfl 0 (by decide) w1_231 rfl hw h_nm rfl dX5_below_24 ?_
      refine lv_iload_n E.1.1 E.1.2.1 dX5_below_27 rfl (lv_at hl 1 rfl) ?_
      refine k_aald E hw 4 (r := sa j) h_sl rfl (by omega) (by omega) (rfl) dX5_below_28 ?_
      refine lv_iload_n E.1.1 E.1.2.1 dX5_below_29 rfl (lv_at hl 2 rfl) ?_
      refine k_ri (va_runV (As := [.int (nI x)]) (rest := []) E.1 (c_numbersBefore l D cy L f s.heap.size (sa j) rw mc t per x b ht hper hperx (by omega) h_a h_rw) ⟨callB_of 1 E.1.2.2.2.2 (gd_own w2_113) rfl rfl rfl (E.1.2.2.2.2 _ w1_8) (E.1.2.2.2.2 _ w2_110) hd_X3_numbersBefore (by rw [hR]; exact ⟨Nat.le_of_ble_eq_true rfl, Nat.le_of_ble_eq_true rfl⟩), E.1.2.2.2.2 _ w2_111, E.1.2.2.2.2 _ w2_112⟩ (pw_preV (q := (RX3, TX3, 4)) E.2 hw h_a rfl) rfl rfl hl.1 rfl (lv_room (Nat.le_of_ble_eq_true rfl)) dX5_below_30 ⟨Nat.zero_le _, Nat.zero_le _⟩) ?_
      exact k_iret E hQ hlk hr (by unfold rd_below; rw [if_neg (inS_t hj), if_neg (by rw [in_t (by decide) hx]; decide), ix_nI (by omega), ix_nI (by omega)]; exact by rw [hden]) dX5_below_33
    · refine lv_bipush (v := -2) E.1.1 E.1.2.1 dX5_below_20 rfl ?_
      exact k_iret E hQ hlk hr (by unfold rd_below; rw [if_neg (inS_t hj), if_pos (show i32in _ 0 _ = false from c17)]) dX5_below_22
  · refine lv_iconst (v := -1) E.1.1 E.1.2.1 dX5_below_8 rfl ?_
    exact k_iret E hQ hlk hr (by unfold rd_below; rw [if_pos (nbS c5)]) dX5_below_9

set_option maxHeartbeats 4000000 in
set_option maxRecDepth 100000 in
theorem p_walk (l : Launch) (D : va_G) (cy : Nat → ClassId) (L : List Nat) (f : Nat → va_E) (sz : Nat) (M : List Nat) (A : Nat → Nat) (base : Nat) (SS : Nat → Nat → Bool) (kp : Nat → Bool) (kb : Nat → Nat) (KS : Nat → Nat → Nat → Bool) (hA : AdOK L M A) (hN : NmW cy L f M A base SS kp kb KS) (slot num x : Int32) : Met l yX5_walk (.code yX5_walk cX5_walk 4 (Option.some FieldType.int) :: wsL_law) { frames := 2, cells := 0, slots := 0, locals := 48 } (va_Pc [.ref (A 0), .int slot, .int num, .int x] (PW D cy L f sz)) (vp_Si (fun r => rd_walk base SS slot num x r)) 0 0 (fun _ => False) := by
  refine m_start (by decide) (Nat.le_of_ble_eq_true rfl) ?_
  intro p e R Q s m args below meth c ls hsz hR hQ E hr hlk hnm hw hl
  have hl : lv_has ls 4 [(0, .ref (A 0)), (1, .int slot), (2, .int num), (3, .int x)] := hl
  obtain ⟨hB, h_nm, ⟨sa, h_sl, hSl⟩, ⟨i1, i2, j1, j2, j3, j4, g, B0, G0, h_d, h_row, h_tr, h_rows, h_goes⟩, hRm⟩ := hN
  have hb2 := hB.two
  refine lv_aload_n E.1.1 E.1.2.1 dX5_walk_0 rfl (lv_at hl 0 rfl) ?_
  refine lv_iload_n E.1.1 E.1.2.1 dX5_walk_1 rfl (lv_at hl 1 rfl) ?_
  refine k_ri (va_runV (As := [.int slot]) (rest := []) E.1 (c_unknown l D cy L f s.heap.size (A 0) (A 1) (A 2) (A 3) (A 5) base sa slot h_nm h_sl) ⟨callB_of 1 E.1.2.2.2.2 (gd_own w2_18) rfl rfl rfl (E.1.2.2.2.2 _ w1_1) (E.1.2.2.2.2 _ w2_15) hd_X5_unknown (by rw [hR]; exact ⟨Nat.le_of_ble_eq_true rfl, Nat.le_of_ble_eq_true rfl⟩), E.1.2.2.2.2 _ w2_17, E.1.2.2.2.2 _ ws_9⟩ (pw_preV (q := (RX5, TX5, 5)) E.2 hw h_nm rfl) rfl rfl hl.1 rfl (lv_room (Nat.le_of_ble_eq_true rfl)) dX5_walk_2 ⟨Nat.zero_le _, Nat.zero_le _⟩) ?_
  refine k_if0 (tgt := 10) E dX5_walk_5 (by decide) (fun c5 => ?_) (fun c5 => ?_)
  · obtain ⟨j, hj, rfl⟩ := inS_ex c5
    refine lv_iload_n E.1.1 E.1.2.1 dX5_walk_10 rfl (lv_at hl 3 rfl) ?_
    refine lv_iconst (v := nI 0) E.1.1 E.1.2.1 dX5_walk_11 rfl ?_
    refine lv_bipush (v := nI 40) E.1.1 E.1.2.1 dX5_walk_12 rfl ?_
    refine k_ri (va_runS (As := [.int x, .int (nI 0), .int (nI 40)]) (rest := []) E.1 (c_within l D cy L f s.heap.size x (nI 0) (nI 40)) ⟨callB_of 3 E.1.2.2.2.2 (gd_own w2_21) rfl rfl rfl (E.1.2.2.2.2 _ w1_1) (E.1.2.2.2.2 _ w2_19) hd_X5_within (by rw [hR]; exact ⟨Nat.le_of_ble_eq_true rfl, Nat.le_of_ble_eq_true rfl⟩), E.1.2.2.2.2 _ w2_20⟩ (pw_pre E.2 hw) rfl rfl hl.1 rfl (lv_room (Nat.le_of_ble_eq_true rfl)) dX5_walk_14 ⟨Nat.zero_le _, Nat.zero_le _⟩) ?_
    refine k_if0 (tgt := 24) E dX5_walk_17 (by decide) (fun c17 => ?_) (fun c17 => ?_)
    · refine lv_bipush (v := -2) E.1.1 E.1.2.1 dX5_walk_24 rfl ?_
      exact k_iret E hQ hlk hr (by unfold rd_walk; rw [if_neg (inS_t hj), if_pos (Or.inl (show i32in x 0 (nI 40) = false from c17))]) dX5_walk_26
    · obtain ⟨w, hwx, rfl⟩ := in_ex (n := 40) (by decide) c17
      refine lv_iload_n E.1.1 E.1.2.1 dX5_walk_20 rfl (lv_at hl 2 rfl) ?_
      refine lv_if_ge (tgt := 27) E.1.1 E.1.2.1 dX5_walk_21 (by decide) (fun c21 => ?_) (fun c21 => ?_)
      · obtain ⟨nu, hnu, rfl⟩ := nI_of (x := num) (fun q => fa_lt_nle q c21)
        obtain ⟨t, per, b, n, hS, hMc, rw, mc, gs, m1, m2, m3, m4, h_a, h_rw, h_mc, h_gs⟩ := hSl j (by omega)
        have ht := hS.2.2.1
        have hper := hS.1.1
        have hperx := hS.2.1
        have hden : den t per b = SS j := funext (fun n => (hS.den n).symm)
        refine lv_aload_n E.1.1 E.1.2.1 dX5_walk_27 rfl (lv_at hl 0 rfl) ?_
        refine k_get (v := .ref (A 1)) E inlX5 rfl 0 (by decide) w1_231 rfl hw h_nm rfl dX5_walk_28 ?_
        refine lv_iload_n E.1.1 E.1.2.1 dX5_walk_31 rfl (lv_at hl 1 rfl) ?_
        refine k_aald E hw 4 (r := sa j) h_sl rfl (by omega) (by omega) (rfl) dX5_walk_32 ?_
        refine k_getN (v := .ref mc) E inlX3 rfl 3 (by decide) (List.mem_of_getElem? (i := 17) rfl) rfl hw h_a rfl dX5_walk_33 ?_
        refine lv_iload_n E.1.1 E.1.2.1 dX5_walk_36 rfl (lv_at hl 2 rfl) ?_
        refine lv_iload_n E.1.1 E.1.2.1 dX5_walk_37 rfl (lv_at hl 3 rfl) ?_
        refine k_ri (va_runV (As := [.int (nI nu), .int (nI w)]) (rest := []) E.1 (c_read l D cy L f s.heap.size mc gs base n nu w (trn (SS j) base (n * base)).2.2 (fun x => (trn (SS j) base (n * base)).2.1 x 0) hMc.2.2 (by omega) (by omega) hMc.go hMc.pos (by omega) (by omega) h_mc h_gs) ⟨callB_of 2 E.1.2.2.2.2 (gd_own w2_149) rfl rfl rfl (E.1.2.2.2.2 _ w1_9) (E.1.2.2.2.2 _ w2_146) hd_X2_read (by rw [hR]; exact ⟨Nat.le_of_ble_eq_true rfl, Nat.le_of_ble_eq_true rfl⟩), E.1.2.2.2.2 _ w2_147, E.1.2.2.2.2 _ w2_148⟩ (pw_preV (q := (RX2, TX2, 4)) E.2 hw h_mc rfl) rfl rfl hl.1 rfl (lv_room (Nat.le_of_ble_eq_true rfl)) dX5_walk_38 ⟨Nat.zero_le _, Nat.zero_le _⟩) ?_
        exact k_iret E hQ hlk hr (by unfold rd_walk; rw [if_neg (inS_t hj), if_neg (by rintro (q | q); rw [in_t (by decide) hwx] at q; cases q; exact nI_pos hnu q), ix_nI (by omega), ix_nI (by omega), ix_nI (by omega)]; exact ⟨n, hMc, rfl⟩) dX5_walk_41
      · refine lv_bipush (v := -2) E.1.1 E.1.2.1 dX5_walk_24 rfl ?_
        exact k_iret E hQ hlk hr (by unfold rd_walk; rw [if_neg (inS_t hj), if_pos (Or.inr (Classical.not_not.mp (fun q => c21 (fa_of_nlt q))))]) dX5_walk_26
  · refine lv_iconst (v := -1) E.1.1 E.1.2.1 dX5_walk_8 rfl ?_
    exact k_iret E hQ hlk hr (by unfold rd_walk; rw [if_pos (nbS c5)]) dX5_walk_9

set_option maxHeartbeats 4000000 in
set_option maxRecDepth 100000 in
theorem p_told (l : Launch) (D : va_G) (cy : Nat → ClassId) (L : List Nat) (f : Nat → va_E) (sz : Nat) (M : List Nat) (A : Nat → Nat) (base : Nat) (SS : Nat → Nat → Bool) (kp : Nat → Bool) (kb : Nat → Nat) (KS : Nat → Nat → Nat → Bool) (hA : AdOK L M A) (hN : NmW cy L f M A base SS kp kb KS) (slot what : Int32) : Met l yX5_told (.code yX5_told cX5_told 4 (Option.some FieldType.int) :: wsL_law) { frames := 4, cells := 0, slots := 0, locals := 89 } (va_Pc [.ref (A 0), .int slot, .int what] (PW D cy L f sz)) (vp_Si (fun r => rd_told base SS slot what r)) 0 0 (fun _ => False) := by
  refine m_start (by decide) (Nat.le_of_ble_eq_true rfl) ?_
  intro p e R Q s m args below meth c ls hsz hR hQ E hr hlk hnm hw hl
  have hl : lv_has ls 4 [(0, .ref (A 0)), (1, .int slot), (2, .int what)] := hl
  obtain ⟨hB, h_nm, ⟨sa, h_sl, hSl⟩, ⟨i1, i2, j1, j2, j3, j4, g, B0, G0, h_d, h_row, h_tr, h_rows, h_goes⟩, hRm⟩ := hN
  have hb2 := hB.two
  refine lv_aload_n E.1.1 E.1.2.1 dX5_told_0 rfl (lv_at hl 0 rfl) ?_
  refine lv_iload_n E.1.1 E.1.2.1 dX5_told_1 rfl (lv_at hl 1 rfl) ?_
  refine k_ri (va_runV (As := [.int slot]) (rest := []) E.1 (c_unknown l D cy L f s.heap.size (A 0) (A 1) (A 2) (A 3) (A 5) base sa slot h_nm h_sl) ⟨callB_of 1 E.1.2.2.2.2 (gd_own w2_18) rfl rfl rfl (E.1.2.2.2.2 _ w1_1) (E.1.2.2.2.2 _ w2_15) hd_X5_unknown (by rw [hR]; exact ⟨Nat.le_of_ble_eq_true rfl, Nat.le_of_ble_eq_true rfl⟩), E.1.2.2.2.2 _ w2_17, E.1.2.2.2.2 _ ws_9⟩ (pw_preV (q := (RX5, TX5, 5)) E.2 hw h_nm rfl) rfl rfl hl.1 rfl (lv_room (Nat.le_of_ble_eq_true rfl)) dX5_told_2 ⟨Nat.zero_le _, Nat.zero_le _⟩) ?_
  refine k_if0 (tgt := 10) E dX5_told_5 (by decide) (fun c5 => ?_) (fun c5 => ?_)
  · obtain ⟨j, hj, rfl⟩ := inS_ex c5
    obtain ⟨t, per, b, n, hS, hMc, rw, mc, gs, m1, m2, m3, m4, h_a, h_rw, h_mc, h_gs⟩ := hSl j (by omega)
    have ht := hS.2.2.1
    have hper := hS.1.1
    have hperx := hS.2.1
    have hden : den t per b = SS j := funext (fun n => (hS.den n).symm)
    refine lv_aload_n E.1.1 E.1.2.1 dX5_told_10 rfl (lv_at hl 0 rfl) ?_
    refine k_get (v := .ref (A 1)) E inlX5 rfl 0 (by decide) w1_231 rfl hw h_nm rfl dX5_told_11 ?_
    refine lv_iload_n E.1.1 E.1.2.1 dX5_told_14 rfl (lv_at hl 1 rfl) ?_
    refine k_aald E hw 4 (r := sa j) h_sl rfl (by omega) (by omega) (rfl) dX5_told_15 ?_
    refine lv_astore_n (lv' := [(3, .ref (sa j)), (0, .ref (A 0)), (1, .int (nI j)), (2, .int what)]) E.1.1 E.1.2.1 dX5_told_16 rfl hl (by decide) rfl (fun ls hl => ?_)
    refine lv_iload_n E.1.1 E.1.2.1 dX5_told_17 rfl (lv_at hl 3 rfl) ?_
    cases hsw : i32in what 0 (nI 5)
    · refine lv_tableOut (tgt := 117) E.1.1 E.1.2.1 dX5_told_18 (tab_out (by decide) hsw) (by decide) ?_
      refine lv_bipush (v := -2) E.1.1 E.1.2.1 dX5_told_117 rfl ?_
      exact k_iret E hQ hlk hr (by unfold rd_told; rw [if_neg (inS_t hj), if_pos hsw]) dX5_told_119
    · obtain ⟨k0, hk0, rfl⟩ := in_ex (by decide) hsw
      rcases (show k0 = 0 ∨ k0 = 1 ∨ k0 = 2 ∨ k0 = 3 ∨ k0 = 4 ∨ k0 = 5 by omega) with rfl | rfl | rfl | rfl | rfl | rfl
      · refine lv_tableIn (tgt := 56) E.1.1 E.1.2.1 dX5_told_18 (by decide) (by decide) (off := 38) (by decide) (by decide) ?_
        refine lv_aload_n E.1.1 E.1.2.1 dX5_told_56 rfl (lv_at hl 0 rfl) ?_
        refine k_getN (v := .int (nI t)) E inlX3 rfl 0 (by decide) (List.mem_of_getElem? (i := 15) rfl) rfl hw h_a rfl dX5_told_57 ?_
        exact k_iret E hQ hlk hr (by unfold rd_told; rw [if_neg (inS_t hj), if_neg (by rw [in_t (by decide) (by decide)]; decide), ix_nI (by omega), ix_nI (by omega)]; exact Or.inl ⟨rfl, t, per, hS.1, rfl⟩) dX5_told_60
      · refine lv_tableIn (tgt := 61) E.1.1 E.1.2.1 dX5_told_18 (by decide) (by decide) (off := 43) (by decide) (by decide) ?_
        refine lv_aload_n E.1.1 E.1.2.1 dX5_told_61 rfl (lv_at hl 0 rfl) ?_
        refine k_getN (v := .int (nI per)) E inlX3 rfl 1 (by decide) (List.mem_of_getElem? (i := 16) rfl) rfl hw h_a rfl dX5_told_62 ?_
        exact k_iret E hQ hlk hr (by unfold rd_told; rw [if_neg (inS_t hj), if_neg (by rw [in_t (by decide) (by decide)]; decide), ix_nI (by omega), ix_nI (by omega)]; exact Or.inr (Or.inl ⟨rfl, t, per, hS.1, rfl⟩)) dX5_told_65
      · refine lv_tableIn (tgt := 66) E.1.1 E.1.2.1 dX5_told_18 (by decide) (by decide) (off := 48) (by decide) (by decide) ?_
        refine lv_aload_n E.1.1 E.1.2.1 dX5_told_66 rfl (lv_at hl 0 rfl) ?_
        refine k_getN (v := .ref mc) E inlX3 rfl 3 (by decide) (List.mem_of_getElem? (i := 17) rfl) rfl hw h_a rfl dX5_told_67 ?_
        refine k_getN (v := .int (nI n)) E inlX2 rfl 1 (by decide) (List.mem_of_getElem? (i := 13) rfl) rfl hw h_mc rfl dX5_told_70 ?_
        exact k_iret E hQ hlk hr (by unfold rd_told; rw [if_neg (inS_t hj), if_neg (by rw [in_t (by decide) (by decide)]; decide), ix_nI (by omega), ix_nI (by omega)]; exact Or.inr (Or.inr (Or.inl ⟨rfl, n, hMc, rfl⟩))) dX5_told_73
      · refine lv_tableIn (tgt := 74) E.1.1 E.1.2.1 dX5_told_18 (by decide) (by decide) (off := 56) (by decide) (by decide) ?_
        refine lv_aload_n E.1.1 E.1.2.1 dX5_told_74 rfl (lv_at hl 0 rfl) ?_
        refine k_getN (v := .ref mc) E inlX3 rfl 3 (by decide) (List.mem_of_getElem? (i := 17) rfl) rfl hw h_a rfl dX5_told_75 ?_
        refine k_getN (v := .long (lN (bsum (fun x => (trn (SS j) base (n * base)).2.1 x 0) n))) E inlX2 rfl 3 (by decide) (List.mem_of_getElem? (i := 14) rfl) rfl hw h_mc rfl dX5_told_78 ?_
        refine k_ri (va_runS (As := [.long (lN (bsum (fun x => (trn (SS j) base (n * base)).2.1 x 0) n))]) (rest := []) E.1 (c_bitCount l D cy L f s.heap.size n (fun x => (trn (SS j) base (n * base)).2.1 x 0) hMc.2.2) ⟨callB_of 1 E.1.2.2.2.2 (gd_own w2_106) rfl rfl rfl (E.1.2.2.2.2 _ w1_11) (E.1.2.2.2.2 _ w2_104) hd_J13_bitCount_95d88 (by rw [hR]; exact ⟨Nat.le_of_ble_eq_true rfl, Nat.le_of_ble_eq_true rfl⟩), E.1.2.2.2.2 _ w2_105⟩ (pw_pre E.2 hw) rfl rfl hl.1 rfl (lv_room (Nat.le_of_ble_eq_true rfl)) dX5_told_81 ⟨Nat.zero_le _, Nat.zero_le _⟩) ?_
        exact k_iret E hQ hlk hr (by unfold rd_told; rw [if_neg (inS_t hj), if_neg (by rw [in_t (by decide) (by decide)]; decide), ix_nI (by omega), ix_nI (by omega)]; exact Or.inr (Or.inr (Or.inr (Or.inl ⟨rfl, n, hMc, rfl⟩)))) dX5_told_84
      · refine lv_tableIn (tgt := 85) E.1.1 E.1.2.1 dX5_told_18 (by decide) (by decide) (off := 67) (by decide) (by decide) ?_
        refine lv_aload_n E.1.1 E.1.2.1 dX5_told_85 rfl (lv_at hl 0 rfl) ?_
        refine lv_aload_n E.1.1 E.1.2.1 dX5_told_86 rfl (lv_at hl 0 rfl) ?_
        refine k_getN (v := .int (nI t)) E inlX3 rfl 0 (by decide) (List.mem_of_getElem? (i := 15) rfl) rfl hw h_a rfl dX5_told_87 ?_
        refine k_ri (va_runV (As := [.int (nI t)]) (rest := []) E.1 (c_numbersBefore l D cy L f s.heap.size (sa j) rw mc t per (t) b ht hper hperx (by omega) h_a h_rw) ⟨callB_of 1 E.1.2.2.2.2 (gd_own w2_113) rfl rfl rfl (E.1.2.2.2.2 _ w1_8) (E.1.2.2.2.2 _ w2_110) hd_X3_numbersBefore (by rw [hR]; exact ⟨Nat.le_of_ble_eq_true rfl, Nat.le_of_ble_eq_true rfl⟩), E.1.2.2.2.2 _ w2_111, E.1.2.2.2.2 _ w2_112⟩ (pw_preV (q := (RX3, TX3, 4)) E.2 hw h_a rfl) rfl rfl hl.1 rfl (lv_room (Nat.le_of_ble_eq_true rfl)) dX5_told_90 ⟨Nat.zero_le _, Nat.zero_le _⟩) ?_
        exact k_iret E hQ hlk hr (by unfold rd_told; rw [if_neg (inS_t hj), if_neg (by rw [in_t (by decide) (by decide)]; decide), ix_nI (by omega), ix_nI (by omega)]; exact Or.inr (Or.inr (Or.inr (Or.inr (Or.inl ⟨rfl, t, per, hS.1, by rw [hden]⟩))))) dX5_told_93
      · refine lv_tableIn (tgt := 94) E.1.1 E.1.2.1 dX5_told_18 (by decide) (by decide) (off := 76) (by decide) (by decide) ?_
        refine lv_aload_n E.1.1 E.1.2.1 dX5_told_94 rfl (lv_at hl 0 rfl) ?_
        refine lv_aload_n E.1.1 E.1.2.1 dX5_told_95 rfl (lv_at hl 0 rfl) ?_
        refine k_getN (v := .int (nI t)) E inlX3 rfl 0 (by decide) (List.mem_of_getElem? (i := 15) rfl) rfl hw h_a rfl dX5_told_96 ?_
        refine lv_aload_n E.1.1 E.1.2.1 dX5_told_99 rfl (lv_at hl 0 rfl) ?_
        refine k_getN (v := .int (nI per)) E inlX3 rfl 1 (by decide) (List.mem_of_getElem? (i := 16) rfl) rfl hw h_a rfl dX5_told_100 ?_
        refine k_add E dX5_told_103 ?_
        refine k_ri (va_runV (As := [.int (nI (t + per))]) (rest := []) E.1 (c_numbersBefore l D cy L f s.heap.size (sa j) rw mc t per (t + per) b ht hper hperx (by omega) h_a h_rw) ⟨callB_of 1 E.1.2.2.2.2 (gd_own w2_113) rfl rfl rfl (E.1.2.2.2.2 _ w1_8) (E.1.2.2.2.2 _ w2_110) hd_X3_numbersBefore (by rw [hR]; exact ⟨Nat.le_of_ble_eq_true rfl, Nat.le_of_ble_eq_true rfl⟩), E.1.2.2.2.2 _ w2_111, E.1.2.2.2.2 _ w2_112⟩ (pw_preV (q := (RX3, TX3, 4)) E.2 hw h_a rfl) rfl rfl hl.1 rfl (lv_room (Nat.le_of_ble_eq_true rfl)) dX5_told_104 ⟨Nat.zero_le _, Nat.zero_le _⟩) ?_
        refine lv_aload_n E.1.1 E.1.2.1 dX5_told_107 rfl (lv_at hl 0 rfl) ?_
        refine lv_aload_n E.1.1 E.1.2.1 dX5_told_108 rfl (lv_at hl 0 rfl) ?_
        refine k_getN (v := .int (nI t)) E inlX3 rfl 0 (by decide) (List.mem_of_getElem? (i := 15) rfl) rfl hw h_a rfl dX5_told_109 ?_
        refine k_ri (va_runV (As := [.int (nI t)]) (rest := [.int (nI (fa_cnt (den t per b) (t + per)))]) E.1 (c_numbersBefore l D cy L f s.heap.size (sa j) rw mc t per (t) b ht hper hperx (by omega) h_a h_rw) ⟨callB_of 1 E.1.2.2.2.2 (gd_own w2_113) rfl rfl rfl (E.1.2.2.2.2 _ w1_8) (E.1.2.2.2.2 _ w2_110) hd_X3_numbersBefore (by rw [hR]; exact ⟨Nat.le_of_ble_eq_true rfl, Nat.le_of_ble_eq_true rfl⟩), E.1.2.2.2.2 _ w2_111, E.1.2.2.2.2 _ w2_112⟩ (pw_preV (q := (RX3, TX3, 4)) E.2 hw h_a rfl) rfl rfl hl.1 rfl (lv_room (Nat.le_of_ble_eq_true rfl)) dX5_told_112 ⟨Nat.zero_le _, Nat.zero_le _⟩) ?_
        have hmn := cnt_mono (den t per b) (show t ≤ t + per by omega)
        refine k_sub E dX5_told_115 (by omega) ?_
        exact k_iret E hQ hlk hr (by unfold rd_told; rw [if_neg (inS_t hj), if_neg (by rw [in_t (by decide) (by decide)]; decide), ix_nI (by omega), ix_nI (by omega)]; exact Or.inr (Or.inr (Or.inr (Or.inr (Or.inr (⟨rfl, t, per, hS.1, by rw [hden]⟩)))))) dX5_told_116
  · refine lv_iconst (v := -1) E.1.1 E.1.2.1 dX5_told_8 rfl ?_
    exact k_iret E hQ hlk hr (by unfold rd_told; rw [if_pos (nbS c5)]) dX5_told_9

set_option maxHeartbeats 4000000 in
set_option maxRecDepth 100000 in
theorem p_state (l : Launch) (D : va_G) (cy : Nat → ClassId) (L : List Nat) (f : Nat → va_E) (sz : Nat) (M : List Nat) (A : Nat → Nat) (base : Nat) (SS : Nat → Nat → Bool) (kp : Nat → Bool) (kb : Nat → Nat) (KS : Nat → Nat → Nat → Bool) (hA : AdOK L M A) (hN : NmW cy L f M A base SS kp kb KS) (slot i what : Int32) : Met l yX5_state (.code yX5_state cX5_state 5 (Option.some FieldType.int) :: wsL_law) { frames := 3, cells := 0, slots := 0, locals := 76 } (va_Pc [.ref (A 0), .int slot, .int i, .int what] (PW D cy L f sz)) (vp_Si (fun r => rd_state base SS slot i what r)) 0 0 (fun _ => False) := by
  refine m_start (by decide) (Nat.le_of_ble_eq_true rfl) ?_
  intro p e R Q s m args below meth c ls hsz hR hQ E hr hlk hnm hw hl
  have hl : lv_has ls 5 [(0, .ref (A 0)), (1, .int slot), (2, .int i), (3, .int what)] := hl
  obtain ⟨hB, h_nm, ⟨sa, h_sl, hSl⟩, ⟨i1, i2, j1, j2, j3, j4, g, B0, G0, h_d, h_row, h_tr, h_rows, h_goes⟩, hRm⟩ := hN
  have hb2 := hB.two
  refine lv_aload_n E.1.1 E.1.2.1 dX5_state_0 rfl (lv_at hl 0 rfl) ?_
  refine lv_iload_n E.1.1 E.1.2.1 dX5_state_1 rfl (lv_at hl 1 rfl) ?_
  refine k_ri (va_runV (As := [.int slot]) (rest := []) E.1 (c_unknown l D cy L f s.heap.size (A 0) (A 1) (A 2) (A 3) (A 5) base sa slot h_nm h_sl) ⟨callB_of 1 E.1.2.2.2.2 (gd_own w2_18) rfl rfl rfl (E.1.2.2.2.2 _ w1_1) (E.1.2.2.2.2 _ w2_15) hd_X5_unknown (by rw [hR]; exact ⟨Nat.le_of_ble_eq_true rfl, Nat.le_of_ble_eq_true rfl⟩), E.1.2.2.2.2 _ w2_17, E.1.2.2.2.2 _ ws_9⟩ (pw_preV (q := (RX5, TX5, 5)) E.2 hw h_nm rfl) rfl rfl hl.1 rfl (lv_room (Nat.le_of_ble_eq_true rfl)) dX5_state_2 ⟨Nat.zero_le _, Nat.zero_le _⟩) ?_
  refine k_if1 (tgt := 30) E dX5_state_5 (by decide) (fun c5 => ?_) (fun c5 => ?_)
  · refine lv_iconst (v := -1) E.1.1 E.1.2.1 dX5_state_30 rfl ?_
    exact k_iret E hQ hlk hr (by unfold rd_state; rw [if_pos (nbS c5)]) dX5_state_31
  · obtain ⟨j, hj, rfl⟩ := inS_ex c5
    obtain ⟨t, per, b, n, hS, hMc, rw, mc, gs, m1, m2, m3, m4, h_a, h_rw, h_mc, h_gs⟩ := hSl j (by omega)
    have ht := hS.2.2.1
    have hper := hS.1.1
    have hperx := hS.2.1
    have hden : den t per b = SS j := funext (fun n => (hS.den n).symm)
    refine lv_iload_n E.1.1 E.1.2.1 dX5_state_8 rfl (lv_at hl 2 rfl) ?_
    refine lv_iconst (v := nI 0) E.1.1 E.1.2.1 dX5_state_9 rfl ?_
    refine lv_aload_n E.1.1 E.1.2.1 dX5_state_10 rfl (lv_at hl 0 rfl) ?_
    refine k_get (v := .ref (A 1)) E inlX5 rfl 0 (by decide) w1_231 rfl hw h_nm rfl dX5_state_11 ?_
    refine lv_iload_n E.1.1 E.1.2.1 dX5_state_14 rfl (lv_at hl 1 rfl) ?_
    refine k_aald E hw 4 (r := sa j) h_sl rfl (by omega) (by omega) (rfl) dX5_state_15 ?_
    refine k_getN (v := .ref mc) E inlX3 rfl 3 (by decide) (List.mem_of_getElem? (i := 17) rfl) rfl hw h_a rfl dX5_state_16 ?_
    refine k_getN (v := .int (nI n)) E inlX2 rfl 1 (by decide) (List.mem_of_getElem? (i := 13) rfl) rfl hw h_mc rfl dX5_state_19 ?_
    have hnp := hMc.pos
    have hn64 := hMc.2.2
    refine lv_iconst (v := nI 1) E.1.1 E.1.2.1 dX5_state_22 rfl ?_
    refine k_sub E dX5_state_23 (by omega) ?_
    refine k_ri (va_runS (As := [.int i, .int (nI 0), .int (nI (n - 1))]) (rest := []) E.1 (c_within l D cy L f s.heap.size i (nI 0) (nI (n - 1))) ⟨callB_of 3 E.1.2.2.2.2 (gd_own w2_21) rfl rfl rfl (E.1.2.2.2.2 _ w1_1) (E.1.2.2.2.2 _ w2_19) hd_X5_within (by rw [hR]; exact ⟨Nat.le_of_ble_eq_true rfl, Nat.le_of_ble_eq_true rfl⟩), E.1.2.2.2.2 _ w2_20⟩ (pw_pre E.2 hw) rfl rfl hl.1 rfl (lv_room (Nat.le_of_ble_eq_true rfl)) dX5_state_24 ⟨Nat.zero_le _, Nat.zero_le _⟩) ?_
    refine k_if1 (tgt := 32) E dX5_state_27 (by decide) (fun c27 => ?_) (fun c27 => ?_)
    · obtain ⟨x, hx, rfl⟩ := in_ex (n := n - 1) (by omega) c27
      refine lv_aload_n E.1.1 E.1.2.1 dX5_state_32 rfl (lv_at hl 0 rfl) ?_
      refine k_get (v := .ref (A 1)) E inlX5 rfl 0 (by decide) w1_231 rfl hw h_nm rfl dX5_state_33 ?_
      refine lv_iload_n E.1.1 E.1.2.1 dX5_state_36 rfl (lv_at hl 1 rfl) ?_
      refine k_aald E hw 4 (r := sa j) h_sl rfl (by omega) (by omega) (rfl) dX5_state_37 ?_
      refine k_getN (v := .ref mc) E inlX3 rfl 3 (by decide) (List.mem_of_getElem? (i := 17) rfl) rfl hw h_a rfl dX5_state_38 ?_
      refine lv_astore (lv' := [(4, .ref mc), (0, .ref (A 0)), (1, .int (nI j)), (2, .int (nI x)), (3, .int what)]) E.1.1 E.1.2.1 dX5_state_41 hl (by decide) rfl (fun ls hl => ?_)
      refine lv_iload_n E.1.1 E.1.2.1 dX5_state_43 rfl (lv_at hl 4 rfl) ?_
      cases hsw : i32in what 0 (nI 7)
      · refine lv_tableOut (tgt := 147) E.1.1 E.1.2.1 dX5_state_44 (tab_out (by decide) hsw) (by decide) ?_
        refine lv_bipush (v := -2) E.1.1 E.1.2.1 dX5_state_147 rfl ?_
        exact k_iret E hQ hlk hr (by unfold rd_state; rw [if_neg (inS_t hj), ix_nI (by omega)]; refine ⟨n, hMc, ?_⟩; rw [if_neg (by rw [in_t (by omega) hx]; decide), if_pos hsw]) dX5_state_149
      · obtain ⟨k0, hk0, rfl⟩ := in_ex (by decide) hsw
        rcases (show k0 = 0 ∨ k0 = 1 ∨ k0 = 2 ∨ k0 = 3 ∨ k0 = 4 ∨ k0 = 5 ∨ k0 = 6 ∨ k0 = 7 by omega) with rfl | rfl | rfl | rfl | rfl | rfl | rfl | rfl
        · refine lv_tableIn (tgt := 92) E.1.1 E.1.2.1 dX5_state_44 (by decide) (by decide) (off := 48) (by decide) (by decide) ?_
          refine lv_iload_n E.1.1 E.1.2.1 dX5_state_92 rfl (lv_at hl 4 rfl) ?_
          refine lv_aload_n E.1.1 E.1.2.1 dX5_state_93 rfl (lv_at hl 1 rfl) ?_
          refine k_get (v := .int (nI base)) E inlX5 rfl 4 (by decide) w1_235 rfl hw h_nm rfl dX5_state_94 ?_
          refine k_ge (tgt := 110) E dX5_state_97 (by decide) (by omega) (by omega) (fun c97 => ?_) (fun c97 => ?_)
          · refine lv_bipush (v := -3) E.1.1 E.1.2.1 dX5_state_110 rfl ?_
            exact k_iret E hQ hlk hr (by unfold rd_state; rw [if_neg (inS_t hj), ix_nI (by omega)]; refine ⟨n, hMc, ?_⟩; rw [if_neg (by rw [in_t (by omega) hx]; decide), if_neg (by rw [in_t (by decide) (by decide)]; decide), ix_nI (by omega), ix_nI (by omega)]; exact Or.inl ⟨by decide, Or.inr ⟨by omega, rfl⟩⟩) dX5_state_112
          · refine lv_aload E.1.1 E.1.2.1 dX5_state_100 (lv_at hl 0 rfl) ?_
            refine lv_iload_n E.1.1 E.1.2.1 dX5_state_102 rfl (lv_at hl 3 rfl) ?_
            refine lv_iload_n E.1.1 E.1.2.1 dX5_state_103 rfl (lv_at hl 4 rfl) ?_
            refine k_ri (va_runV (As := [.int (nI x), .int (nI 0)]) (rest := []) E.1 (c_after l D cy L f s.heap.size mc gs base n x 0 (trn (SS j) base (n * base)).2.2 (fun x => (trn (SS j) base (n * base)).2.1 x 0) hMc.2.2 (by omega) (by omega) (by omega) (by omega) h_mc h_gs) ⟨callB_of 2 E.1.2.2.2.2 (gd_own w2_125) rfl rfl rfl (E.1.2.2.2.2 _ w1_9) (E.1.2.2.2.2 _ w2_122) hd_X2_after (by rw [hR]; exact ⟨Nat.le_of_ble_eq_true rfl, Nat.le_of_ble_eq_true rfl⟩), E.1.2.2.2.2 _ w2_123, E.1.2.2.2.2 _ w2_124⟩ (pw_preV (q := (RX2, TX2, 4)) E.2 hw h_mc rfl) rfl rfl hl.1 rfl (lv_room (Nat.le_of_ble_eq_true rfl)) dX5_state_104 ⟨Nat.zero_le _, Nat.zero_le _⟩) ?_
            refine lv_goto (tgt := 112) E.1.1 E.1.2.1 dX5_state_107 (by decide) ?_
            exact k_iret E hQ hlk hr (by unfold rd_state; rw [if_neg (inS_t hj), ix_nI (by omega)]; refine ⟨n, hMc, ?_⟩; rw [if_neg (by rw [in_t (by omega) hx]; decide), if_neg (by rw [in_t (by decide) (by decide)]; decide), ix_nI (by omega), ix_nI (by omega)]; exact Or.inl ⟨by decide, Or.inl ⟨by omega, rfl⟩⟩) dX5_state_112
        · refine lv_tableIn (tgt := 92) E.1.1 E.1.2.1 dX5_state_44 (by decide) (by decide) (off := 48) (by decide) (by decide) ?_
          refine lv_iload_n E.1.1 E.1.2.1 dX5_state_92 rfl (lv_at hl 4 rfl) ?_
          refine lv_aload_n E.1.1 E.1.2.1 dX5_state_93 rfl (lv_at hl 1 rfl) ?_
          refine k_get (v := .int (nI base)) E inlX5 rfl 4 (by decide) w1_235 rfl hw h_nm rfl dX5_state_94 ?_
          refine k_ge (tgt := 110) E dX5_state_97 (by decide) (by omega) (by omega) (fun c97 => ?_) (fun c97 => ?_)
          · refine lv_bipush (v := -3) E.1.1 E.1.2.1 dX5_state_110 rfl ?_
            exact k_iret E hQ hlk hr (by unfold rd_state; rw [if_neg (inS_t hj), ix_nI (by omega)]; refine ⟨n, hMc, ?_⟩; rw [if_neg (by rw [in_t (by omega) hx]; decide), if_neg (by rw [in_t (by decide) (by decide)]; decide), ix_nI (by omega), ix_nI (by omega)]; exact Or.inl ⟨by decide, Or.inr ⟨by omega, rfl⟩⟩) dX5_state_112
          · refine lv_aload E.1.1 E.1.2.1 dX5_state_100 (lv_at hl 0 rfl) ?_
            refine lv_iload_n E.1.1 E.1.2.1 dX5_state_102 rfl (lv_at hl 3 rfl) ?_
            refine lv_iload_n E.1.1 E.1.2.1 dX5_state_103 rfl (lv_at hl 4 rfl) ?_
            refine k_ri (va_runV (As := [.int (nI x), .int (nI 1)]) (rest := []) E.1 (c_after l D cy L f s.heap.size mc gs base n x 1 (trn (SS j) base (n * base)).2.2 (fun x => (trn (SS j) base (n * base)).2.1 x 0) hMc.2.2 (by omega) (by omega) (by omega) (by omega) h_mc h_gs) ⟨callB_of 2 E.1.2.2.2.2 (gd_own w2_125) rfl rfl rfl (E.1.2.2.2.2 _ w1_9) (E.1.2.2.2.2 _ w2_122) hd_X2_after (by rw [hR]; exact ⟨Nat.le_of_ble_eq_true rfl, Nat.le_of_ble_eq_true rfl⟩), E.1.2.2.2.2 _ w2_123, E.1.2.2.2.2 _ w2_124⟩ (pw_preV (q := (RX2, TX2, 4)) E.2 hw h_mc rfl) rfl rfl hl.1 rfl (lv_room (Nat.le_of_ble_eq_true rfl)) dX5_state_104 ⟨Nat.zero_le _, Nat.zero_le _⟩) ?_
            refine lv_goto (tgt := 112) E.1.1 E.1.2.1 dX5_state_107 (by decide) ?_
            exact k_iret E hQ hlk hr (by unfold rd_state; rw [if_neg (inS_t hj), ix_nI (by omega)]; refine ⟨n, hMc, ?_⟩; rw [if_neg (by rw [in_t (by omega) hx]; decide), if_neg (by rw [in_t (by decide) (by decide)]; decide), ix_nI (by omega), ix_nI (by omega)]; exact Or.inl ⟨by decide, Or.inl ⟨by omega, rfl⟩⟩) dX5_state_112
        · refine lv_tableIn (tgt := 92) E.1.1 E.1.2.1 dX5_state_44 (by decide) (by decide) (off := 48) (by decide) (by decide) ?_
          refine lv_iload_n E.1.1 E.1.2.1 dX5_state_92 rfl (lv_at hl 4 rfl) ?_
          refine lv_aload_n E.1.1 E.1.2.1 dX5_state_93 rfl (lv_at hl 1 rfl) ?_
          refine k_get (v := .int (nI base)) E inlX5 rfl 4 (by decide) w1_235 rfl hw h_nm rfl dX5_state_94 ?_
          refine k_ge (tgt := 110) E dX5_state_97 (by decide) (by omega) (by omega) (fun c97 => ?_) (fun c97 => ?_)
          · refine lv_bipush (v := -3) E.1.1 E.1.2.1 dX5_state_110 rfl ?_
            exact k_iret E hQ hlk hr (by unfold rd_state; rw [if_neg (inS_t hj), ix_nI (by omega)]; refine ⟨n, hMc, ?_⟩; rw [if_neg (by rw [in_t (by omega) hx]; decide), if_neg (by rw [in_t (by decide) (by decide)]; decide), ix_nI (by omega), ix_nI (by omega)]; exact Or.inl ⟨by decide, Or.inr ⟨by omega, rfl⟩⟩) dX5_state_112
          · refine lv_aload E.1.1 E.1.2.1 dX5_state_100 (lv_at hl 0 rfl) ?_
            refine lv_iload_n E.1.1 E.1.2.1 dX5_state_102 rfl (lv_at hl 3 rfl) ?_
            refine lv_iload_n E.1.1 E.1.2.1 dX5_state_103 rfl (lv_at hl 4 rfl) ?_
            refine k_ri (va_runV (As := [.int (nI x), .int (nI 2)]) (rest := []) E.1 (c_after l D cy L f s.heap.size mc gs base n x 2 (trn (SS j) base (n * base)).2.2 (fun x => (trn (SS j) base (n * base)).2.1 x 0) hMc.2.2 (by omega) (by omega) (by omega) (by omega) h_mc h_gs) ⟨callB_of 2 E.1.2.2.2.2 (gd_own w2_125) rfl rfl rfl (E.1.2.2.2.2 _ w1_9) (E.1.2.2.2.2 _ w2_122) hd_X2_after (by rw [hR]; exact ⟨Nat.le_of_ble_eq_true rfl, Nat.le_of_ble_eq_true rfl⟩), E.1.2.2.2.2 _ w2_123, E.1.2.2.2.2 _ w2_124⟩ (pw_preV (q := (RX2, TX2, 4)) E.2 hw h_mc rfl) rfl rfl hl.1 rfl (lv_room (Nat.le_of_ble_eq_true rfl)) dX5_state_104 ⟨Nat.zero_le _, Nat.zero_le _⟩) ?_
            refine lv_goto (tgt := 112) E.1.1 E.1.2.1 dX5_state_107 (by decide) ?_
            exact k_iret E hQ hlk hr (by unfold rd_state; rw [if_neg (inS_t hj), ix_nI (by omega)]; refine ⟨n, hMc, ?_⟩; rw [if_neg (by rw [in_t (by omega) hx]; decide), if_neg (by rw [in_t (by decide) (by decide)]; decide), ix_nI (by omega), ix_nI (by omega)]; exact Or.inl ⟨by decide, Or.inl ⟨by omega, rfl⟩⟩) dX5_state_112
        · refine lv_tableIn (tgt := 92) E.1.1 E.1.2.1 dX5_state_44 (by decide) (by decide) (off := 48) (by decide) (by decide) ?_
          refine lv_iload_n E.1.1 E.1.2.1 dX5_state_92 rfl (lv_at hl 4 rfl) ?_
          refine lv_aload_n E.1.1 E.1.2.1 dX5_state_93 rfl (lv_at hl 1 rfl) ?_
          refine k_get (v := .int (nI base)) E inlX5 rfl 4 (by decide) w1_235 rfl hw h_nm rfl dX5_state_94 ?_
          refine k_ge (tgt := 110) E dX5_state_97 (by decide) (by omega) (by omega) (fun c97 => ?_) (fun c97 => ?_)
          · refine lv_bipush (v := -3) E.1.1 E.1.2.1 dX5_state_110 rfl ?_
            exact k_iret E hQ hlk hr (by unfold rd_state; rw [if_neg (inS_t hj), ix_nI (by omega)]; refine ⟨n, hMc, ?_⟩; rw [if_neg (by rw [in_t (by omega) hx]; decide), if_neg (by rw [in_t (by decide) (by decide)]; decide), ix_nI (by omega), ix_nI (by omega)]; exact Or.inl ⟨by decide, Or.inr ⟨by omega, rfl⟩⟩) dX5_state_112
          · refine lv_aload E.1.1 E.1.2.1 dX5_state_100 (lv_at hl 0 rfl) ?_
            refine lv_iload_n E.1.1 E.1.2.1 dX5_state_102 rfl (lv_at hl 3 rfl) ?_
            refine lv_iload_n E.1.1 E.1.2.1 dX5_state_103 rfl (lv_at hl 4 rfl) ?_
            refine k_ri (va_runV (As := [.int (nI x), .int (nI 3)]) (rest := []) E.1 (c_after l D cy L f s.heap.size mc gs base n x 3 (trn (SS j) base (n * base)).2.2 (fun x => (trn (SS j) base (n * base)).2.1 x 0) hMc.2.2 (by omega) (by omega) (by omega) (by omega) h_mc h_gs) ⟨callB_of 2 E.1.2.2.2.2 (gd_own w2_125) rfl rfl rfl (E.1.2.2.2.2 _ w1_9) (E.1.2.2.2.2 _ w2_122) hd_X2_after (by rw [hR]; exact ⟨Nat.le_of_ble_eq_true rfl, Nat.le_of_ble_eq_true rfl⟩), E.1.2.2.2.2 _ w2_123, E.1.2.2.2.2 _ w2_124⟩ (pw_preV (q := (RX2, TX2, 4)) E.2 hw h_mc rfl) rfl rfl hl.1 rfl (lv_room (Nat.le_of_ble_eq_true rfl)) dX5_state_104 ⟨Nat.zero_le _, Nat.zero_le _⟩) ?_
            refine lv_goto (tgt := 112) E.1.1 E.1.2.1 dX5_state_107 (by decide) ?_
            exact k_iret E hQ hlk hr (by unfold rd_state; rw [if_neg (inS_t hj), ix_nI (by omega)]; refine ⟨n, hMc, ?_⟩; rw [if_neg (by rw [in_t (by omega) hx]; decide), if_neg (by rw [in_t (by decide) (by decide)]; decide), ix_nI (by omega), ix_nI (by omega)]; exact Or.inl ⟨by decide, Or.inl ⟨by omega, rfl⟩⟩) dX5_state_112
        · refine lv_tableIn (tgt := 92) E.1.1 E.1.2.1 dX5_state_44 (by decide) (by decide) (off := 48) (by decide) (by decide) ?_
          refine lv_iload_n E.1.1 E.1.2.1 dX5_state_92 rfl (lv_at hl 4 rfl) ?_
          refine lv_aload_n E.1.1 E.1.2.1 dX5_state_93 rfl (lv_at hl 1 rfl) ?_
          refine k_get (v := .int (nI base)) E inlX5 rfl 4 (by decide) w1_235 rfl hw h_nm rfl dX5_state_94 ?_
          refine k_ge (tgt := 110) E dX5_state_97 (by decide) (by omega) (by omega) (fun c97 => ?_) (fun c97 => ?_)
          · refine lv_bipush (v := -3) E.1.1 E.1.2.1 dX5_state_110 rfl ?_
            exact k_iret E hQ hlk hr (by unfold rd_state; rw [if_neg (inS_t hj), ix_nI (by omega)]; refine ⟨n, hMc, ?_⟩; rw [if_neg (by rw [in_t (by omega) hx]; decide), if_neg (by rw [in_t (by decide) (by decide)]; decide), ix_nI (by omega), ix_nI (by omega)]; exact Or.inl ⟨by decide, Or.inr ⟨by omega, rfl⟩⟩) dX5_state_112
          · refine lv_aload E.1.1 E.1.2.1 dX5_state_100 (lv_at hl 0 rfl) ?_
            refine lv_iload_n E.1.1 E.1.2.1 dX5_state_102 rfl (lv_at hl 3 rfl) ?_
            refine lv_iload_n E.1.1 E.1.2.1 dX5_state_103 rfl (lv_at hl 4 rfl) ?_
            refine k_ri (va_runV (As := [.int (nI x), .int (nI 4)]) (rest := []) E.1 (c_after l D cy L f s.heap.size mc gs base n x 4 (trn (SS j) base (n * base)).2.2 (fun x => (trn (SS j) base (n * base)).2.1 x 0) hMc.2.2 (by omega) (by omega) (by omega) (by omega) h_mc h_gs) ⟨callB_of 2 E.1.2.2.2.2 (gd_own w2_125) rfl rfl rfl (E.1.2.2.2.2 _ w1_9) (E.1.2.2.2.2 _ w2_122) hd_X2_after (by rw [hR]; exact ⟨Nat.le_of_ble_eq_true rfl, Nat.le_of_ble_eq_true rfl⟩), E.1.2.2.2.2 _ w2_123, E.1.2.2.2.2 _ w2_124⟩ (pw_preV (q := (RX2, TX2, 4)) E.2 hw h_mc rfl) rfl rfl hl.1 rfl (lv_room (Nat.le_of_ble_eq_true rfl)) dX5_state_104 ⟨Nat.zero_le _, Nat.zero_le _⟩) ?_
            refine lv_goto (tgt := 112) E.1.1 E.1.2.1 dX5_state_107 (by decide) ?_
            exact k_iret E hQ hlk hr (by unfold rd_state; rw [if_neg (inS_t hj), ix_nI (by omega)]; refine ⟨n, hMc, ?_⟩; rw [if_neg (by rw [in_t (by omega) hx]; decide), if_neg (by rw [in_t (by decide) (by decide)]; decide), ix_nI (by omega), ix_nI (by omega)]; exact Or.inl ⟨by decide, Or.inl ⟨by omega, rfl⟩⟩) dX5_state_112
        · refine lv_tableIn (tgt := 113) E.1.1 E.1.2.1 dX5_state_44 (by decide) (by decide) (off := 69) (by decide) (by decide) ?_
          refine lv_aload E.1.1 E.1.2.1 dX5_state_113 (lv_at hl 0 rfl) ?_
          refine lv_iload_n E.1.1 E.1.2.1 dX5_state_115 rfl (lv_at hl 3 rfl) ?_
          refine k_ri (va_runV (As := [.int (nI x)]) (rest := []) E.1 (c_isGood l D cy L f s.heap.size mc gs base n x (trn (SS j) base (n * base)).2.2 (fun x => (trn (SS j) base (n * base)).2.1 x 0) hMc.2.2 (by omega) (by omega) (by omega) h_mc) ⟨callB_of 1 E.1.2.2.2.2 (gd_own w2_129) rfl rfl rfl (E.1.2.2.2.2 _ w1_9) (E.1.2.2.2.2 _ w2_126) hd_X2_isGood (by rw [hR]; exact ⟨Nat.le_of_ble_eq_true rfl, Nat.le_of_ble_eq_true rfl⟩), E.1.2.2.2.2 _ w2_127, E.1.2.2.2.2 _ w2_128⟩ (pw_preV (q := (RX2, TX2, 4)) E.2 hw h_mc rfl) rfl rfl hl.1 rfl (lv_room (Nat.le_of_ble_eq_true rfl)) dX5_state_116 ⟨Nat.zero_le _, Nat.zero_le _⟩) ?_
          refine k_ri (va_runS (As := [.int (b2i ((fun x => (trn (SS j) base (n * base)).2.1 x 0) x))]) (rest := []) E.1 (c_truth l D cy L f s.heap.size ((fun x => (trn (SS j) base (n * base)).2.1 x 0) x)) ⟨callB_of 1 E.1.2.2.2.2 (gd_own w2_132) rfl rfl rfl (E.1.2.2.2.2 _ w1_1) (E.1.2.2.2.2 _ w2_130) hd_X5_truth (by rw [hR]; exact ⟨Nat.le_of_ble_eq_true rfl, Nat.le_of_ble_eq_true rfl⟩), E.1.2.2.2.2 _ w2_131⟩ (pw_pre E.2 hw) rfl rfl hl.1 rfl (lv_room (Nat.le_of_ble_eq_true rfl)) dX5_state_119 ⟨Nat.zero_le _, Nat.zero_le _⟩) ?_
          exact k_iret E hQ hlk hr (by unfold rd_state; rw [if_neg (inS_t hj), ix_nI (by omega)]; refine ⟨n, hMc, ?_⟩; rw [if_neg (by rw [in_t (by omega) hx]; decide), if_neg (by rw [in_t (by decide) (by decide)]; decide), ix_nI (by omega), ix_nI (by omega)]; exact Or.inr (Or.inl ⟨rfl, rfl⟩)) dX5_state_122
        · refine lv_tableIn (tgt := 123) E.1.1 E.1.2.1 dX5_state_44 (by decide) (by decide) (off := 79) (by decide) (by decide) ?_
          refine lv_aload E.1.1 E.1.2.1 dX5_state_123 (lv_at hl 0 rfl) ?_
          refine lv_lconst (v := 1) E.1.1 E.1.2.1 dX5_state_125 rfl ?_
          refine k_topl E (lset (sg 0)) (one_sg) ?_
          refine lv_lconst (v := 1) E.1.1 E.1.2.1 dX5_state_126 rfl ?_
          refine lv_iload_n E.1.1 E.1.2.1 dX5_state_127 rfl (lv_at hl 3 rfl) ?_
          refine lv_lshl E.1.1 E.1.2.1 dX5_state_128 rfl ?_
          refine k_topl E (lset (sg x)) (shl_sg (by omega)) ?_
          refine k_ri (va_runV (As := [.long (lset (sg 0)), .long (lset (sg x))]) (rest := []) E.1 (c_steps l D cy L f s.heap.size mc gs base n (trn (SS j) base (n * base)).2.2 (fun x => (trn (SS j) base (n * base)).2.1 x 0) hMc.2.2 (by omega) (by omega) hMc.go (sg 0) (sg x) h_mc h_gs) ⟨callB_of 2 E.1.2.2.2.2 (gd_own w2_136) rfl rfl rfl (E.1.2.2.2.2 _ w1_9) (E.1.2.2.2.2 _ w2_133) hd_X2_steps (by rw [hR]; exact ⟨Nat.le_of_ble_eq_true rfl, Nat.le_of_ble_eq_true rfl⟩), E.1.2.2.2.2 _ w2_134, E.1.2.2.2.2 _ w2_135⟩ (pw_preV (q := (RX2, TX2, 4)) E.2 hw h_mc rfl) rfl rfl hl.1 rfl (lv_room (Nat.le_of_ble_eq_true rfl)) dX5_state_129 ⟨Nat.zero_le _, Nat.zero_le _⟩) ?_
          exact k_iret E hQ hlk hr (by unfold rd_state; rw [if_neg (inS_t hj), ix_nI (by omega)]; refine ⟨n, hMc, ?_⟩; rw [if_neg (by rw [in_t (by omega) hx]; decide), if_neg (by rw [in_t (by decide) (by decide)]; decide), ix_nI (by omega), ix_nI (by omega)]; exact Or.inr (Or.inr (Or.inl ⟨rfl, rfl⟩))) dX5_state_132
        · refine lv_tableIn (tgt := 133) E.1.1 E.1.2.1 dX5_state_44 (by decide) (by decide) (off := 89) (by decide) (by decide) ?_
          refine lv_aload E.1.1 E.1.2.1 dX5_state_133 (lv_at hl 0 rfl) ?_
          refine lv_lconst (v := 1) E.1.1 E.1.2.1 dX5_state_135 rfl ?_
          refine lv_iload_n E.1.1 E.1.2.1 dX5_state_136 rfl (lv_at hl 3 rfl) ?_
          refine lv_lshl E.1.1 E.1.2.1 dX5_state_137 rfl ?_
          refine k_topl E (lset (sg x)) (shl_sg (by omega)) ?_
          refine lv_aload E.1.1 E.1.2.1 dX5_state_138 (lv_at hl 0 rfl) ?_
          refine k_getN (v := .long (lN (bsum (fun x => (trn (SS j) base (n * base)).2.1 x 0) n))) E inlX2 rfl 3 (by decide) (List.mem_of_getElem? (i := 14) rfl) rfl hw h_mc rfl dX5_state_140 ?_
          refine k_topl E (lset (gq (fun x => (trn (SS j) base (n * base)).2.1 x 0) n)) (good_l hn64) ?_
          refine k_ri (va_runV (As := [.long (lset (sg x)), .long (lset (gq (fun x => (trn (SS j) base (n * base)).2.1 x 0) n))]) (rest := []) E.1 (c_steps l D cy L f s.heap.size mc gs base n (trn (SS j) base (n * base)).2.2 (fun x => (trn (SS j) base (n * base)).2.1 x 0) hMc.2.2 (by omega) (by omega) hMc.go (sg x) (gq (fun x => (trn (SS j) base (n * base)).2.1 x 0) n) h_mc h_gs) ⟨callB_of 2 E.1.2.2.2.2 (gd_own w2_136) rfl rfl rfl (E.1.2.2.2.2 _ w1_9) (E.1.2.2.2.2 _ w2_133) hd_X2_steps (by rw [hR]; exact ⟨Nat.le_of_ble_eq_true rfl, Nat.le_of_ble_eq_true rfl⟩), E.1.2.2.2.2 _ w2_134, E.1.2.2.2.2 _ w2_135⟩ (pw_preV (q := (RX2, TX2, 4)) E.2 hw h_mc rfl) rfl rfl hl.1 rfl (lv_room (Nat.le_of_ble_eq_true rfl)) dX5_state_143 ⟨Nat.zero_le _, Nat.zero_le _⟩) ?_
          exact k_iret E hQ hlk hr (by unfold rd_state; rw [if_neg (inS_t hj), ix_nI (by omega)]; refine ⟨n, hMc, ?_⟩; rw [if_neg (by rw [in_t (by omega) hx]; decide), if_neg (by rw [in_t (by decide) (by decide)]; decide), ix_nI (by omega), ix_nI (by omega)]; exact Or.inr (Or.inr (Or.inr ⟨rfl, rfl⟩))) dX5_state_146
    · refine lv_iconst (v := -1) E.1.1 E.1.2.1 dX5_state_30 rfl ?_
      exact k_iret E hQ hlk hr (by unfold rd_state; rw [if_neg (inS_t hj), ix_nI (by omega)]; refine ⟨n, hMc, ?_⟩; rw [if_pos (show i32in i 0 (nI (n - 1)) = false from c27)]) dX5_state_31

set_option maxHeartbeats 4000000 in
set_option maxRecDepth 100000 in
theorem p_alike (l : Launch) (D : va_G) (cy : Nat → ClassId) (L : List Nat) (f : Nat → va_E) (sz : Nat) (M : List Nat) (A : Nat → Nat) (base : Nat) (SS : Nat → Nat → Bool) (kp : Nat → Bool) (kb : Nat → Nat) (KS : Nat → Nat → Nat → Bool) (hA : AdOK L M A) (hN : NmW cy L f M A base SS kp kb KS) (one other what : Int32) : Met l yX5_alike (.code yX5_alike cX5_alike 6 (Option.some FieldType.int) :: wsL_law) { frames := 3, cells := 0, slots := 0, locals := 69 } (va_Pc [.ref (A 0), .int one, .int other, .int what] (PW D cy L f sz)) (vp_Si (fun r => rd_alike SS one other what r)) 0 0 (fun _ => False) := by
  refine m_start (by decide) (Nat.le_of_ble_eq_true rfl) ?_
  intro p e R Q s m args below meth c ls hsz hR hQ E hr hlk hnm hw hl
  have hl : lv_has ls 6 [(0, .ref (A 0)), (1, .int one), (2, .int other), (3, .int what)] := hl
  obtain ⟨hB, h_nm, ⟨sa, h_sl, hSl⟩, ⟨i1, i2, j1, j2, j3, j4, g, B0, G0, h_d, h_row, h_tr, h_rows, h_goes⟩, hRm⟩ := hN
  have hb2 := hB.two
  refine lv_aload_n E.1.1 E.1.2.1 dX5_alike_0 rfl (lv_at hl 0 rfl) ?_
  refine lv_iload_n E.1.1 E.1.2.1 dX5_alike_1 rfl (lv_at hl 1 rfl) ?_
  refine k_ri (va_runV (As := [.int one]) (rest := []) E.1 (c_unknown l D cy L f s.heap.size (A 0) (A 1) (A 2) (A 3) (A 5) base sa one h_nm h_sl) ⟨callB_of 1 E.1.2.2.2.2 (gd_own w2_18) rfl rfl rfl (E.1.2.2.2.2 _ w1_1) (E.1.2.2.2.2 _ w2_15) hd_X5_unknown (by rw [hR]; exact ⟨Nat.le_of_ble_eq_true rfl, Nat.le_of_ble_eq_true rfl⟩), E.1.2.2.2.2 _ w2_17, E.1.2.2.2.2 _ ws_9⟩ (pw_preV (q := (RX5, TX5, 5)) E.2 hw h_nm rfl) rfl rfl hl.1 rfl (lv_room (Nat.le_of_ble_eq_true rfl)) dX5_alike_2 ⟨Nat.zero_le _, Nat.zero_le _⟩) ?_
  refine k_if1 (tgt := 16) E dX5_alike_5 (by decide) (fun c5 => ?_) (fun c5 => ?_)
  · refine lv_iconst (v := -1) E.1.1 E.1.2.1 dX5_alike_16 rfl ?_
    exact k_iret E hQ hlk hr (by unfold rd_alike; rw [if_pos (Or.inl (nbS c5))]) dX5_alike_17
  · obtain ⟨j, hj, rfl⟩ := inS_ex c5
    refine lv_aload_n E.1.1 E.1.2.1 dX5_alike_8 rfl (lv_at hl 0 rfl) ?_
    refine lv_iload_n E.1.1 E.1.2.1 dX5_alike_9 rfl (lv_at hl 2 rfl) ?_
    refine k_ri (va_runV (As := [.int other]) (rest := []) E.1 (c_unknown l D cy L f s.heap.size (A 0) (A 1) (A 2) (A 3) (A 5) base sa other h_nm h_sl) ⟨callB_of 1 E.1.2.2.2.2 (gd_own w2_18) rfl rfl rfl (E.1.2.2.2.2 _ w1_1) (E.1.2.2.2.2 _ w2_15) hd_X5_unknown (by rw [hR]; exact ⟨Nat.le_of_ble_eq_true rfl, Nat.le_of_ble_eq_true rfl⟩), E.1.2.2.2.2 _ w2_17, E.1.2.2.2.2 _ ws_9⟩ (pw_preV (q := (RX5, TX5, 5)) E.2 hw h_nm rfl) rfl rfl hl.1 rfl (lv_room (Nat.le_of_ble_eq_true rfl)) dX5_alike_10 ⟨Nat.zero_le _, Nat.zero_le _⟩) ?_
    refine k_if0 (tgt := 18) E dX5_alike_13 (by decide) (fun c13 => ?_) (fun c13 => ?_)
    · obtain ⟨j2, hj2, rfl⟩ := inS_ex c13
      obtain ⟨t, per, b, n, hS, hMc, rw, mc, gs, m1, m2, m3, m4, h_a, h_rw, h_mc, h_gs⟩ := hSl j (by omega)
      have ht := hS.2.2.1
      have hper := hS.1.1
      have hperx := hS.2.1
      have hden : den t per b = SS j := funext (fun n => (hS.den n).symm)
      obtain ⟨t2, per2, b2, n2, hS2, hMc2, rw2, mc2, gs2, m12, m22, m32, m42, h_a2, h_rw2, h_mc2, h_gs2⟩ := hSl j2 (by omega)
      have ht2 := hS2.2.2.1
      have hper2 := hS2.1.1
      have hper2x := hS2.2.1
      have hden2 : den t2 per2 b2 = SS j2 := funext (fun n => (hS2.den n).symm)
      refine lv_aload_n E.1.1 E.1.2.1 dX5_alike_18 rfl (lv_at hl 0 rfl) ?_
      refine k_get (v := .ref (A 1)) E inlX5 rfl 0 (by decide) w1_231 rfl hw h_nm rfl dX5_alike_19 ?_
      refine lv_iload_n E.1.1 E.1.2.1 dX5_alike_22 rfl (lv_at hl 1 rfl) ?_
      refine k_aald E hw 4 (r := sa j) h_sl rfl (by omega) (by omega) (rfl) dX5_alike_23 ?_
      refine lv_astore (lv' := [(4, .ref (sa j)), (0, .ref (A 0)), (1, .int (nI j)), (2, .int (nI j2)), (3, .int what)]) E.1.1 E.1.2.1 dX5_alike_24 hl (by decide) rfl (fun ls hl => ?_)
      refine lv_aload_n E.1.1 E.1.2.1 dX5_alike_26 rfl (lv_at hl 1 rfl) ?_
      refine k_get (v := .ref (A 1)) E inlX5 rfl 0 (by decide) w1_231 rfl hw h_nm rfl dX5_alike_27 ?_
      refine lv_iload_n E.1.1 E.1.2.1 dX5_alike_30 rfl (lv_at hl 3 rfl) ?_
      refine k_aald E hw 4 (r := sa j2) h_sl rfl (by omega) (by omega) (rfl) dX5_alike_31 ?_
      refine lv_astore (lv' := [(5, .ref (sa j2)), (4, .ref (sa j)), (0, .ref (A 0)), (1, .int (nI j)), (2, .int (nI j2)), (3, .int what)]) E.1.1 E.1.2.1 dX5_alike_32 hl (by decide) rfl (fun ls hl => ?_)
      refine lv_iload_n E.1.1 E.1.2.1 dX5_alike_34 rfl (lv_at hl 5 rfl) ?_
      cases hsw : i32in what 0 (nI 4)
      · refine lv_tableOut (tgt := 141) E.1.1 E.1.2.1 dX5_alike_35 (tab_out (by decide) hsw) (by decide) ?_
        refine lv_bipush (v := -2) E.1.1 E.1.2.1 dX5_alike_141 rfl ?_
        exact k_iret E hQ hlk hr (by unfold rd_alike; rw [if_neg (by rintro (q | q); exact inS_t hj q; exact inS_t hj2 q), if_pos hsw]) dX5_alike_143
      · obtain ⟨k0, hk0, rfl⟩ := in_ex (by decide) hsw
        rcases (show k0 = 0 ∨ k0 = 1 ∨ k0 = 2 ∨ k0 = 3 ∨ k0 = 4 by omega) with rfl | rfl | rfl | rfl | rfl
        · refine lv_tableIn (tgt := 68) E.1.1 E.1.2.1 dX5_alike_35 (by decide) (by decide) (off := 33) (by decide) (by decide) ?_
          refine lv_aload E.1.1 E.1.2.1 dX5_alike_68 (lv_at hl 1 rfl) ?_
          refine lv_aload E.1.1 E.1.2.1 dX5_alike_70 (lv_at hl 0 rfl) ?_
          refine k_ri (va_runV (As := [.ref (sa j2)]) (rest := []) E.1 (c_sameAs l D cy L f s.heap.size (sa j) rw mc t per (sa j2) rw2 mc2 t2 per2 b b2 ht hper hperx ht2 hper2 hper2x h_a h_rw h_a2 h_rw2) ⟨callB_of 1 E.1.2.2.2.2 (gd_own w2_175) rfl rfl rfl (E.1.2.2.2.2 _ w1_8) (E.1.2.2.2.2 _ w2_172) hd_X3_sameAs (by rw [hR]; exact ⟨Nat.le_of_ble_eq_true rfl, Nat.le_of_ble_eq_true rfl⟩), E.1.2.2.2.2 _ w2_173, E.1.2.2.2.2 _ w2_174⟩ (pw_preV (q := (RX3, TX3, 4)) E.2 hw h_a rfl) rfl rfl hl.1 rfl (lv_room (Nat.le_of_ble_eq_true rfl)) dX5_alike_72 ⟨Nat.zero_le _, Nat.zero_le _⟩) ?_
          refine k_ri (va_runS (As := [.int (b2i (dB (t = t2 ∧ per = per2 ∧ SameR b b2)))]) (rest := []) E.1 (c_truth l D cy L f s.heap.size (dB (t = t2 ∧ per = per2 ∧ SameR b b2))) ⟨callB_of 1 E.1.2.2.2.2 (gd_own w2_132) rfl rfl rfl (E.1.2.2.2.2 _ w1_1) (E.1.2.2.2.2 _ w2_130) hd_X5_truth (by rw [hR]; exact ⟨Nat.le_of_ble_eq_true rfl, Nat.le_of_ble_eq_true rfl⟩), E.1.2.2.2.2 _ w2_131⟩ (pw_pre E.2 hw) rfl rfl hl.1 rfl (lv_room (Nat.le_of_ble_eq_true rfl)) dX5_alike_75 ⟨Nat.zero_le _, Nat.zero_le _⟩) ?_
          exact k_iret E hQ hlk hr (by unfold rd_alike; rw [if_neg (by rintro (q | q); exact inS_t hj q; exact inS_t hj2 q), if_neg (by rw [in_t (by decide) (by decide)]; decide), ix_nI (by omega), ix_nI (by omega), ix_nI (by omega)]; exact Or.inl ⟨rfl, by rw [dB_cong (same_iff hS hS2)]⟩) dX5_alike_78
        · refine lv_tableIn (tgt := 79) E.1.1 E.1.2.1 dX5_alike_35 (by decide) (by decide) (off := 44) (by decide) (by decide) ?_
          refine lv_aload E.1.1 E.1.2.1 dX5_alike_79 (lv_at hl 1 rfl) ?_
          refine lv_aload E.1.1 E.1.2.1 dX5_alike_81 (lv_at hl 0 rfl) ?_
          refine lv_iconst (v := nI 2) E.1.1 E.1.2.1 dX5_alike_83 rfl ?_
          refine k_rip (va_runS (As := [.ref (sa j), .ref (sa j2), .int (nI 2)]) (rest := []) E.1 (c_leastJoined l D cy L f s.heap.size (sa j) rw mc t per (sa j2) rw2 mc2 t2 per2 2 b b2 ht hper hperx ht2 hper2 hper2x (by decide) h_a h_rw h_a2 h_rw2) ⟨callB_of 3 E.1.2.2.2.2 (gd_own w2_178) rfl rfl rfl (E.1.2.2.2.2 _ w1_1) (E.1.2.2.2.2 _ w2_176) hd_X5_leastJoined (by rw [hR]; exact ⟨Nat.le_of_ble_eq_true rfl, Nat.le_of_ble_eq_true rfl⟩), E.1.2.2.2.2 _ w2_177⟩ (pw_pre E.2 hw) rfl rfl hl.1 rfl (lv_room (Nat.le_of_ble_eq_true rfl)) dX5_alike_84 ⟨Nat.zero_le _, Nat.zero_le _⟩) (fun r hp => ?_)
          obtain ⟨z, hz0, hz1, hz2, hz3, hrz⟩ := hp
          rw [hden, hden2] at hrz
          have hli : LI (fun n => jw 2 (SS j n) (SS j2 n)) r := by rw [hrz]; exact lfrom_LI hz0 (by omega) (jw_ev 2 hS.1.2.1 hS2.1.2.1 hz2 hz3)
          refine lv_bipush (v := -6) E.1.1 E.1.2.1 dX5_alike_87 rfl ?_
          refine lv_icmp_ne (tgt := 96) E.1.1 E.1.2.1 dX5_alike_89 (by decide) (fun c89 => ?_) (fun c89 => ?_)
          · refine lv_iconst (v := nI 0) E.1.1 E.1.2.1 dX5_alike_96 rfl ?_
            refine k_top E (b2i false) rfl ?_
            refine k_ri (va_runS (As := [.int (b2i false)]) (rest := []) E.1 (c_truth l D cy L f s.heap.size false) ⟨callB_of 1 E.1.2.2.2.2 (gd_own w2_132) rfl rfl rfl (E.1.2.2.2.2 _ w1_1) (E.1.2.2.2.2 _ w2_130) hd_X5_truth (by rw [hR]; exact ⟨Nat.le_of_ble_eq_true rfl, Nat.le_of_ble_eq_true rfl⟩), E.1.2.2.2.2 _ w2_131⟩ (pw_pre E.2 hw) rfl rfl hl.1 rfl (lv_room (Nat.le_of_ble_eq_true rfl)) dX5_alike_97 ⟨Nat.zero_le _, Nat.zero_le _⟩) ?_
            exact k_iret E hQ hlk hr (by unfold rd_alike; rw [if_neg (by rintro (q | q); exact inS_t hj q; exact inS_t hj2 q), if_neg (by rw [in_t (by decide) (by decide)]; decide), ix_nI (by omega), ix_nI (by omega), ix_nI (by omega)]; exact Or.inr (Or.inl ⟨rfl, by rw [dB_f (fun q => c89 (hli.none.mpr q))]⟩)) dX5_alike_100
          · refine lv_iconst (v := nI 1) E.1.1 E.1.2.1 dX5_alike_92 rfl ?_
            refine lv_goto (tgt := 97) E.1.1 E.1.2.1 dX5_alike_93 (by decide) ?_
            refine k_top E (b2i true) rfl ?_
            refine k_ri (va_runS (As := [.int (b2i true)]) (rest := []) E.1 (c_truth l D cy L f s.heap.size true) ⟨callB_of 1 E.1.2.2.2.2 (gd_own w2_132) rfl rfl rfl (E.1.2.2.2.2 _ w1_1) (E.1.2.2.2.2 _ w2_130) hd_X5_truth (by rw [hR]; exact ⟨Nat.le_of_ble_eq_true rfl, Nat.le_of_ble_eq_true rfl⟩), E.1.2.2.2.2 _ w2_131⟩ (pw_pre E.2 hw) rfl rfl hl.1 rfl (lv_room (Nat.le_of_ble_eq_true rfl)) dX5_alike_97 ⟨Nat.zero_le _, Nat.zero_le _⟩) ?_
            exact k_iret E hQ hlk hr (by unfold rd_alike; rw [if_neg (by rintro (q | q); exact inS_t hj q; exact inS_t hj2 q), if_neg (by rw [in_t (by decide) (by decide)]; decide), ix_nI (by omega), ix_nI (by omega), ix_nI (by omega)]; exact Or.inr (Or.inl ⟨rfl, by rw [dB_t (hli.none.mp c89)]⟩)) dX5_alike_100
        · refine lv_tableIn (tgt := 101) E.1.1 E.1.2.1 dX5_alike_35 (by decide) (by decide) (off := 66) (by decide) (by decide) ?_
          refine lv_aload E.1.1 E.1.2.1 dX5_alike_101 (lv_at hl 1 rfl) ?_
          refine lv_aload E.1.1 E.1.2.1 dX5_alike_103 (lv_at hl 0 rfl) ?_
          refine lv_iconst (v := nI 1) E.1.1 E.1.2.1 dX5_alike_105 rfl ?_
          refine k_rip (va_runS (As := [.ref (sa j), .ref (sa j2), .int (nI 1)]) (rest := []) E.1 (c_leastJoined l D cy L f s.heap.size (sa j) rw mc t per (sa j2) rw2 mc2 t2 per2 1 b b2 ht hper hperx ht2 hper2 hper2x (by decide) h_a h_rw h_a2 h_rw2) ⟨callB_of 3 E.1.2.2.2.2 (gd_own w2_178) rfl rfl rfl (E.1.2.2.2.2 _ w1_1) (E.1.2.2.2.2 _ w2_176) hd_X5_leastJoined (by rw [hR]; exact ⟨Nat.le_of_ble_eq_true rfl, Nat.le_of_ble_eq_true rfl⟩), E.1.2.2.2.2 _ w2_177⟩ (pw_pre E.2 hw) rfl rfl hl.1 rfl (lv_room (Nat.le_of_ble_eq_true rfl)) dX5_alike_106 ⟨Nat.zero_le _, Nat.zero_le _⟩) (fun r hp => ?_)
          obtain ⟨z, hz0, hz1, hz2, hz3, hrz⟩ := hp
          rw [hden, hden2] at hrz
          have hli : LI (fun n => jw 1 (SS j n) (SS j2 n)) r := by rw [hrz]; exact lfrom_LI hz0 (by omega) (jw_ev 1 hS.1.2.1 hS2.1.2.1 hz2 hz3)
          refine lv_bipush (v := -6) E.1.1 E.1.2.1 dX5_alike_109 rfl ?_
          refine lv_icmp_ne (tgt := 118) E.1.1 E.1.2.1 dX5_alike_111 (by decide) (fun c111 => ?_) (fun c111 => ?_)
          · refine lv_iconst (v := nI 0) E.1.1 E.1.2.1 dX5_alike_118 rfl ?_
            refine k_top E (b2i false) rfl ?_
            refine k_ri (va_runS (As := [.int (b2i false)]) (rest := []) E.1 (c_truth l D cy L f s.heap.size false) ⟨callB_of 1 E.1.2.2.2.2 (gd_own w2_132) rfl rfl rfl (E.1.2.2.2.2 _ w1_1) (E.1.2.2.2.2 _ w2_130) hd_X5_truth (by rw [hR]; exact ⟨Nat.le_of_ble_eq_true rfl, Nat.le_of_ble_eq_true rfl⟩), E.1.2.2.2.2 _ w2_131⟩ (pw_pre E.2 hw) rfl rfl hl.1 rfl (lv_room (Nat.le_of_ble_eq_true rfl)) dX5_alike_119 ⟨Nat.zero_le _, Nat.zero_le _⟩) ?_
            exact k_iret E hQ hlk hr (by unfold rd_alike; rw [if_neg (by rintro (q | q); exact inS_t hj q; exact inS_t hj2 q), if_neg (by rw [in_t (by decide) (by decide)]; decide), ix_nI (by omega), ix_nI (by omega), ix_nI (by omega)]; exact Or.inr (Or.inr (Or.inl ⟨rfl, by rw [dB_f (fun q => c111 (hli.none.mpr q))]⟩))) dX5_alike_122
          · refine lv_iconst (v := nI 1) E.1.1 E.1.2.1 dX5_alike_114 rfl ?_
            refine lv_goto (tgt := 119) E.1.1 E.1.2.1 dX5_alike_115 (by decide) ?_
            refine k_top E (b2i true) rfl ?_
            refine k_ri (va_runS (As := [.int (b2i true)]) (rest := []) E.1 (c_truth l D cy L f s.heap.size true) ⟨callB_of 1 E.1.2.2.2.2 (gd_own w2_132) rfl rfl rfl (E.1.2.2.2.2 _ w1_1) (E.1.2.2.2.2 _ w2_130) hd_X5_truth (by rw [hR]; exact ⟨Nat.le_of_ble_eq_true rfl, Nat.le_of_ble_eq_true rfl⟩), E.1.2.2.2.2 _ w2_131⟩ (pw_pre E.2 hw) rfl rfl hl.1 rfl (lv_room (Nat.le_of_ble_eq_true rfl)) dX5_alike_119 ⟨Nat.zero_le _, Nat.zero_le _⟩) ?_
            exact k_iret E hQ hlk hr (by unfold rd_alike; rw [if_neg (by rintro (q | q); exact inS_t hj q; exact inS_t hj2 q), if_neg (by rw [in_t (by decide) (by decide)]; decide), ix_nI (by omega), ix_nI (by omega), ix_nI (by omega)]; exact Or.inr (Or.inr (Or.inl ⟨rfl, by rw [dB_t (hli.none.mp c111)]⟩))) dX5_alike_122
        · refine lv_tableIn (tgt := 123) E.1.1 E.1.2.1 dX5_alike_35 (by decide) (by decide) (off := 88) (by decide) (by decide) ?_
          refine lv_aload E.1.1 E.1.2.1 dX5_alike_123 (lv_at hl 1 rfl) ?_
          refine lv_aload E.1.1 E.1.2.1 dX5_alike_125 (lv_at hl 0 rfl) ?_
          refine lv_iconst (v := nI 3) E.1.1 E.1.2.1 dX5_alike_127 rfl ?_
          refine k_rip (va_runS (As := [.ref (sa j), .ref (sa j2), .int (nI 3)]) (rest := []) E.1 (c_leastJoined l D cy L f s.heap.size (sa j) rw mc t per (sa j2) rw2 mc2 t2 per2 3 b b2 ht hper hperx ht2 hper2 hper2x (by decide) h_a h_rw h_a2 h_rw2) ⟨callB_of 3 E.1.2.2.2.2 (gd_own w2_178) rfl rfl rfl (E.1.2.2.2.2 _ w1_1) (E.1.2.2.2.2 _ w2_176) hd_X5_leastJoined (by rw [hR]; exact ⟨Nat.le_of_ble_eq_true rfl, Nat.le_of_ble_eq_true rfl⟩), E.1.2.2.2.2 _ w2_177⟩ (pw_pre E.2 hw) rfl rfl hl.1 rfl (lv_room (Nat.le_of_ble_eq_true rfl)) dX5_alike_128 ⟨Nat.zero_le _, Nat.zero_le _⟩) (fun r hp => ?_)
          obtain ⟨z, hz0, hz1, hz2, hz3, hrz⟩ := hp
          rw [hden, hden2] at hrz
          have hli : LI (fun n => jw 3 (SS j n) (SS j2 n)) r := by rw [hrz]; exact lfrom_LI hz0 (by omega) (jw_ev 3 hS.1.2.1 hS2.1.2.1 hz2 hz3)
          exact k_iret E hQ hlk hr (by unfold rd_alike; rw [if_neg (by rintro (q | q); exact inS_t hj q; exact inS_t hj2 q), if_neg (by rw [in_t (by decide) (by decide)]; decide), ix_nI (by omega), ix_nI (by omega), ix_nI (by omega)]; exact Or.inr (Or.inr (Or.inr (Or.inl ⟨rfl, hli⟩)))) dX5_alike_131
        · refine lv_tableIn (tgt := 132) E.1.1 E.1.2.1 dX5_alike_35 (by decide) (by decide) (off := 97) (by decide) (by decide) ?_
          refine lv_aload E.1.1 E.1.2.1 dX5_alike_132 (lv_at hl 1 rfl) ?_
          refine lv_aload E.1.1 E.1.2.1 dX5_alike_134 (lv_at hl 0 rfl) ?_
          refine lv_iconst (v := nI 1) E.1.1 E.1.2.1 dX5_alike_136 rfl ?_
          refine k_rip (va_runS (As := [.ref (sa j), .ref (sa j2), .int (nI 1)]) (rest := []) E.1 (c_leastJoined l D cy L f s.heap.size (sa j) rw mc t per (sa j2) rw2 mc2 t2 per2 1 b b2 ht hper hperx ht2 hper2 hper2x (by decide) h_a h_rw h_a2 h_rw2) ⟨callB_of 3 E.1.2.2.2.2 (gd_own w2_178) rfl rfl rfl (E.1.2.2.2.2 _ w1_1) (E.1.2.2.2.2 _ w2_176) hd_X5_leastJoined (by rw [hR]; exact ⟨Nat.le_of_ble_eq_true rfl, Nat.le_of_ble_eq_true rfl⟩), E.1.2.2.2.2 _ w2_177⟩ (pw_pre E.2 hw) rfl rfl hl.1 rfl (lv_room (Nat.le_of_ble_eq_true rfl)) dX5_alike_137 ⟨Nat.zero_le _, Nat.zero_le _⟩) (fun r hp => ?_)
          obtain ⟨z, hz0, hz1, hz2, hz3, hrz⟩ := hp
          rw [hden, hden2] at hrz
          have hli : LI (fun n => jw 1 (SS j n) (SS j2 n)) r := by rw [hrz]; exact lfrom_LI hz0 (by omega) (jw_ev 1 hS.1.2.1 hS2.1.2.1 hz2 hz3)
          exact k_iret E hQ hlk hr (by unfold rd_alike; rw [if_neg (by rintro (q | q); exact inS_t hj q; exact inS_t hj2 q), if_neg (by rw [in_t (by decide) (by decide)]; decide), ix_nI (by omega), ix_nI (by omega), ix_nI (by omega)]; exact Or.inr (Or.inr (Or.inr (Or.inr (⟨rfl, hli⟩))))) dX5_alike_140
    · refine lv_iconst (v := -1) E.1.1 E.1.2.1 dX5_alike_16 rfl ?_
      exact k_iret E hQ hlk hr (by unfold rd_alike; rw [if_pos (Or.inr (nbS c13))]) dX5_alike_17

set_option maxHeartbeats 4000000 in
set_option maxRecDepth 100000 in
theorem p_slotsWithNumbers (l : Launch) (D : va_G) (cy : Nat → ClassId) (L : List Nat) (f : Nat → va_E) (sz : Nat) (M : List Nat) (A : Nat → Nat) (base : Nat) (SS : Nat → Nat → Bool) (kp : Nat → Bool) (kb : Nat → Nat) (KS : Nat → Nat → Nat → Bool) (hA : AdOK L M A) (hN : NmW cy L f M A base SS kp kb KS)  : Met l yX5_slotsWithNumbers (.code yX5_slotsWithNumbers cX5_slotsWithNumbers 3 (Option.some FieldType.int) :: wsL_law) { frames := 4, cells := 0, slots := 0, locals := 86 } (va_Pc [.ref (A 0)] (PW D cy L f sz)) (vp_Si (fun r => r = nI (fa_cnt (fun j => dB (∃ n, SS j n = true)) 6))) 0 0 (fun _ => False) := by
  refine m_start (by decide) (Nat.le_of_ble_eq_true rfl) ?_
  intro p e R Q s m args below meth c ls hsz hR hQ E hr hlk hnm hw hl
  have hl : lv_has ls 3 [(0, .ref (A 0))] := hl
  obtain ⟨hB, h_nm, ⟨sa, h_sl, hSl⟩, ⟨i1, i2, j1, j2, j3, j4, g, B0, G0, h_d, h_row, h_tr, h_rows, h_goes⟩, hRm⟩ := hN
  have hb2 := hB.two
  refine lv_iconst (v := nI 0) E.1.1 E.1.2.1 dX5_slotsWithNumbers_0 rfl ?_
  refine lv_istore_n (lv' := [(1, .int (nI 0)), (0, .ref (A 0))]) E.1.1 E.1.2.1 dX5_slotsWithNumbers_1 rfl hl (by decide) rfl (fun ls hl => ?_)
  refine lv_iconst (v := nI 0) E.1.1 E.1.2.1 dX5_slotsWithNumbers_2 rfl ?_
  refine lv_istore_n (lv' := [(2, .int (nI 0)), (1, .int (nI 0)), (0, .ref (A 0))]) E.1.1 E.1.2.1 dX5_slotsWithNumbers_3 rfl hl (by decide) rfl (fun ls hl => ?_)
  have lp4 : ∀ (k : Nat) (i : Nat) (ls : Array Slot), (6 - i < k) → (i ≤ 6) → (lv_has ls 3 [(2, .int (nI i)), (1, .int (nI (fa_cnt (fun j => dB (∃ n, SS j n = true)) i))), (0, .ref (A 0))]) → W p l e R s m args below meth c s.heap [] 0 0 Q (F0 m 4 ls []) := by
    intro k
    induction k with
    | zero => intro _ _ hk; exact absurd hk (Nat.not_lt_zero _)
    | succ k ih4 =>
      intro i  ls hk hi hl
      refine lv_iload_n E.1.1 E.1.2.1 dX5_slotsWithNumbers_4 rfl (lv_at hl 0 rfl) ?_
      refine lv_bipush (v := nI 6) E.1.1 E.1.2.1 dX5_slotsWithNumbers_5 rfl ?_
      refine k_ge (tgt := 42) E dX5_slotsWithNumbers_7 (by decide) (by omega) (by omega) (fun c7 => ?_) (fun c7 => ?_)
      · refine lv_iload_n E.1.1 E.1.2.1 dX5_slotsWithNumbers_42 rfl (lv_at hl 1 rfl) ?_
        exact k_iret E hQ hlk hr (by rw [show i = 6 by omega]) dX5_slotsWithNumbers_43
      · refine lv_aload_n E.1.1 E.1.2.1 dX5_slotsWithNumbers_10 rfl (lv_at hl 2 rfl) ?_
        refine lv_iload_n E.1.1 E.1.2.1 dX5_slotsWithNumbers_11 rfl (lv_at hl 0 rfl) ?_
        refine k_ri (va_runV (As := [.int (nI i)]) (rest := []) E.1 (c_unknown l D cy L f s.heap.size (A 0) (A 1) (A 2) (A 3) (A 5) base sa (nI i) h_nm h_sl) ⟨callB_of 1 E.1.2.2.2.2 (gd_own w2_18) rfl rfl rfl (E.1.2.2.2.2 _ w1_1) (E.1.2.2.2.2 _ w2_15) hd_X5_unknown (by rw [hR]; exact ⟨Nat.le_of_ble_eq_true rfl, Nat.le_of_ble_eq_true rfl⟩), E.1.2.2.2.2 _ w2_17, E.1.2.2.2.2 _ ws_9⟩ (pw_preV (q := (RX5, TX5, 5)) E.2 hw h_nm rfl) rfl rfl hl.1 rfl (lv_room (Nat.le_of_ble_eq_true rfl)) dX5_slotsWithNumbers_12 ⟨Nat.zero_le _, Nat.zero_le _⟩) ?_
        refine k_if1 (tgt := 36) E dX5_slotsWithNumbers_15 (by decide) (fun c15 => absurd c15 (by rw [in_t (by decide) (by omega)]; decide)) (fun c15 => ?_)
        obtain ⟨t, per, b, n, hS, hMc, rw, mc, gs, m1, m2, m3, m4, h_a, h_rw, h_mc, h_gs⟩ := hSl i (by omega)
        have ht := hS.2.2.1
        have hper := hS.1.1
        have hperx := hS.2.1
        have hden : den t per b = SS i := funext (fun n => (hS.den n).symm)
        refine lv_aload_n E.1.1 E.1.2.1 dX5_slotsWithNumbers_18 rfl (lv_at hl 2 rfl) ?_
        refine k_get (v := .ref (A 1)) E inlX5 rfl 0 (by decide) w1_231 rfl hw h_nm rfl dX5_slotsWithNumbers_19 ?_
        refine lv_iload_n E.1.1 E.1.2.1 dX5_slotsWithNumbers_22 rfl (lv_at hl 0 rfl) ?_
        refine k_aald E hw 4 (r := sa i) h_sl rfl (by omega) (by omega) (rfl) dX5_slotsWithNumbers_23 ?_
        refine lv_iconst (v := nI 0) E.1.1 E.1.2.1 dX5_slotsWithNumbers_24 rfl ?_
        refine k_ri (va_runV (As := [.int (nI 0)]) (rest := []) E.1 (c_leastFrom l D cy L f s.heap.size (sa i) rw mc t per 0 b ht hper hperx (by omega) h_a h_rw) ⟨callB_of 1 E.1.2.2.2.2 (gd_own w2_162) rfl rfl rfl (E.1.2.2.2.2 _ w1_8) (E.1.2.2.2.2 _ w2_159) hd_X3_leastFrom (by rw [hR]; exact ⟨Nat.le_of_ble_eq_true rfl, Nat.le_of_ble_eq_true rfl⟩), E.1.2.2.2.2 _ w2_160, E.1.2.2.2.2 _ w2_161⟩ (pw_preV (q := (RX3, TX3, 4)) E.2 hw h_a rfl) rfl rfl hl.1 rfl (lv_room (Nat.le_of_ble_eq_true rfl)) dX5_slotsWithNumbers_25 ⟨Nat.zero_le _, Nat.zero_le _⟩) ?_
        refine lv_bipush (v := -6) E.1.1 E.1.2.1 dX5_slotsWithNumbers_28 rfl ?_
        refine lv_icmp_eq (tgt := 36) E.1.1 E.1.2.1 dX5_slotsWithNumbers_30 (by decide) (fun c30 => ?_) (fun c30 => ?_)
        · refine lv_iinc (v := nI (i + 1)) (lv' := [(2, .int (nI (i + 1))), (1, .int (nI (fa_cnt (fun j => dB (∃ n, SS j n = true)) i))), (0, .ref (A 0))]) E.1.1 E.1.2.1 dX5_slotsWithNumbers_36 hl (k := 0) rfl (nI_1 _) (by decide) rfl (fun ls hl => ?_)
          refine lv_goto (tgt := 4) E.1.1 E.1.2.1 dX5_slotsWithNumbers_39 (by decide) ?_
          rw [hden] at c30
          rw [← fa_cnt_no (n := i) (dB_f ((has_any hS.1 (by omega)).mp c30))] at hl
          exact ih4  (i + 1) ls (by omega) (by omega)  (lv_sub hl [0, 1, 2] rfl)
        · refine lv_iinc (v := nI (fa_cnt (fun j => dB (∃ n, SS j n = true)) i + 1)) (lv' := [(1, .int (nI (fa_cnt (fun j => dB (∃ n, SS j n = true)) i + 1))), (2, .int (nI i)), (0, .ref (A 0))]) E.1.1 E.1.2.1 dX5_slotsWithNumbers_33 hl (k := 1) rfl (nI_1 _) (by decide) rfl (fun ls hl => ?_)
          refine lv_iinc (v := nI (i + 1)) (lv' := [(2, .int (nI (i + 1))), (1, .int (nI (fa_cnt (fun j => dB (∃ n, SS j n = true)) i + 1))), (0, .ref (A 0))]) E.1.1 E.1.2.1 dX5_slotsWithNumbers_36 hl (k := 1) rfl (nI_1 _) (by decide) rfl (fun ls hl => ?_)
          refine lv_goto (tgt := 4) E.1.1 E.1.2.1 dX5_slotsWithNumbers_39 (by decide) ?_
          rw [hden] at c30
          rw [← fa_cnt_yes (n := i) (dB_t (Classical.not_not.mp (fun q => c30 ((has_any hS.1 (by omega)).mpr q))))] at hl
          exact ih4  (i + 1) ls (by omega) (by omega)  (lv_sub hl [0, 1, 2] rfl)
  exact lp4 (6 - 0 + 1) 0 ls (Nat.lt_succ_self _) (by omega)  (lv_sub hl [0, 1, 2] rfl)

set_option maxHeartbeats 4000000 in
set_option maxRecDepth 100000 in
theorem p_heldBefore (l : Launch) (D : va_G) (cy : Nat → ClassId) (L : List Nat) (f : Nat → va_E) (sz : Nat) (M : List Nat) (A : Nat → Nat) (base : Nat) (SS : Nat → Nat → Bool) (kp : Nat → Bool) (kb : Nat → Nat) (KS : Nat → Nat → Nat → Bool) (hA : AdOK L M A) (hN : NmW cy L f M A base SS kp kb KS) (x : Nat) (hx : x < 6) : Met l yX5_heldBefore (.code yX5_heldBefore cX5_heldBefore 3 (Option.some FieldType.boolean) :: wsL_law) { frames := 1, cells := 0, slots := 0, locals := 22 } (va_Pc [.ref (A 0), .int (nI x)] (PW D cy L f sz)) (vp_Si (fun r => r = b2i (dB (∃ y, y < x ∧ SS y = SS x)))) 0 0 (fun _ => False) := by
  refine m_start (by decide) (Nat.le_of_ble_eq_true rfl) ?_
  intro p e R Q s m args below meth c ls hsz hR hQ E hr hlk hnm hw hl
  have hl : lv_has ls 3 [(0, .ref (A 0)), (1, .int (nI x))] := hl
  obtain ⟨hB, h_nm, ⟨sa, h_sl, hSl⟩, ⟨i1, i2, j1, j2, j3, j4, g, B0, G0, h_d, h_row, h_tr, h_rows, h_goes⟩, hRm⟩ := hN
  have hb2 := hB.two
  refine lv_iconst (v := nI 0) E.1.1 E.1.2.1 dX5_heldBefore_0 rfl ?_
  refine lv_istore_n (lv' := [(2, .int (nI 0)), (0, .ref (A 0)), (1, .int (nI x))]) E.1.1 E.1.2.1 dX5_heldBefore_1 rfl hl (by decide) rfl (fun ls hl => ?_)
  have lp2 : ∀ (k : Nat) (i : Nat) (ls : Array Slot), (x - i < k) → (i ≤ x) → (∀ y, y < i → SS y ≠ SS x) → (lv_has ls 3 [(2, .int (nI i)), (0, .ref (A 0)), (1, .int (nI x))]) → W p l e R s m args below meth c s.heap [] 0 0 Q (F0 m 2 ls []) := by
    intro k
    induction k with
    | zero => intro _ _ hk; exact absurd hk (Nat.not_lt_zero _)
    | succ k ih2 =>
      intro i  ls hk hi hg hl
      refine lv_iload_n E.1.1 E.1.2.1 dX5_heldBefore_2 rfl (lv_at hl 0 rfl) ?_
      refine lv_iload_n E.1.1 E.1.2.1 dX5_heldBefore_3 rfl (lv_at hl 2 rfl) ?_
      refine k_ge (tgt := 41) E dX5_heldBefore_4 (by decide) (by omega) (by omega) (fun c4 => ?_) (fun c4 => ?_)
      · refine lv_iconst (v := nI 0) E.1.1 E.1.2.1 dX5_heldBefore_41 rfl ?_
        refine k_top E (b2i false) rfl ?_
        exact k_zret E hQ hlk hr (by rw [dB_f (fun ⟨y, h1, h2⟩ => hg y (by omega) h2)]) dX5_heldBefore_42
      · refine lv_aload_n E.1.1 E.1.2.1 dX5_heldBefore_7 rfl (lv_at hl 1 rfl) ?_
        refine lv_iload_n E.1.1 E.1.2.1 dX5_heldBefore_8 rfl (lv_at hl 0 rfl) ?_
        refine k_ri (va_runV (As := [.int (nI i)]) (rest := []) E.1 (c_unknown l D cy L f s.heap.size (A 0) (A 1) (A 2) (A 3) (A 5) base sa (nI i) h_nm h_sl) ⟨callB_of 1 E.1.2.2.2.2 (gd_own w2_18) rfl rfl rfl (E.1.2.2.2.2 _ w1_1) (E.1.2.2.2.2 _ w2_15) hd_X5_unknown (by rw [hR]; exact ⟨Nat.le_of_ble_eq_true rfl, Nat.le_of_ble_eq_true rfl⟩), E.1.2.2.2.2 _ w2_17, E.1.2.2.2.2 _ ws_9⟩ (pw_preV (q := (RX5, TX5, 5)) E.2 hw h_nm rfl) rfl rfl hl.1 rfl (lv_room (Nat.le_of_ble_eq_true rfl)) dX5_heldBefore_9 ⟨Nat.zero_le _, Nat.zero_le _⟩) ?_
        refine k_if1 (tgt := 35) E dX5_heldBefore_12 (by decide) (fun c12 => absurd c12 (by rw [in_t (by decide) (by omega)]; decide)) (fun c12 => ?_)
        obtain ⟨t, per, b, n, hS, hMc, rw, mc, gs, m1, m2, m3, m4, h_a, h_rw, h_mc, h_gs⟩ := hSl i (by omega)
        have ht := hS.2.2.1
        have hper := hS.1.1
        have hperx := hS.2.1
        have hden : den t per b = SS i := funext (fun n => (hS.den n).symm)
        obtain ⟨t2, per2, b2, n2, hS2, hMc2, rw2, mc2, gs2, m12, m22, m32, m42, h_a2, h_rw2, h_mc2, h_gs2⟩ := hSl x (by omega)
        have ht2 := hS2.2.2.1
        have hper2 := hS2.1.1
        have hper2x := hS2.2.1
        have hden2 : den t2 per2 b2 = SS x := funext (fun n => (hS2.den n).symm)
        refine lv_aload_n E.1.1 E.1.2.1 dX5_heldBefore_15 rfl (lv_at hl 1 rfl) ?_
        refine k_get (v := .ref (A 1)) E inlX5 rfl 0 (by decide) w1_231 rfl hw h_nm rfl dX5_heldBefore_16 ?_
        refine lv_iload_n E.1.1 E.1.2.1 dX5_heldBefore_19 rfl (lv_at hl 0 rfl) ?_
        refine k_aald E hw 4 (r := sa i) h_sl rfl (by omega) (by omega) (rfl) dX5_heldBefore_20 ?_
        refine lv_aload_n E.1.1 E.1.2.1 dX5_heldBefore_21 rfl (lv_at hl 1 rfl) ?_
        refine k_get (v := .ref (A 1)) E inlX5 rfl 0 (by decide) w1_231 rfl hw h_nm rfl dX5_heldBefore_22 ?_
        refine lv_iload_n E.1.1 E.1.2.1 dX5_heldBefore_25 rfl (lv_at hl 2 rfl) ?_
        refine k_aald E hw 4 (r := sa x) h_sl rfl (by omega) (by omega) (rfl) dX5_heldBefore_26 ?_
        refine k_ri (va_runV (As := [.ref (sa x)]) (rest := []) E.1 (c_sameAs l D cy L f s.heap.size (sa i) rw mc t per (sa x) rw2 mc2 t2 per2 b b2 ht hper hperx ht2 hper2 hper2x h_a h_rw h_a2 h_rw2) ⟨callB_of 1 E.1.2.2.2.2 (gd_own w2_175) rfl rfl rfl (E.1.2.2.2.2 _ w1_8) (E.1.2.2.2.2 _ w2_172) hd_X3_sameAs (by rw [hR]; exact ⟨Nat.le_of_ble_eq_true rfl, Nat.le_of_ble_eq_true rfl⟩), E.1.2.2.2.2 _ w2_173, E.1.2.2.2.2 _ w2_174⟩ (pw_preV (q := (RX3, TX3, 4)) E.2 hw h_a rfl) rfl rfl hl.1 rfl (lv_room (Nat.le_of_ble_eq_true rfl)) dX5_heldBefore_27 ⟨Nat.zero_le _, Nat.zero_le _⟩) ?_
        refine k_if0 (tgt := 35) E dX5_heldBefore_30 (by decide) (fun c30 => ?_) (fun c30 => ?_)
        · refine lv_iinc (v := nI (i + 1)) (lv' := [(2, .int (nI (i + 1))), (0, .ref (A 0)), (1, .int (nI x))]) E.1.1 E.1.2.1 dX5_heldBefore_35 hl (k := 0) rfl (nI_1 _) (by decide) rfl (fun ls hl => ?_)
          refine lv_goto (tgt := 2) E.1.1 E.1.2.1 dX5_heldBefore_38 (by decide) ?_
          exact ih2  (i + 1) ls (by omega) (by omega) (lt_s hg (fun q => absurd (dB_t ((same_iff hS hS2).mpr q)) (by rw [c30]; decide)))  (lv_sub hl [0, 1, 2] rfl)
        · refine lv_iconst (v := nI 1) E.1.1 E.1.2.1 dX5_heldBefore_33 rfl ?_
          refine k_top E (b2i true) rfl ?_
          exact k_zret E hQ hlk hr (by rw [dB_t ⟨i, c4, (same_iff hS hS2).mp (dB_iff.mp c30)⟩]) dX5_heldBefore_34
  exact lp2 (x - 0 + 1) 0 ls (Nat.lt_succ_self _) (by omega) (fun j hj => absurd hj (by omega))  (lv_sub hl [0, 1, 2] rfl)

set_option maxHeartbeats 4000000 in
set_option maxRecDepth 100000 in
theorem p_unlikeSets (l : Launch) (D : va_G) (cy : Nat → ClassId) (L : List Nat) (f : Nat → va_E) (sz : Nat) (M : List Nat) (A : Nat → Nat) (base : Nat) (SS : Nat → Nat → Bool) (kp : Nat → Bool) (kb : Nat → Nat) (KS : Nat → Nat → Nat → Bool) (hA : AdOK L M A) (hN : NmW cy L f M A base SS kp kb KS)  : Met l yX5_unlikeSets (.code yX5_unlikeSets cX5_unlikeSets 3 (Option.some FieldType.int) :: wsL_law) { frames := 2, cells := 0, slots := 0, locals := 44 } (va_Pc [.ref (A 0)] (PW D cy L f sz)) (vp_Si (fun r => r = nI (fa_cnt (fun j => dB (∀ i, i < j → SS i ≠ SS j)) 6))) 0 0 (fun _ => False) := by
  refine m_start (by decide) (Nat.le_of_ble_eq_true rfl) ?_
  intro p e R Q s m args below meth c ls hsz hR hQ E hr hlk hnm hw hl
  have hl : lv_has ls 3 [(0, .ref (A 0))] := hl
  have hN0 := hN
  obtain ⟨hB, h_nm, ⟨sa, h_sl, hSl⟩, ⟨i1, i2, j1, j2, j3, j4, g, B0, G0, h_d, h_row, h_tr, h_rows, h_goes⟩, hRm⟩ := hN
  have hb2 := hB.two
  refine lv_iconst (v := nI 0) E.1.1 E.1.2.1 dX5_unlikeSets_0 rfl ?_
  refine lv_istore_n (lv' := [(1, .int (nI 0)), (0, .ref (A 0))]) E.1.1 E.1.2.1 dX5_unlikeSets_1 rfl hl (by decide) rfl (fun ls hl => ?_)
  refine lv_iconst (v := nI 0) E.1.1 E.1.2.1 dX5_unlikeSets_2 rfl ?_
  refine lv_istore_n (lv' := [(2, .int (nI 0)), (1, .int (nI 0)), (0, .ref (A 0))]) E.1.1 E.1.2.1 dX5_unlikeSets_3 rfl hl (by decide) rfl (fun ls hl => ?_)
  have lp4 : ∀ (k : Nat) (i : Nat) (ls : Array Slot), (6 - i < k) → (i ≤ 6) → (lv_has ls 3 [(2, .int (nI i)), (1, .int (nI (fa_cnt (fun j => dB (∀ i, i < j → SS i ≠ SS j)) i))), (0, .ref (A 0))]) → W p l e R s m args below meth c s.heap [] 0 0 Q (F0 m 4 ls []) := by
    intro k
    induction k with
    | zero => intro _ _ hk; exact absurd hk (Nat.not_lt_zero _)
    | succ k ih4 =>
      intro i  ls hk hi hl
      refine lv_iload_n E.1.1 E.1.2.1 dX5_unlikeSets_4 rfl (lv_at hl 0 rfl) ?_
      refine lv_bipush (v := nI 6) E.1.1 E.1.2.1 dX5_unlikeSets_5 rfl ?_
      refine k_ge (tgt := 35) E dX5_unlikeSets_7 (by decide) (by omega) (by omega) (fun c7 => ?_) (fun c7 => ?_)
      · refine lv_iload_n E.1.1 E.1.2.1 dX5_unlikeSets_35 rfl (lv_at hl 1 rfl) ?_
        exact k_iret E hQ hlk hr (by rw [show i = 6 by omega]) dX5_unlikeSets_36
      · refine lv_aload_n E.1.1 E.1.2.1 dX5_unlikeSets_10 rfl (lv_at hl 2 rfl) ?_
        refine lv_iload_n E.1.1 E.1.2.1 dX5_unlikeSets_11 rfl (lv_at hl 0 rfl) ?_
        refine k_ri (va_runV (As := [.int (nI i)]) (rest := []) E.1 (c_unknown l D cy L f s.heap.size (A 0) (A 1) (A 2) (A 3) (A 5) base sa (nI i) h_nm h_sl) ⟨callB_of 1 E.1.2.2.2.2 (gd_own w2_18) rfl rfl rfl (E.1.2.2.2.2 _ w1_1) (E.1.2.2.2.2 _ w2_15) hd_X5_unknown (by rw [hR]; exact ⟨Nat.le_of_ble_eq_true rfl, Nat.le_of_ble_eq_true rfl⟩), E.1.2.2.2.2 _ w2_17, E.1.2.2.2.2 _ ws_9⟩ (pw_preV (q := (RX5, TX5, 5)) E.2 hw h_nm rfl) rfl rfl hl.1 rfl (lv_room (Nat.le_of_ble_eq_true rfl)) dX5_unlikeSets_12 ⟨Nat.zero_le _, Nat.zero_le _⟩) ?_
        refine k_if1 (tgt := 29) E dX5_unlikeSets_15 (by decide) (fun c15 => absurd c15 (by rw [in_t (by decide) (by omega)]; decide)) (fun c15 => ?_)
        refine lv_aload_n E.1.1 E.1.2.1 dX5_unlikeSets_18 rfl (lv_at hl 2 rfl) ?_
        refine lv_iload_n E.1.1 E.1.2.1 dX5_unlikeSets_19 rfl (lv_at hl 0 rfl) ?_
        refine k_ri (va_runV (As := [.int (nI i)]) (rest := []) E.1 (p_heldBefore l D cy L f s.heap.size M A base SS kp kb KS hA hN0 i (by omega)) ⟨callB_of 1 E.1.2.2.2.2 (gd_own w2_217) rfl rfl rfl (E.1.2.2.2.2 _ w1_1) (E.1.2.2.2.2 _ w2_214) hd_X5_heldBefore (by rw [hR]; exact ⟨Nat.le_of_ble_eq_true rfl, Nat.le_of_ble_eq_true rfl⟩), E.1.2.2.2.2 _ w2_216, E.1.2.2.2.2 _ ws_22⟩ (pw_preV (q := (RX5, TX5, 5)) E.2 hw h_nm rfl) rfl rfl hl.1 rfl (lv_room (Nat.le_of_ble_eq_true rfl)) dX5_unlikeSets_20 ⟨Nat.zero_le _, Nat.zero_le _⟩) ?_
        refine k_if1 (tgt := 29) E dX5_unlikeSets_23 (by decide) (fun c23 => ?_) (fun c23 => ?_)
        · refine lv_iinc (v := nI (i + 1)) (lv' := [(2, .int (nI (i + 1))), (1, .int (nI (fa_cnt (fun j => dB (∀ i, i < j → SS i ≠ SS j)) i))), (0, .ref (A 0))]) E.1.1 E.1.2.1 dX5_unlikeSets_29 hl (k := 0) rfl (nI_1 _) (by decide) rfl (fun ls hl => ?_)
          refine lv_goto (tgt := 4) E.1.1 E.1.2.1 dX5_unlikeSets_32 (by decide) ?_
          rw [← fa_cnt_no (n := i) (dB_f (fun q => by obtain ⟨y, h1, h2⟩ := dB_iff.mp c23; exact q y h1 h2))] at hl
          exact ih4  (i + 1) ls (by omega) (by omega)  (lv_sub hl [0, 1, 2] rfl)
        · refine lv_iinc (v := nI (fa_cnt (fun j => dB (∀ i, i < j → SS i ≠ SS j)) i + 1)) (lv' := [(1, .int (nI (fa_cnt (fun j => dB (∀ i, i < j → SS i ≠ SS j)) i + 1))), (2, .int (nI i)), (0, .ref (A 0))]) E.1.1 E.1.2.1 dX5_unlikeSets_26 hl (k := 1) rfl (nI_1 _) (by decide) rfl (fun ls hl => ?_)
          refine lv_iinc (v := nI (i + 1)) (lv' := [(2, .int (nI (i + 1))), (1, .int (nI (fa_cnt (fun j => dB (∀ i, i < j → SS i ≠ SS j)) i + 1))), (0, .ref (A 0))]) E.1.1 E.1.2.1 dX5_unlikeSets_29 hl (k := 1) rfl (nI_1 _) (by decide) rfl (fun ls hl => ?_)
          refine lv_goto (tgt := 4) E.1.1 E.1.2.1 dX5_unlikeSets_32 (by decide) ?_
          rw [← fa_cnt_yes (n := i) (dB_t (fun y hy q => absurd (dB_t (show ∃ y, y < i ∧ SS y = SS i from ⟨y, hy, q⟩)) (by rw [c23]; decide)))] at hl
          exact ih4  (i + 1) ls (by omega) (by omega)  (lv_sub hl [0, 1, 2] rfl)
  exact lp4 (6 - 0 + 1) 0 ls (Nat.lt_succ_self _) (by omega)  (lv_sub hl [0, 1, 2] rfl)

set_option maxHeartbeats 4000000 in
set_option maxRecDepth 100000 in
theorem p_statesOfAll (l : Launch) (D : va_G) (cy : Nat → ClassId) (L : List Nat) (f : Nat → va_E) (sz : Nat) (M : List Nat) (A : Nat → Nat) (base : Nat) (SS : Nat → Nat → Bool) (kp : Nat → Bool) (kb : Nat → Nat) (KS : Nat → Nat → Nat → Bool) (hA : AdOK L M A) (hN : NmW cy L f M A base SS kp kb KS) (nn : Nat → Nat) (hnn : ∀ j, j < 6 → MchOf (SS j) base (nn j)) : Met l yX5_statesOfAll (.code yX5_statesOfAll cX5_statesOfAll 3 (Option.some FieldType.int) :: wsL_law) { frames := 1, cells := 0, slots := 0, locals := 21 } (va_Pc [.ref (A 0)] (PW D cy L f sz)) (vp_Si (fun r => r = nI (fsum nn 6))) 0 0 (fun _ => False) := by
  refine m_start (by decide) (Nat.le_of_ble_eq_true rfl) ?_
  intro p e R Q s m args below meth c ls hsz hR hQ E hr hlk hnm hw hl
  have hl : lv_has ls 3 [(0, .ref (A 0))] := hl
  obtain ⟨hB, h_nm, ⟨sa, h_sl, hSl⟩, ⟨i1, i2, j1, j2, j3, j4, g, B0, G0, h_d, h_row, h_tr, h_rows, h_goes⟩, hRm⟩ := hN
  have hb2 := hB.two
  refine lv_iconst (v := nI 0) E.1.1 E.1.2.1 dX5_statesOfAll_0 rfl ?_
  refine lv_istore_n (lv' := [(1, .int (nI 0)), (0, .ref (A 0))]) E.1.1 E.1.2.1 dX5_statesOfAll_1 rfl hl (by decide) rfl (fun ls hl => ?_)
  refine lv_iconst (v := nI 0) E.1.1 E.1.2.1 dX5_statesOfAll_2 rfl ?_
  refine lv_istore_n (lv' := [(2, .int (nI 0)), (1, .int (nI 0)), (0, .ref (A 0))]) E.1.1 E.1.2.1 dX5_statesOfAll_3 rfl hl (by decide) rfl (fun ls hl => ?_)
  have lp4 : ∀ (k : Nat) (i : Nat) (ls : Array Slot), (6 - i < k) → (i ≤ 6) → (lv_has ls 3 [(2, .int (nI i)), (1, .int (nI (fsum nn i))), (0, .ref (A 0))]) → W p l e R s m args below meth c s.heap [] 0 0 Q (F0 m 4 ls []) := by
    intro k
    induction k with
    | zero => intro _ _ hk; exact absurd hk (Nat.not_lt_zero _)
    | succ k ih4 =>
      intro i  ls hk hi hl
      refine lv_iload_n E.1.1 E.1.2.1 dX5_statesOfAll_4 rfl (lv_at hl 0 rfl) ?_
      refine lv_bipush (v := nI 6) E.1.1 E.1.2.1 dX5_statesOfAll_5 rfl ?_
      refine k_ge (tgt := 39) E dX5_statesOfAll_7 (by decide) (by omega) (by omega) (fun c7 => ?_) (fun c7 => ?_)
      · refine lv_iload_n E.1.1 E.1.2.1 dX5_statesOfAll_39 rfl (lv_at hl 1 rfl) ?_
        exact k_iret E hQ hlk hr (by rw [show i = 6 by omega]) dX5_statesOfAll_40
      · refine lv_aload_n E.1.1 E.1.2.1 dX5_statesOfAll_10 rfl (lv_at hl 2 rfl) ?_
        refine lv_iload_n E.1.1 E.1.2.1 dX5_statesOfAll_11 rfl (lv_at hl 0 rfl) ?_
        refine k_ri (va_runV (As := [.int (nI i)]) (rest := []) E.1 (c_unknown l D cy L f s.heap.size (A 0) (A 1) (A 2) (A 3) (A 5) base sa (nI i) h_nm h_sl) ⟨callB_of 1 E.1.2.2.2.2 (gd_own w2_18) rfl rfl rfl (E.1.2.2.2.2 _ w1_1) (E.1.2.2.2.2 _ w2_15) hd_X5_unknown (by rw [hR]; exact ⟨Nat.le_of_ble_eq_true rfl, Nat.le_of_ble_eq_true rfl⟩), E.1.2.2.2.2 _ w2_17, E.1.2.2.2.2 _ ws_9⟩ (pw_preV (q := (RX5, TX5, 5)) E.2 hw h_nm rfl) rfl rfl hl.1 rfl (lv_room (Nat.le_of_ble_eq_true rfl)) dX5_statesOfAll_12 ⟨Nat.zero_le _, Nat.zero_le _⟩) ?_
        refine k_if1 (tgt := 33) E dX5_statesOfAll_15 (by decide) (fun c15 => absurd c15 (by rw [in_t (by decide) (by omega)]; decide)) (fun c15 => ?_)
        obtain ⟨t, per, b, n, hS, hMc, rw, mc, gs, m1, m2, m3, m4, h_a, h_rw, h_mc, h_gs⟩ := hSl i (by omega)
        have ht := hS.2.2.1
        have hper := hS.1.1
        have hperx := hS.2.1
        have hden : den t per b = SS i := funext (fun n => (hS.den n).symm)
        refine lv_iload_n E.1.1 E.1.2.1 dX5_statesOfAll_18 rfl (lv_at hl 1 rfl) ?_
        refine lv_aload_n E.1.1 E.1.2.1 dX5_statesOfAll_19 rfl (lv_at hl 2 rfl) ?_
        refine k_get (v := .ref (A 1)) E inlX5 rfl 0 (by decide) w1_231 rfl hw h_nm rfl dX5_statesOfAll_20 ?_
        refine lv_iload_n E.1.1 E.1.2.1 dX5_statesOfAll_23 rfl (lv_at hl 0 rfl) ?_
        refine k_aald E hw 4 (r := sa i) h_sl rfl (by omega) (by omega) (rfl) dX5_statesOfAll_24 ?_
        refine k_getN (v := .ref mc) E inlX3 rfl 3 (by decide) (List.mem_of_getElem? (i := 17) rfl) rfl hw h_a rfl dX5_statesOfAll_25 ?_
        refine k_getN (v := .int (nI n)) E inlX2 rfl 1 (by decide) (List.mem_of_getElem? (i := 13) rfl) rfl hw h_mc rfl dX5_statesOfAll_28 ?_
        refine k_add E dX5_statesOfAll_31 ?_
        refine lv_istore_n (lv' := [(1, .int (nI ((fsum nn i) + n))), (2, .int (nI i)), (0, .ref (A 0))]) E.1.1 E.1.2.1 dX5_statesOfAll_32 rfl hl (by decide) rfl (fun ls hl => ?_)
        refine lv_iinc (v := nI (i + 1)) (lv' := [(2, .int (nI (i + 1))), (1, .int (nI ((fsum nn i) + n))), (0, .ref (A 0))]) E.1.1 E.1.2.1 dX5_statesOfAll_33 hl (k := 1) rfl (nI_1 _) (by decide) rfl (fun ls hl => ?_)
        refine lv_goto (tgt := 4) E.1.1 E.1.2.1 dX5_statesOfAll_36 (by decide) ?_
        rw [hMc.uni (by omega) (hnn i (by omega))] at hl
        exact ih4  (i + 1) ls (by omega) (by omega)  (lv_sub hl [0, 1, 2] rfl)
  exact lp4 (6 - 0 + 1) 0 ls (Nat.lt_succ_self _) (by omega)  (lv_sub hl [0, 1, 2] rfl)

set_option maxHeartbeats 4000000 in
set_option maxRecDepth 100000 in
theorem p_imagesKept (l : Launch) (D : va_G) (cy : Nat → ClassId) (L : List Nat) (f : Nat → va_E) (sz : Nat) (M : List Nat) (A : Nat → Nat) (base : Nat) (SS : Nat → Nat → Bool) (kp : Nat → Bool) (kb : Nat → Nat) (KS : Nat → Nat → Nat → Bool) (hA : AdOK L M A) (hN : NmW cy L f M A base SS kp kb KS)  : Met l yX5_imagesKept (.code yX5_imagesKept cX5_imagesKept 3 (Option.some FieldType.int) :: wsL_law) { frames := 1, cells := 0, slots := 0, locals := 21 } (va_Pc [.ref (A 0)] (PW D cy L f sz)) (vp_Si (fun r => r = nI ((if kp 0 then 1 else 0) + if kp 1 then 2 else 0))) 0 0 (fun _ => False) := by
  refine m_start (by decide) (Nat.le_of_ble_eq_true rfl) ?_
  intro p e R Q s m args below meth c ls hsz hR hQ E hr hlk hnm hw hl
  have hl : lv_has ls 3 [(0, .ref (A 0))] := hl
  obtain ⟨hB, h_nm, ⟨sa, h_sl, hSl⟩, ⟨i1, i2, j1, j2, j3, j4, g, B0, G0, h_d, h_row, h_tr, h_rows, h_goes⟩, hRm⟩ := hN
  have hb2 := hB.two
  obtain ⟨h_im, ⟨ia0, h_g0, h_s0, hI0⟩, ⟨ia1, h_g1, h_s1, hI1⟩⟩ := hRm
  refine lv_iconst (v := nI 0) E.1.1 E.1.2.1 dX5_imagesKept_0 rfl ?_
  refine lv_istore_n (lv' := [(1, .int (nI 0)), (0, .ref (A 0))]) E.1.1 E.1.2.1 dX5_imagesKept_1 rfl hl (by decide) rfl (fun ls hl => ?_)
  refine lv_iconst (v := nI 0) E.1.1 E.1.2.1 dX5_imagesKept_2 rfl ?_
  refine lv_istore_n (lv' := [(2, .int (nI 0)), (1, .int (nI 0)), (0, .ref (A 0))]) E.1.1 E.1.2.1 dX5_imagesKept_3 rfl hl (by decide) rfl (fun ls hl => ?_)
  refine lv_iload_n E.1.1 E.1.2.1 dX5_imagesKept_4 rfl (lv_at hl 0 rfl) ?_
  refine lv_iconst (v := nI 2) E.1.1 E.1.2.1 dX5_imagesKept_5 rfl ?_
  refine k_ge (tgt := 41) E dX5_imagesKept_6 (by decide) (by omega) (by omega) (fun c6 => absurd c6 (by decide)) (fun c6 => ?_)
  refine lv_aload_n E.1.1 E.1.2.1 dX5_imagesKept_9 rfl (lv_at hl 2 rfl) ?_
  refine lv_iload_n E.1.1 E.1.2.1 dX5_imagesKept_10 rfl (lv_at hl 0 rfl) ?_
  refine k_ri (va_runV (As := [.int (nI 0)]) (rest := []) E.1 (c_noImage l D cy L f s.heap.size (A 0) (A 1) (A 2) (A 3) (A 5) base (fun k => A (8 + k)) (nI 0) h_nm h_im) ⟨callB_of 1 E.1.2.2.2.2 (gd_own w2_186) rfl rfl rfl (E.1.2.2.2.2 _ w1_1) (E.1.2.2.2.2 _ w2_183) hd_X5_noImage (by rw [hR]; exact ⟨Nat.le_of_ble_eq_true rfl, Nat.le_of_ble_eq_true rfl⟩), E.1.2.2.2.2 _ w2_185, E.1.2.2.2.2 _ ws_19⟩ (pw_preV (q := (RX5, TX5, 5)) E.2 hw h_nm rfl) rfl rfl hl.1 rfl (lv_room (Nat.le_of_ble_eq_true rfl)) dX5_imagesKept_11 ⟨Nat.zero_le _, Nat.zero_le _⟩) ?_
  refine k_if1 (tgt := 35) E dX5_imagesKept_14 (by decide) (fun c14 => absurd c14 (by rw [in_t (by decide) (by decide)]; decide)) (fun c14 => ?_)
  refine lv_aload_n E.1.1 E.1.2.1 dX5_imagesKept_17 rfl (lv_at hl 2 rfl) ?_
  refine k_get (v := .ref (A 2)) E inlX5 rfl 1 (by decide) w1_232 rfl hw h_nm rfl dX5_imagesKept_18 ?_
  refine lv_iload_n E.1.1 E.1.2.1 dX5_imagesKept_21 rfl (lv_at hl 0 rfl) ?_
  refine k_aald E hw 3 (r := A (8 + 0)) h_im rfl (by omega) (by omega) (rfl) dX5_imagesKept_22 ?_
  refine k_getN (v := .int (b2i (kp 0))) E inlX1 rfl 2 (by decide) (List.mem_of_getElem? (i := 9) rfl) rfl hw h_g0 rfl dX5_imagesKept_23 ?_
  refine k_if0 (tgt := 35) E dX5_imagesKept_26 (by decide) (fun c26 => ?_) (fun c26 => ?_)
  · have hk0 : kp 0 = false := c26
    refine lv_iinc (v := nI 1) (lv' := [(2, .int (nI 1)), (1, .int (nI 0)), (0, .ref (A 0))]) E.1.1 E.1.2.1 dX5_imagesKept_35 hl (k := 0) rfl (rfl) (by decide) rfl (fun ls hl => ?_)
    refine lv_goto (tgt := 4) E.1.1 E.1.2.1 dX5_imagesKept_38 (by decide) ?_
    refine lv_iload_n E.1.1 E.1.2.1 dX5_imagesKept_4 rfl (lv_at hl 0 rfl) ?_
    refine lv_iconst (v := nI 2) E.1.1 E.1.2.1 dX5_imagesKept_5 rfl ?_
    refine k_ge (tgt := 41) E dX5_imagesKept_6 (by decide) (by omega) (by omega) (fun c6 => absurd c6 (by decide)) (fun c6 => ?_)
    refine lv_aload_n E.1.1 E.1.2.1 dX5_imagesKept_9 rfl (lv_at hl 2 rfl) ?_
    refine lv_iload_n E.1.1 E.1.2.1 dX5_imagesKept_10 rfl (lv_at hl 0 rfl) ?_
    refine k_ri (va_runV (As := [.int (nI 1)]) (rest := []) E.1 (c_noImage l D cy L f s.heap.size (A 0) (A 1) (A 2) (A 3) (A 5) base (fun k => A (8 + k)) (nI 1) h_nm h_im) ⟨callB_of 1 E.1.2.2.2.2 (gd_own w2_186) rfl rfl rfl (E.1.2.2.2.2 _ w1_1) (E.1.2.2.2.2 _ w2_183) hd_X5_noImage (by rw [hR]; exact ⟨Nat.le_of_ble_eq_true rfl, Nat.le_of_ble_eq_true rfl⟩), E.1.2.2.2.2 _ w2_185, E.1.2.2.2.2 _ ws_19⟩ (pw_preV (q := (RX5, TX5, 5)) E.2 hw h_nm rfl) rfl rfl hl.1 rfl (lv_room (Nat.le_of_ble_eq_true rfl)) dX5_imagesKept_11 ⟨Nat.zero_le _, Nat.zero_le _⟩) ?_
    refine k_if1 (tgt := 35) E dX5_imagesKept_14 (by decide) (fun c14 => absurd c14 (by rw [in_t (by decide) (by decide)]; decide)) (fun c14 => ?_)
    refine lv_aload_n E.1.1 E.1.2.1 dX5_imagesKept_17 rfl (lv_at hl 2 rfl) ?_
    refine k_get (v := .ref (A 2)) E inlX5 rfl 1 (by decide) w1_232 rfl hw h_nm rfl dX5_imagesKept_18 ?_
    refine lv_iload_n E.1.1 E.1.2.1 dX5_imagesKept_21 rfl (lv_at hl 0 rfl) ?_
    refine k_aald E hw 3 (r := A (8 + 1)) h_im rfl (by omega) (by omega) (rfl) dX5_imagesKept_22 ?_
    refine k_getN (v := .int (b2i (kp 1))) E inlX1 rfl 2 (by decide) (List.mem_of_getElem? (i := 9) rfl) rfl hw h_g1 rfl dX5_imagesKept_23 ?_
    refine k_if0 (tgt := 35) E dX5_imagesKept_26 (by decide) (fun c26 => ?_) (fun c26 => ?_)
    · have hk1 : kp 1 = false := c26
      refine lv_iinc (v := nI 2) (lv' := [(2, .int (nI 2)), (1, .int (nI 0)), (0, .ref (A 0))]) E.1.1 E.1.2.1 dX5_imagesKept_35 hl (k := 0) rfl (rfl) (by decide) rfl (fun ls hl => ?_)
      refine lv_goto (tgt := 4) E.1.1 E.1.2.1 dX5_imagesKept_38 (by decide) ?_
      refine lv_iload_n E.1.1 E.1.2.1 dX5_imagesKept_4 rfl (lv_at hl 0 rfl) ?_
      refine lv_iconst (v := nI 2) E.1.1 E.1.2.1 dX5_imagesKept_5 rfl ?_
      refine k_ge (tgt := 41) E dX5_imagesKept_6 (by decide) (by omega) (by omega) (fun c6 => ?_) (fun c6 => absurd c6 (by decide))
      refine lv_iload_n E.1.1 E.1.2.1 dX5_imagesKept_41 rfl (lv_at hl 1 rfl) ?_
      exact k_iret E hQ hlk hr (by rw [hk0, hk1]; rfl) dX5_imagesKept_42
    · have hk1 : kp 1 = true := c26
      refine lv_iload_n E.1.1 E.1.2.1 dX5_imagesKept_29 rfl (lv_at hl 1 rfl) ?_
      refine lv_iconst (v := nI 1) E.1.1 E.1.2.1 dX5_imagesKept_30 rfl ?_
      refine lv_iload_n E.1.1 E.1.2.1 dX5_imagesKept_31 rfl (lv_at hl 0 rfl) ?_
      refine lv_ishl E.1.1 E.1.2.1 dX5_imagesKept_32 ?_
      refine k_top E (nI 2) (by decide) ?_
      refine k_add E dX5_imagesKept_33 ?_
      refine k_top E (nI 2) rfl ?_
      refine lv_istore_n (lv' := [(1, .int (nI 2)), (2, .int (nI 1)), (0, .ref (A 0))]) E.1.1 E.1.2.1 dX5_imagesKept_34 rfl hl (by decide) rfl (fun ls hl => ?_)
      refine lv_iinc (v := nI 2) (lv' := [(2, .int (nI 2)), (1, .int (nI 2)), (0, .ref (A 0))]) E.1.1 E.1.2.1 dX5_imagesKept_35 hl (k := 1) rfl (rfl) (by decide) rfl (fun ls hl => ?_)
      refine lv_goto (tgt := 4) E.1.1 E.1.2.1 dX5_imagesKept_38 (by decide) ?_
      refine lv_iload_n E.1.1 E.1.2.1 dX5_imagesKept_4 rfl (lv_at hl 0 rfl) ?_
      refine lv_iconst (v := nI 2) E.1.1 E.1.2.1 dX5_imagesKept_5 rfl ?_
      refine k_ge (tgt := 41) E dX5_imagesKept_6 (by decide) (by omega) (by omega) (fun c6 => ?_) (fun c6 => absurd c6 (by decide))
      refine lv_iload_n E.1.1 E.1.2.1 dX5_imagesKept_41 rfl (lv_at hl 1 rfl) ?_
      exact k_iret E hQ hlk hr (by rw [hk0, hk1]; rfl) dX5_imagesKept_42
  · have hk0 : kp 0 = true := c26
    refine lv_iload_n E.1.1 E.1.2.1 dX5_imagesKept_29 rfl (lv_at hl 1 rfl) ?_
    refine lv_iconst (v := nI 1) E.1.1 E.1.2.1 dX5_imagesKept_30 rfl ?_
    refine lv_iload_n E.1.1 E.1.2.1 dX5_imagesKept_31 rfl (lv_at hl 0 rfl) ?_
    refine lv_ishl E.1.1 E.1.2.1 dX5_imagesKept_32 ?_
    refine k_top E (nI 1) (by decide) ?_
    refine k_add E dX5_imagesKept_33 ?_
    refine k_top E (nI 1) rfl ?_
    refine lv_istore_n (lv' := [(1, .int (nI 1)), (2, .int (nI 0)), (0, .ref (A 0))]) E.1.1 E.1.2.1 dX5_imagesKept_34 rfl hl (by decide) rfl (fun ls hl => ?_)
    refine lv_iinc (v := nI 1) (lv' := [(2, .int (nI 1)), (1, .int (nI 1)), (0, .ref (A 0))]) E.1.1 E.1.2.1 dX5_imagesKept_35 hl (k := 1) rfl (rfl) (by decide) rfl (fun ls hl => ?_)
    refine lv_goto (tgt := 4) E.1.1 E.1.2.1 dX5_imagesKept_38 (by decide) ?_
    refine lv_iload_n E.1.1 E.1.2.1 dX5_imagesKept_4 rfl (lv_at hl 0 rfl) ?_
    refine lv_iconst (v := nI 2) E.1.1 E.1.2.1 dX5_imagesKept_5 rfl ?_
    refine k_ge (tgt := 41) E dX5_imagesKept_6 (by decide) (by omega) (by omega) (fun c6 => absurd c6 (by decide)) (fun c6 => ?_)
    refine lv_aload_n E.1.1 E.1.2.1 dX5_imagesKept_9 rfl (lv_at hl 2 rfl) ?_
    refine lv_iload_n E.1.1 E.1.2.1 dX5_imagesKept_10 rfl (lv_at hl 0 rfl) ?_
    refine k_ri (va_runV (As := [.int (nI 1)]) (rest := []) E.1 (c_noImage l D cy L f s.heap.size (A 0) (A 1) (A 2) (A 3) (A 5) base (fun k => A (8 + k)) (nI 1) h_nm h_im) ⟨callB_of 1 E.1.2.2.2.2 (gd_own w2_186) rfl rfl rfl (E.1.2.2.2.2 _ w1_1) (E.1.2.2.2.2 _ w2_183) hd_X5_noImage (by rw [hR]; exact ⟨Nat.le_of_ble_eq_true rfl, Nat.le_of_ble_eq_true rfl⟩), E.1.2.2.2.2 _ w2_185, E.1.2.2.2.2 _ ws_19⟩ (pw_preV (q := (RX5, TX5, 5)) E.2 hw h_nm rfl) rfl rfl hl.1 rfl (lv_room (Nat.le_of_ble_eq_true rfl)) dX5_imagesKept_11 ⟨Nat.zero_le _, Nat.zero_le _⟩) ?_
    refine k_if1 (tgt := 35) E dX5_imagesKept_14 (by decide) (fun c14 => absurd c14 (by rw [in_t (by decide) (by decide)]; decide)) (fun c14 => ?_)
    refine lv_aload_n E.1.1 E.1.2.1 dX5_imagesKept_17 rfl (lv_at hl 2 rfl) ?_
    refine k_get (v := .ref (A 2)) E inlX5 rfl 1 (by decide) w1_232 rfl hw h_nm rfl dX5_imagesKept_18 ?_
    refine lv_iload_n E.1.1 E.1.2.1 dX5_imagesKept_21 rfl (lv_at hl 0 rfl) ?_
    refine k_aald E hw 3 (r := A (8 + 1)) h_im rfl (by omega) (by omega) (rfl) dX5_imagesKept_22 ?_
    refine k_getN (v := .int (b2i (kp 1))) E inlX1 rfl 2 (by decide) (List.mem_of_getElem? (i := 9) rfl) rfl hw h_g1 rfl dX5_imagesKept_23 ?_
    refine k_if0 (tgt := 35) E dX5_imagesKept_26 (by decide) (fun c26 => ?_) (fun c26 => ?_)
    · have hk1 : kp 1 = false := c26
      refine lv_iinc (v := nI 2) (lv' := [(2, .int (nI 2)), (1, .int (nI 1)), (0, .ref (A 0))]) E.1.1 E.1.2.1 dX5_imagesKept_35 hl (k := 0) rfl (rfl) (by decide) rfl (fun ls hl => ?_)
      refine lv_goto (tgt := 4) E.1.1 E.1.2.1 dX5_imagesKept_38 (by decide) ?_
      refine lv_iload_n E.1.1 E.1.2.1 dX5_imagesKept_4 rfl (lv_at hl 0 rfl) ?_
      refine lv_iconst (v := nI 2) E.1.1 E.1.2.1 dX5_imagesKept_5 rfl ?_
      refine k_ge (tgt := 41) E dX5_imagesKept_6 (by decide) (by omega) (by omega) (fun c6 => ?_) (fun c6 => absurd c6 (by decide))
      refine lv_iload_n E.1.1 E.1.2.1 dX5_imagesKept_41 rfl (lv_at hl 1 rfl) ?_
      exact k_iret E hQ hlk hr (by rw [hk0, hk1]; rfl) dX5_imagesKept_42
    · have hk1 : kp 1 = true := c26
      refine lv_iload_n E.1.1 E.1.2.1 dX5_imagesKept_29 rfl (lv_at hl 1 rfl) ?_
      refine lv_iconst (v := nI 1) E.1.1 E.1.2.1 dX5_imagesKept_30 rfl ?_
      refine lv_iload_n E.1.1 E.1.2.1 dX5_imagesKept_31 rfl (lv_at hl 0 rfl) ?_
      refine lv_ishl E.1.1 E.1.2.1 dX5_imagesKept_32 ?_
      refine k_top E (nI 2) (by decide) ?_
      refine k_add E dX5_imagesKept_33 ?_
      refine k_top E (nI 3) rfl ?_
      refine lv_istore_n (lv' := [(1, .int (nI 3)), (2, .int (nI 1)), (0, .ref (A 0))]) E.1.1 E.1.2.1 dX5_imagesKept_34 rfl hl (by decide) rfl (fun ls hl => ?_)
      refine lv_iinc (v := nI 2) (lv' := [(2, .int (nI 2)), (1, .int (nI 3)), (0, .ref (A 0))]) E.1.1 E.1.2.1 dX5_imagesKept_35 hl (k := 1) rfl (rfl) (by decide) rfl (fun ls hl => ?_)
      refine lv_goto (tgt := 4) E.1.1 E.1.2.1 dX5_imagesKept_38 (by decide) ?_
      refine lv_iload_n E.1.1 E.1.2.1 dX5_imagesKept_4 rfl (lv_at hl 0 rfl) ?_
      refine lv_iconst (v := nI 2) E.1.1 E.1.2.1 dX5_imagesKept_5 rfl ?_
      refine k_ge (tgt := 41) E dX5_imagesKept_6 (by decide) (by omega) (by omega) (fun c6 => ?_) (fun c6 => absurd c6 (by decide))
      refine lv_iload_n E.1.1 E.1.2.1 dX5_imagesKept_41 rfl (lv_at hl 1 rfl) ?_
      exact k_iret E hQ hlk hr (by rw [hk0, hk1]; rfl) dX5_imagesKept_42

set_option maxHeartbeats 4000000 in
set_option maxRecDepth 100000 in
theorem p_count (l : Launch) (D : va_G) (cy : Nat → ClassId) (L : List Nat) (f : Nat → va_E) (sz : Nat) (M : List Nat) (A : Nat → Nat) (base : Nat) (SS : Nat → Nat → Bool) (kp : Nat → Bool) (kb : Nat → Nat) (KS : Nat → Nat → Nat → Bool) (hA : AdOK L M A) (hN : NmW cy L f M A base SS kp kb KS) (what : Int32) : Met l yX5_count (.code yX5_count cX5_count 2 (Option.some FieldType.int) :: wsL_law) { frames := 5, cells := 0, slots := 0, locals := 108 } (va_Pc [.ref (A 0), .int what] (PW D cy L f sz)) (vp_Si (fun r => rd_count base SS kp what r)) 0 0 (fun _ => False) := by
  refine m_start (by decide) (Nat.le_of_ble_eq_true rfl) ?_
  intro p e R Q s m args below meth c ls hsz hR hQ E hr hlk hnm hw hl
  have hl : lv_has ls 2 [(0, .ref (A 0)), (1, .int what)] := hl
  have hN0 := hN
  obtain ⟨hB, h_nm, ⟨sa, h_sl, hSl⟩, ⟨i1, i2, j1, j2, j3, j4, g, B0, G0, h_d, h_row, h_tr, h_rows, h_goes⟩, hRm⟩ := hN
  have hb2 := hB.two
  obtain ⟨nn, hnn⟩ := nn_ex (base := base) (SS := SS) (fun j hj => by obtain ⟨_, _, _, n, _, hm, _⟩ := hSl j hj; exact ⟨n, hm⟩)
  refine lv_iload_n E.1.1 E.1.2.1 dX5_count_0 rfl (lv_at hl 1 rfl) ?_
  cases hsw : i32in what 0 (nI 4)
  · refine lv_tableOut (tgt := 61) E.1.1 E.1.2.1 dX5_count_1 (tab_out (by decide) hsw) (by decide) ?_
    refine lv_bipush (v := -2) E.1.1 E.1.2.1 dX5_count_61 rfl ?_
    exact k_iret E hQ hlk hr (by unfold rd_count; rw [if_pos hsw]) dX5_count_63
  · obtain ⟨k0, hk0, rfl⟩ := in_ex (by decide) hsw
    rcases (show k0 = 0 ∨ k0 = 1 ∨ k0 = 2 ∨ k0 = 3 ∨ k0 = 4 by omega) with rfl | rfl | rfl | rfl | rfl
    · refine lv_tableIn (tgt := 36) E.1.1 E.1.2.1 dX5_count_1 (by decide) (by decide) (off := 35) (by decide) (by decide) ?_
      refine lv_aload_n E.1.1 E.1.2.1 dX5_count_36 rfl (lv_at hl 0 rfl) ?_
      refine k_ri (va_runV (As := []) (rest := []) E.1 (p_slotsWithNumbers l D cy L f s.heap.size M A base SS kp kb KS hA hN0 ) ⟨callB_of 0 E.1.2.2.2.2 (gd_own w2_209) rfl rfl rfl (E.1.2.2.2.2 _ w1_1) (E.1.2.2.2.2 _ w2_206) hd_X5_slotsWithNumbers (by rw [hR]; exact ⟨Nat.le_of_ble_eq_true rfl, Nat.le_of_ble_eq_true rfl⟩), E.1.2.2.2.2 _ w2_208, E.1.2.2.2.2 _ ws_20⟩ (pw_preV (q := (RX5, TX5, 5)) E.2 hw h_nm rfl) rfl rfl hl.1 rfl (lv_room (Nat.le_of_ble_eq_true rfl)) dX5_count_37 ⟨Nat.zero_le _, Nat.zero_le _⟩) ?_
      exact k_iret E hQ hlk hr (by unfold rd_count; rw [if_neg (by rw [in_t (by decide) (by decide)]; decide), ix_nI (by omega)]; exact Or.inl ⟨rfl, rfl⟩) dX5_count_40
    · refine lv_tableIn (tgt := 41) E.1.1 E.1.2.1 dX5_count_1 (by decide) (by decide) (off := 40) (by decide) (by decide) ?_
      refine lv_aload_n E.1.1 E.1.2.1 dX5_count_41 rfl (lv_at hl 0 rfl) ?_
      refine k_ri (va_runV (As := []) (rest := []) E.1 (p_unlikeSets l D cy L f s.heap.size M A base SS kp kb KS hA hN0 ) ⟨callB_of 0 E.1.2.2.2.2 (gd_own w2_213) rfl rfl rfl (E.1.2.2.2.2 _ w1_1) (E.1.2.2.2.2 _ w2_210) hd_X5_unlikeSets (by rw [hR]; exact ⟨Nat.le_of_ble_eq_true rfl, Nat.le_of_ble_eq_true rfl⟩), E.1.2.2.2.2 _ w2_212, E.1.2.2.2.2 _ ws_21⟩ (pw_preV (q := (RX5, TX5, 5)) E.2 hw h_nm rfl) rfl rfl hl.1 rfl (lv_room (Nat.le_of_ble_eq_true rfl)) dX5_count_42 ⟨Nat.zero_le _, Nat.zero_le _⟩) ?_
      exact k_iret E hQ hlk hr (by unfold rd_count; rw [if_neg (by rw [in_t (by decide) (by decide)]; decide), ix_nI (by omega)]; exact Or.inr (Or.inl ⟨rfl, rfl⟩)) dX5_count_45
    · refine lv_tableIn (tgt := 46) E.1.1 E.1.2.1 dX5_count_1 (by decide) (by decide) (off := 45) (by decide) (by decide) ?_
      refine lv_aload_n E.1.1 E.1.2.1 dX5_count_46 rfl (lv_at hl 0 rfl) ?_
      refine k_get (v := .int (nI base)) E inlX5 rfl 4 (by decide) w1_235 rfl hw h_nm rfl dX5_count_47 ?_
      exact k_iret E hQ hlk hr (by unfold rd_count; rw [if_neg (by rw [in_t (by decide) (by decide)]; decide), ix_nI (by omega)]; exact Or.inr (Or.inr (Or.inl ⟨rfl, rfl⟩))) dX5_count_50
    · refine lv_tableIn (tgt := 51) E.1.1 E.1.2.1 dX5_count_1 (by decide) (by decide) (off := 50) (by decide) (by decide) ?_
      refine lv_aload_n E.1.1 E.1.2.1 dX5_count_51 rfl (lv_at hl 0 rfl) ?_
      refine k_ri (va_runV (As := []) (rest := []) E.1 (p_statesOfAll l D cy L f s.heap.size M A base SS kp kb KS hA hN0 nn hnn) ⟨callB_of 0 E.1.2.2.2.2 (gd_own w2_221) rfl rfl rfl (E.1.2.2.2.2 _ w1_1) (E.1.2.2.2.2 _ w2_218) hd_X5_statesOfAll (by rw [hR]; exact ⟨Nat.le_of_ble_eq_true rfl, Nat.le_of_ble_eq_true rfl⟩), E.1.2.2.2.2 _ w2_220, E.1.2.2.2.2 _ ws_23⟩ (pw_preV (q := (RX5, TX5, 5)) E.2 hw h_nm rfl) rfl rfl hl.1 rfl (lv_room (Nat.le_of_ble_eq_true rfl)) dX5_count_52 ⟨Nat.zero_le _, Nat.zero_le _⟩) ?_
      exact k_iret E hQ hlk hr (by unfold rd_count; rw [if_neg (by rw [in_t (by decide) (by decide)]; decide), ix_nI (by omega)]; exact Or.inr (Or.inr (Or.inr (Or.inl ⟨rfl, nn, hnn, rfl⟩)))) dX5_count_55
    · refine lv_tableIn (tgt := 56) E.1.1 E.1.2.1 dX5_count_1 (by decide) (by decide) (off := 55) (by decide) (by decide) ?_
      refine lv_aload_n E.1.1 E.1.2.1 dX5_count_56 rfl (lv_at hl 0 rfl) ?_
      refine k_ri (va_runV (As := []) (rest := []) E.1 (p_imagesKept l D cy L f s.heap.size M A base SS kp kb KS hA hN0 ) ⟨callB_of 0 E.1.2.2.2.2 (gd_own w2_225) rfl rfl rfl (E.1.2.2.2.2 _ w1_1) (E.1.2.2.2.2 _ w2_222) hd_X5_imagesKept (by rw [hR]; exact ⟨Nat.le_of_ble_eq_true rfl, Nat.le_of_ble_eq_true rfl⟩), E.1.2.2.2.2 _ w2_224, E.1.2.2.2.2 _ ws_24⟩ (pw_preV (q := (RX5, TX5, 5)) E.2 hw h_nm rfl) rfl rfl hl.1 rfl (lv_room (Nat.le_of_ble_eq_true rfl)) dX5_count_57 ⟨Nat.zero_le _, Nat.zero_le _⟩) ?_
      exact k_iret E hQ hlk hr (by unfold rd_count; rw [if_neg (by rw [in_t (by decide) (by decide)]; decide), ix_nI (by omega)]; exact Or.inr (Or.inr (Or.inr (Or.inr (⟨rfl, rfl⟩))))) dX5_count_60
