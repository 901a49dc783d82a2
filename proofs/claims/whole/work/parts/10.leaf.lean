theorem fa_of_nlt {a b : Int32} (h : ¬ a < b) : b ≤ a := by
  rw [Int32.le_iff_toInt_le]
  rw [Int32.lt_iff_toInt_lt] at h
  omega
theorem fa_lt_nle {a b : Int32} (h : a < b) : ¬ b ≤ a := by
  rw [Int32.le_iff_toInt_le]
  rw [Int32.lt_iff_toInt_lt] at h
  omega
set_option maxHeartbeats 4000000 in
set_option maxRecDepth 100000 in
theorem c_bit (l : Launch) (D : va_G) (cy : Nat → ClassId) (L : List Nat) (f : Nat → va_E) (sz : Nat) (a n len : Nat) (b : Nat → Bool) (hn : n < 2147483648) (hlen : len < 33554432) (h_row : cel L f a (.inl (cy 1, len, .inr (.inl (wd b))))) : Met l yX5_bit (.code yX5_bit cX5_bit 3 (Option.some FieldType.boolean) :: wsL_law) { frames := 0, cells := 0, slots := 0, locals := 0 } (va_Pc [.ref a, .int (nI n)] (PW D cy L f sz)) (vp_Si (fun r => r = b2i (decide (n < 64 * len) && b n))) 0 0 (fun _ => False) := by
  refine m_start (by decide) (Nat.le_of_ble_eq_true rfl) ?_
  intro p e R Q s m args below meth c ls hsz hR hQ E hr hlk hnm hw hl
  have hl : lv_has ls 3 [(0, .ref a), (1, .int (nI n))] := hl
  refine lv_iload_n E.1.1 E.1.2.1 dX5_bit_0 rfl (lv_at hl 1 rfl) ?_
  refine lv_bipush (v := nI 6) E.1.1 E.1.2.1 dX5_bit_1 rfl ?_
  refine k_shr6 E dX5_bit_3 (by omega) ?_
  refine lv_istore_n (lv' := [(2, .int (nI (n / 64))), (0, .ref a), (1, .int (nI n))]) E.1.1 E.1.2.1 dX5_bit_4 rfl hl (by decide) rfl (fun ls hl => ?_)
  refine lv_iload_n E.1.1 E.1.2.1 dX5_bit_5 rfl (lv_at hl 0 rfl) ?_
  refine k_zlt (tgt := 31) E dX5_bit_6 (by decide) (by omega) ?_
  refine lv_iload_n E.1.1 E.1.2.1 dX5_bit_9 rfl (lv_at hl 0 rfl) ?_
  refine lv_aload_n E.1.1 E.1.2.1 dX5_bit_10 rfl (lv_at hl 1 rfl) ?_
  refine k_alen E hw 1 h_row rfl (n := len) rfl dX5_bit_11 ?_
  refine k_ge (tgt := 31) E dX5_bit_12 (by decide) (by omega) (by omega) (fun c12 => ?_) (fun c12 => ?_)
  · refine lv_iconst (v := nI 0) E.1.1 E.1.2.1 dX5_bit_31 rfl ?_
    refine k_top E (b2i false) rfl ?_
    exact k_zret E hQ hlk hr (by rw [show decide (n < 64 * len) = false from decide_eq_false (by omega)]; rfl) dX5_bit_32
  · refine lv_aload_n E.1.1 E.1.2.1 dX5_bit_15 rfl (lv_at hl 1 rfl) ?_
    refine lv_iload_n E.1.1 E.1.2.1 dX5_bit_16 rfl (lv_at hl 0 rfl) ?_
    refine k_lald E hw (v := (wd b) (n / 64)) h_row (by omega) (by omega) (rfl) dX5_bit_17 ?_
    refine lv_iload_n E.1.1 E.1.2.1 dX5_bit_18 rfl (lv_at hl 2 rfl) ?_
    refine lv_lushr E.1.1 E.1.2.1 dX5_bit_19 rfl ?_
    refine lv_lconst (v := 1) E.1.1 E.1.2.1 dX5_bit_20 rfl ?_
    refine lv_land E.1.1 E.1.2.1 dX5_bit_21 ?_
    refine lv_lconst (v := 0) E.1.1 E.1.2.1 dX5_bit_22 rfl ?_
    refine W.lcmp E.1.1 E.1.2.1 dX5_bit_23 ?_
    refine k_top E (b2i (b n)) (wd_cmp hn (by rw [show 64 * (n / 64) + n % 64 = n by omega])) ?_
    refine k_if0 (tgt := 31) E dX5_bit_24 (by decide) (fun c24 => ?_) (fun c24 => ?_)
    · refine lv_iconst (v := nI 0) E.1.1 E.1.2.1 dX5_bit_31 rfl ?_
      refine k_top E (b2i false) rfl ?_
      exact k_zret E hQ hlk hr (by rw [show decide (n < 64 * len) = true from decide_eq_true (by omega), c24]; rfl) dX5_bit_32
    · refine lv_iconst (v := nI 1) E.1.1 E.1.2.1 dX5_bit_27 rfl ?_
      refine lv_goto (tgt := 32) E.1.1 E.1.2.1 dX5_bit_28 (by decide) ?_
      refine k_top E (b2i true) rfl ?_
      exact k_zret E hQ hlk hr (by rw [show decide (n < 64 * len) = true from decide_eq_true (by omega), c24]; rfl) dX5_bit_32

set_option maxHeartbeats 4000000 in
set_option maxRecDepth 100000 in
theorem c_setBit (l : Launch) (D : va_G) (cy : Nat → ClassId) (L : List Nat) (f0 : Nat → va_E) (sz : Nat) (a n len : Nat) (b : Nat → Bool) (hn : n < 64 * len) (hlen : len < 33554432) (h_row : cel L f0 a (.inl (cy 1, len, .inr (.inl (wd b))))) : Met l yX5_setBit (.code yX5_setBit cX5_setBit 3 none :: wsL_law) { frames := 0, cells := 0, slots := 0, locals := 0 } (va_Pc [.ref a, .int (nI n)] (PW D cy L f0 sz)) (va_Qv (fun u : List Nat × (Nat → va_E) => L = u.1 ∧ (∀ b ∈ L, b ≠ a → u.2 b = f0 b) ∧ cel L u.2 a (.inl (cy 1, len, .inr (.inl (wd (bset b n true)))))) (PB D (AW L sz)) (AW L sz)) 0 0 (AW L sz) := by
  refine m_start (by decide) (Nat.le_of_ble_eq_true rfl) ?_
  intro p e R Q s m args below meth c ls hsz hR hQ E hr hlk hnm hw hl
  have hl : lv_has ls 3 [(0, .ref a), (1, .int (nI n))] := hl
  obtain ⟨H, hH⟩ : ∃ X, X = s.heap := ⟨_, rfl⟩
  obtain ⟨locs, hlocs⟩ : ∃ X : List Loc, X = [] := ⟨_, rfl⟩
  have hw0 := hw
  obtain ⟨f, hf0⟩ : ∃ X, X = f0 := ⟨_, rfl⟩
  rw [← hf0] at h_row
  have hw : WW D (AW L sz) s.heap L f H locs := by rw [hH, hlocs, hf0]; exact hw
  have hF : ∀ b ∈ L, b ≠ a → f b = f0 b := fun b hb h0 => by rw [hf0]
  suffices hgo : W p l e R s m args below meth c H locs 0 0 Q (F0 m 0 ls []) by rw [hH, hlocs] at hgo; exact hgo
  clear hH hlocs hw0 hf0
  have hLs : ∀ b ∈ L, b ∈ L := fun _ h => h
  refine lv_iload_n E.1.1 E.1.2.1 dX5_setBit_0 rfl (lv_at hl 1 rfl) ?_
  refine lv_bipush (v := nI 6) E.1.1 E.1.2.1 dX5_setBit_1 rfl ?_
  refine k_shr6 E dX5_setBit_3 (by omega) ?_
  refine lv_istore_n (lv' := [(2, .int (nI (n / 64))), (0, .ref a), (1, .int (nI n))]) E.1.1 E.1.2.1 dX5_setBit_4 rfl hl (by decide) rfl (fun ls hl => ?_)
  refine lv_iload_n E.1.1 E.1.2.1 dX5_setBit_5 rfl (lv_at hl 0 rfl) ?_
  refine k_zlt (tgt := 24) E dX5_setBit_6 (by decide) (by omega) ?_
  refine lv_iload_n E.1.1 E.1.2.1 dX5_setBit_9 rfl (lv_at hl 0 rfl) ?_
  refine lv_aload_n E.1.1 E.1.2.1 dX5_setBit_10 rfl (lv_at hl 1 rfl) ?_
  refine k_alen E hw 1 h_row rfl (n := len) rfl dX5_setBit_11 ?_
  refine k_ge (tgt := 24) E dX5_setBit_12 (by decide) (by omega) (by omega) (fun c12 => absurd c12 (by omega)) (fun c12 => ?_)
  refine lv_aload_n E.1.1 E.1.2.1 dX5_setBit_15 rfl (lv_at hl 1 rfl) ?_
  refine lv_iload_n E.1.1 E.1.2.1 dX5_setBit_16 rfl (lv_at hl 0 rfl) ?_
  refine lv_dup2_11 E.1.1 E.1.2.1 dX5_setBit_17 rfl rfl ?_
  refine k_lald E hw (v := (wd b) (n / 64)) h_row (by omega) (by omega) (rfl) dX5_setBit_18 ?_
  refine lv_lconst (v := 1) E.1.1 E.1.2.1 dX5_setBit_19 rfl ?_
  refine lv_iload_n E.1.1 E.1.2.1 dX5_setBit_20 rfl (lv_at hl 2 rfl) ?_
  refine lv_lshl E.1.1 E.1.2.1 dX5_setBit_21 rfl ?_
  refine lv_lor E.1.1 E.1.2.1 dX5_setBit_22 ?_
  refine k_last E hw (wd (bset b n true)) h_row (by omega) (by omega) (fun j hj => by
    by_cases h : j = n / 64
    · rw [if_pos h, h]; exact wd_set (by omega) rfl
    · rw [if_neg h]; exact wd_or_ne (fun q => h q.symm)) dX5_setBit_23 (fun f H locs h_row hfr hw => ?_)
  have hF : ∀ b ∈ L, b ≠ a → f b = f0 b := fun b hb h0 => (hfr b h0).trans (hF b hb h0)
  exact k_mvret E hQ hlk hr hw (Nat.le_of_ble_eq_true rfl) (Nat.le_of_ble_eq_true rfl) (⟨rfl, hF, h_row⟩) dX5_setBit_24

set_option maxHeartbeats 4000000 in
set_option maxRecDepth 100000 in
theorem c_clearBit (l : Launch) (D : va_G) (cy : Nat → ClassId) (L : List Nat) (f0 : Nat → va_E) (sz : Nat) (a n len : Nat) (b : Nat → Bool) (hn : n < 64 * len) (hlen : len < 33554432) (h_row : cel L f0 a (.inl (cy 1, len, .inr (.inl (wd b))))) : Met l yX5_clearBit (.code yX5_clearBit cX5_clearBit 3 none :: wsL_law) { frames := 0, cells := 0, slots := 0, locals := 0 } (va_Pc [.ref a, .int (nI n)] (PW D cy L f0 sz)) (va_Qv (fun u : List Nat × (Nat → va_E) => L = u.1 ∧ (∀ b ∈ L, b ≠ a → u.2 b = f0 b) ∧ cel L u.2 a (.inl (cy 1, len, .inr (.inl (wd (bset b n false)))))) (PB D (AW L sz)) (AW L sz)) 0 0 (AW L sz) := by
  refine m_start (by decide) (Nat.le_of_ble_eq_true rfl) ?_
  intro p e R Q s m args below meth c ls hsz hR hQ E hr hlk hnm hw hl
  have hl : lv_has ls 3 [(0, .ref a), (1, .int (nI n))] := hl
  obtain ⟨H, hH⟩ : ∃ X, X = s.heap := ⟨_, rfl⟩
  obtain ⟨locs, hlocs⟩ : ∃ X : List Loc, X = [] := ⟨_, rfl⟩
  have hw0 := hw
  obtain ⟨f, hf0⟩ : ∃ X, X = f0 := ⟨_, rfl⟩
  rw [← hf0] at h_row
  have hw : WW D (AW L sz) s.heap L f H locs := by rw [hH, hlocs, hf0]; exact hw
  have hF : ∀ b ∈ L, b ≠ a → f b = f0 b := fun b hb h0 => by rw [hf0]
  suffices hgo : W p l e R s m args below meth c H locs 0 0 Q (F0 m 0 ls []) by rw [hH, hlocs] at hgo; exact hgo
  clear hH hlocs hw0 hf0
  have hLs : ∀ b ∈ L, b ∈ L := fun _ h => h
  refine lv_iload_n E.1.1 E.1.2.1 dX5_clearBit_0 rfl (lv_at hl 1 rfl) ?_
  refine lv_bipush (v := nI 6) E.1.1 E.1.2.1 dX5_clearBit_1 rfl ?_
  refine k_shr6 E dX5_clearBit_3 (by omega) ?_
  refine lv_istore_n (lv' := [(2, .int (nI (n / 64))), (0, .ref a), (1, .int (nI n))]) E.1.1 E.1.2.1 dX5_clearBit_4 rfl hl (by decide) rfl (fun ls hl => ?_)
  refine lv_iload_n E.1.1 E.1.2.1 dX5_clearBit_5 rfl (lv_at hl 0 rfl) ?_
  refine k_zlt (tgt := 28) E dX5_clearBit_6 (by decide) (by omega) ?_
  refine lv_iload_n E.1.1 E.1.2.1 dX5_clearBit_9 rfl (lv_at hl 0 rfl) ?_
  refine lv_aload_n E.1.1 E.1.2.1 dX5_clearBit_10 rfl (lv_at hl 1 rfl) ?_
  refine k_alen E hw 1 h_row rfl (n := len) rfl dX5_clearBit_11 ?_
  refine k_ge (tgt := 28) E dX5_clearBit_12 (by decide) (by omega) (by omega) (fun c12 => absurd c12 (by omega)) (fun c12 => ?_)
  refine lv_aload_n E.1.1 E.1.2.1 dX5_clearBit_15 rfl (lv_at hl 1 rfl) ?_
  refine lv_iload_n E.1.1 E.1.2.1 dX5_clearBit_16 rfl (lv_at hl 0 rfl) ?_
  refine lv_dup2_11 E.1.1 E.1.2.1 dX5_clearBit_17 rfl rfl ?_
  refine k_lald E hw (v := (wd b) (n / 64)) h_row (by omega) (by omega) (rfl) dX5_clearBit_18 ?_
  refine lv_lconst (v := 1) E.1.1 E.1.2.1 dX5_clearBit_19 rfl ?_
  refine lv_iload_n E.1.1 E.1.2.1 dX5_clearBit_20 rfl (lv_at hl 2 rfl) ?_
  refine lv_lshl E.1.1 E.1.2.1 dX5_clearBit_21 rfl ?_
  refine lv_ldc2 (v := (-1)) E.1.1 E.1.2.1 E.1.2.2.2.1 (E.1.2.2.2.2 _ w1_138) dX5_clearBit_22 ?_
  refine lv_lxor E.1.1 E.1.2.1 dX5_clearBit_25 ?_
  refine lv_land E.1.1 E.1.2.1 dX5_clearBit_26 ?_
  refine k_last E hw (wd (bset b n false)) h_row (by omega) (by omega) (fun j hj => by
    by_cases h : j = n / 64
    · rw [if_pos h, h]; exact wd_clr (by omega) rfl
    · rw [if_neg h]; exact wd_or_ne (fun q => h q.symm)) dX5_clearBit_27 (fun f H locs h_row hfr hw => ?_)
  have hF : ∀ b ∈ L, b ≠ a → f b = f0 b := fun b hb h0 => (hfr b h0).trans (hF b hb h0)
  exact k_mvret E hQ hlk hr hw (Nat.le_of_ble_eq_true rfl) (Nat.le_of_ble_eq_true rfl) (⟨rfl, hF, h_row⟩) dX5_clearBit_28

set_option maxHeartbeats 4000000 in
set_option maxRecDepth 100000 in
theorem c_folded (l : Launch) (D : va_G) (cy : Nat → ClassId) (L : List Nat) (f : Nat → va_E) (sz : Nat) (n t p0 : Nat) (hp : 0 < p0) (hn : n < 2147483648) (ht : t + p0 < 2147483648) : Met l yX5_folded (.code yX5_folded cX5_folded 3 (Option.some FieldType.int) :: wsL_law) { frames := 0, cells := 0, slots := 0, locals := 0 } (va_Pc [.int (nI n), .int (nI t), .int (nI p0)] (PW D cy L f sz)) (vp_Si (fun r => r = nI (fold t p0 n))) 0 0 (fun _ => False) := by
  refine m_start (by decide) (Nat.le_of_ble_eq_true rfl) ?_
  intro p e R Q s m args below meth c ls hsz hR hQ E hr hlk hnm hw hl
  have hl : lv_has ls 3 [(0, .int (nI n)), (1, .int (nI t)), (2, .int (nI p0))] := hl
  refine lv_iload_n E.1.1 E.1.2.1 dX5_folded_0 rfl (lv_at hl 0 rfl) ?_
  refine lv_iload_n E.1.1 E.1.2.1 dX5_folded_1 rfl (lv_at hl 1 rfl) ?_
  refine lv_iload_n E.1.1 E.1.2.1 dX5_folded_2 rfl (lv_at hl 2 rfl) ?_
  refine k_add E dX5_folded_3 ?_
  refine k_lt (tgt := 12) E dX5_folded_4 (by decide) (by omega) (by omega) (fun c4 => ?_) (fun c4 => ?_)
  · refine lv_iload_n E.1.1 E.1.2.1 dX5_folded_12 rfl (lv_at hl 0 rfl) ?_
    refine lv_goto (tgt := 23) E.1.1 E.1.2.1 dX5_folded_13 (by decide) ?_
    exact k_iret E hQ hlk hr (by rw [fold, if_pos c4]) dX5_folded_23
  · refine lv_iload_n E.1.1 E.1.2.1 dX5_folded_7 rfl (lv_at hl 2 rfl) ?_
    refine lv_iconst (v := nI 1) E.1.1 E.1.2.1 dX5_folded_8 rfl ?_
    refine k_ge (tgt := 16) E dX5_folded_9 (by decide) (by omega) (by omega) (fun c9 => ?_) (fun c9 => absurd c9 (by omega))
    refine lv_iload_n E.1.1 E.1.2.1 dX5_folded_16 rfl (lv_at hl 1 rfl) ?_
    refine lv_iload_n E.1.1 E.1.2.1 dX5_folded_17 rfl (lv_at hl 0 rfl) ?_
    refine lv_iload_n E.1.1 E.1.2.1 dX5_folded_18 rfl (lv_at hl 1 rfl) ?_
    refine k_sub E dX5_folded_19 (by omega) ?_
    refine lv_iload_n E.1.1 E.1.2.1 dX5_folded_20 rfl (lv_at hl 2 rfl) ?_
    refine k_rem E dX5_folded_21 (by omega) (by omega) (by omega) ?_
    refine k_add E dX5_folded_22 ?_
    exact k_iret E hQ hlk hr (by rw [fold, if_neg (by omega)]) dX5_folded_23

set_option maxHeartbeats 4000000 in
set_option maxRecDepth 100000 in
theorem c_within (l : Launch) (D : va_G) (cy : Nat → ClassId) (L : List Nat) (f : Nat → va_E) (sz : Nat) (x lo hi : Int32) : Met l yX5_within (.code yX5_within cX5_within 3 (Option.some FieldType.boolean) :: wsL_law) { frames := 0, cells := 0, slots := 0, locals := 0 } (va_Pc [.int x, .int lo, .int hi] (PW D cy L f sz)) (vp_Si (fun r => r = b2i (i32in x lo hi))) 0 0 (fun _ => False) := by
  refine m_start (by decide) (Nat.le_of_ble_eq_true rfl) ?_
  intro p e R Q s m args below meth c ls hsz hR hQ E hr hlk hnm hw hl
  have hl : lv_has ls 3 [(0, .int x), (1, .int lo), (2, .int hi)] := hl
  refine lv_iload_n E.1.1 E.1.2.1 dX5_within_0 rfl (lv_at hl 1 rfl) ?_
  refine lv_iload_n E.1.1 E.1.2.1 dX5_within_1 rfl (lv_at hl 0 rfl) ?_
  refine lv_icmp_gt (tgt := 14) E.1.1 E.1.2.1 dX5_within_2 (by decide) (fun c2 => ?_) (fun c2 => ?_)
  · refine lv_iconst (v := nI 0) E.1.1 E.1.2.1 dX5_within_14 rfl ?_
    refine k_top E (b2i false) rfl ?_
    exact k_zret E hQ hlk hr (by rw [i32in, decide_eq_false (fa_lt_nle c2)]; rfl) dX5_within_15
  · refine lv_iload_n E.1.1 E.1.2.1 dX5_within_5 rfl (lv_at hl 0 rfl) ?_
    refine lv_iload_n E.1.1 E.1.2.1 dX5_within_6 rfl (lv_at hl 2 rfl) ?_
    refine lv_icmp_gt (tgt := 14) E.1.1 E.1.2.1 dX5_within_7 (by decide) (fun c7 => ?_) (fun c7 => ?_)
    · refine lv_iconst (v := nI 0) E.1.1 E.1.2.1 dX5_within_14 rfl ?_
      refine k_top E (b2i false) rfl ?_
      exact k_zret E hQ hlk hr (by rw [i32in, decide_eq_true (fa_of_nlt c2), decide_eq_false (fa_lt_nle c7)]; rfl) dX5_within_15
    · refine lv_iconst (v := nI 1) E.1.1 E.1.2.1 dX5_within_10 rfl ?_
      refine lv_goto (tgt := 15) E.1.1 E.1.2.1 dX5_within_11 (by decide) ?_
      refine k_top E (b2i true) rfl ?_
      exact k_zret E hQ hlk hr (by rw [i32in, decide_eq_true (fa_of_nlt c2), decide_eq_true (fa_of_nlt c7)]; rfl) dX5_within_15

set_option maxHeartbeats 4000000 in
set_option maxRecDepth 100000 in
theorem c_truth (l : Launch) (D : va_G) (cy : Nat → ClassId) (L : List Nat) (f : Nat → va_E) (sz : Nat) (x : Bool) : Met l yX5_truth (.code yX5_truth cX5_truth 1 (Option.some FieldType.int) :: wsL_law) { frames := 0, cells := 0, slots := 0, locals := 0 } (va_Pc [.int (b2i x)] (PW D cy L f sz)) (vp_Si (fun r => r = b2i x)) 0 0 (fun _ => False) := by
  refine m_start (by decide) (Nat.le_of_ble_eq_true rfl) ?_
  intro p e R Q s m args below meth c ls hsz hR hQ E hr hlk hnm hw hl
  have hl : lv_has ls 1 [(0, .int (b2i x))] := hl
  refine lv_iload_n E.1.1 E.1.2.1 dX5_truth_0 rfl (lv_at hl 0 rfl) ?_
  refine k_if0 (tgt := 8) E dX5_truth_1 (by decide) (fun c1 => ?_) (fun c1 => ?_)
  · refine lv_iconst (v := nI 0) E.1.1 E.1.2.1 dX5_truth_8 rfl ?_
    exact k_iret E hQ hlk hr (by rw [c1]; rfl) dX5_truth_9
  · refine lv_iconst (v := nI 1) E.1.1 E.1.2.1 dX5_truth_4 rfl ?_
    refine lv_goto (tgt := 9) E.1.1 E.1.2.1 dX5_truth_5 (by decide) ?_
    exact k_iret E hQ hlk hr (by rw [c1]; rfl) dX5_truth_9

set_option maxHeartbeats 4000000 in
set_option maxRecDepth 100000 in
theorem c_joined (l : Launch) (D : va_G) (cy : Nat → ClassId) (L : List Nat) (f : Nat → va_E) (sz : Nat) (a b : Bool) (way : Nat) (hw4 : way < 4) : Met l yX5_joined (.code yX5_joined cX5_joined 3 (Option.some FieldType.boolean) :: wsL_law) { frames := 0, cells := 0, slots := 0, locals := 0 } (va_Pc [.int (b2i a), .int (b2i b), .int (nI way)] (PW D cy L f sz)) (vp_Si (fun r => r = b2i (jw way a b))) 0 0 (fun _ => False) := by
  refine m_start (by decide) (Nat.le_of_ble_eq_true rfl) ?_
  intro p e R Q s m args below meth c ls hsz hR hQ E hr hlk hnm hw hl
  have hl : lv_has ls 3 [(0, .int (b2i a)), (1, .int (b2i b)), (2, .int (nI way))] := hl
  refine lv_iload_n E.1.1 E.1.2.1 dX5_joined_0 rfl (lv_at hl 2 rfl) ?_
  rcases (show way = 0 ∨ way = 1 ∨ way = 2 ∨ way = 3 by omega) with rfl | rfl | rfl | rfl
  · refine lv_tableIn (tgt := 28) E.1.1 E.1.2.1 dX5_joined_1 (by decide) (by decide) (off := 27) (by decide) (by decide) ?_
    refine lv_iload_n E.1.1 E.1.2.1 dX5_joined_28 rfl (lv_at hl 0 rfl) ?_
    refine k_if1 (tgt := 36) E dX5_joined_29 (by decide) (fun c29 => ?_) (fun c29 => ?_)
    · refine lv_iconst (v := nI 1) E.1.1 E.1.2.1 dX5_joined_36 rfl ?_
      refine lv_goto (tgt := 41) E.1.1 E.1.2.1 dX5_joined_37 (by decide) ?_
      refine k_top E (b2i true) rfl ?_
      exact k_zret E hQ hlk hr (by cases a <;> cases b <;> first | rfl | (cases c29; done) | exact absurd rfl c29) dX5_joined_41
    · refine lv_iload_n E.1.1 E.1.2.1 dX5_joined_32 rfl (lv_at hl 1 rfl) ?_
      refine k_if0 (tgt := 40) E dX5_joined_33 (by decide) (fun c33 => ?_) (fun c33 => ?_)
      · refine lv_iconst (v := nI 0) E.1.1 E.1.2.1 dX5_joined_40 rfl ?_
        refine k_top E (b2i false) rfl ?_
        exact k_zret E hQ hlk hr (by cases a <;> cases b <;> first | rfl | (cases c29; done) | exact absurd rfl c29 | (cases c33; done) | exact absurd rfl c33) dX5_joined_41
      · refine lv_iconst (v := nI 1) E.1.1 E.1.2.1 dX5_joined_36 rfl ?_
        refine lv_goto (tgt := 41) E.1.1 E.1.2.1 dX5_joined_37 (by decide) ?_
        refine k_top E (b2i true) rfl ?_
        exact k_zret E hQ hlk hr (by cases a <;> cases b <;> first | rfl | (cases c29; done) | exact absurd rfl c29 | (cases c33; done) | exact absurd rfl c33) dX5_joined_41
  · refine lv_tableIn (tgt := 42) E.1.1 E.1.2.1 dX5_joined_1 (by decide) (by decide) (off := 41) (by decide) (by decide) ?_
    refine lv_iload_n E.1.1 E.1.2.1 dX5_joined_42 rfl (lv_at hl 0 rfl) ?_
    refine k_if0 (tgt := 54) E dX5_joined_43 (by decide) (fun c43 => ?_) (fun c43 => ?_)
    · refine lv_iconst (v := nI 0) E.1.1 E.1.2.1 dX5_joined_54 rfl ?_
      refine k_top E (b2i false) rfl ?_
      exact k_zret E hQ hlk hr (by cases a <;> cases b <;> first | rfl | (cases c43; done) | exact absurd rfl c43) dX5_joined_55
    · refine lv_iload_n E.1.1 E.1.2.1 dX5_joined_46 rfl (lv_at hl 1 rfl) ?_
      refine k_if0 (tgt := 54) E dX5_joined_47 (by decide) (fun c47 => ?_) (fun c47 => ?_)
      · refine lv_iconst (v := nI 0) E.1.1 E.1.2.1 dX5_joined_54 rfl ?_
        refine k_top E (b2i false) rfl ?_
        exact k_zret E hQ hlk hr (by cases a <;> cases b <;> first | rfl | (cases c43; done) | exact absurd rfl c43 | (cases c47; done) | exact absurd rfl c47) dX5_joined_55
      · refine lv_iconst (v := nI 1) E.1.1 E.1.2.1 dX5_joined_50 rfl ?_
        refine lv_goto (tgt := 55) E.1.1 E.1.2.1 dX5_joined_51 (by decide) ?_
        refine k_top E (b2i true) rfl ?_
        exact k_zret E hQ hlk hr (by cases a <;> cases b <;> first | rfl | (cases c43; done) | exact absurd rfl c43 | (cases c47; done) | exact absurd rfl c47) dX5_joined_55
  · refine lv_tableIn (tgt := 56) E.1.1 E.1.2.1 dX5_joined_1 (by decide) (by decide) (off := 55) (by decide) (by decide) ?_
    refine lv_iload_n E.1.1 E.1.2.1 dX5_joined_56 rfl (lv_at hl 0 rfl) ?_
    refine k_if0 (tgt := 68) E dX5_joined_57 (by decide) (fun c57 => ?_) (fun c57 => ?_)
    · refine lv_iconst (v := nI 0) E.1.1 E.1.2.1 dX5_joined_68 rfl ?_
      refine k_top E (b2i false) rfl ?_
      exact k_zret E hQ hlk hr (by cases a <;> cases b <;> first | rfl | (cases c57; done) | exact absurd rfl c57) dX5_joined_69
    · refine lv_iload_n E.1.1 E.1.2.1 dX5_joined_60 rfl (lv_at hl 1 rfl) ?_
      refine k_if1 (tgt := 68) E dX5_joined_61 (by decide) (fun c61 => ?_) (fun c61 => ?_)
      · refine lv_iconst (v := nI 0) E.1.1 E.1.2.1 dX5_joined_68 rfl ?_
        refine k_top E (b2i false) rfl ?_
        exact k_zret E hQ hlk hr (by cases a <;> cases b <;> first | rfl | (cases c57; done) | exact absurd rfl c57 | (cases c61; done) | exact absurd rfl c61) dX5_joined_69
      · refine lv_iconst (v := nI 1) E.1.1 E.1.2.1 dX5_joined_64 rfl ?_
        refine lv_goto (tgt := 69) E.1.1 E.1.2.1 dX5_joined_65 (by decide) ?_
        refine k_top E (b2i true) rfl ?_
        exact k_zret E hQ hlk hr (by cases a <;> cases b <;> first | rfl | (cases c57; done) | exact absurd rfl c57 | (cases c61; done) | exact absurd rfl c61) dX5_joined_69
  · refine lv_tableOut (tgt := 70) E.1.1 E.1.2.1 dX5_joined_1 (Or.inr (by decide)) (by decide) ?_
    refine lv_iload_n E.1.1 E.1.2.1 dX5_joined_70 rfl (lv_at hl 0 rfl) ?_
    refine lv_iload_n E.1.1 E.1.2.1 dX5_joined_71 rfl (lv_at hl 1 rfl) ?_
    refine k_beq (tgt := 79) E dX5_joined_72 (by decide) (fun c72 => ?_) (fun c72 => ?_)
    · refine lv_iconst (v := nI 0) E.1.1 E.1.2.1 dX5_joined_79 rfl ?_
      refine k_top E (b2i false) rfl ?_
      exact k_zret E hQ hlk hr (by cases a <;> cases b <;> first | rfl | (cases c72; done) | exact absurd rfl c72) dX5_joined_80
    · refine lv_iconst (v := nI 1) E.1.1 E.1.2.1 dX5_joined_75 rfl ?_
      refine lv_goto (tgt := 80) E.1.1 E.1.2.1 dX5_joined_76 (by decide) ?_
      refine k_top E (b2i true) rfl ?_
      exact k_zret E hQ hlk hr (by cases a <;> cases b <;> first | rfl | (cases c72; done) | exact absurd rfl c72) dX5_joined_80
