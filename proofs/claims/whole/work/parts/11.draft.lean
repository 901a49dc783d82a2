theorem mx0 {t : Nat} (ht : t < 2147483648) : (if nI 0 < nI t then nI t else nI 0) = nI t := by
  split
  · rfl
  · rename_i h
    have : ¬ 0 < t := fun z => h ((nI_ltI (by decide) ht).mpr z)
    rw [show t = 0 by omega]
theorem mx1 {t : Nat} (h0 : 0 < t) (ht : t < 2147483648) : (if nI 1 < nI t then nI t else nI 1) = nI t := by
  split
  · rfl
  · rename_i h
    have : ¬ 1 < t := fun z => h ((nI_ltI (by decide) ht).mpr z)
    rw [show t = 1 by omega]
theorem mxn {a b : Nat} (ha : a < 2147483648) (hb : b < 2147483648) : (if nI a < nI b then nI b else nI a) = nI (max a b) := by
  split
  · rename_i h
    have := (nI_ltI ha hb).mp h
    rw [Nat.max_eq_right (by omega)]
  · rename_i h
    have : ¬ a < b := fun z => h ((nI_ltI ha hb).mpr z)
    rw [Nat.max_eq_left (by omega)]
theorem wd0 : (fun _ : Nat => (0 : Int64)) = wd (fun _ => false) := funext (fun k => (wd_zero (fun _ _ => rfl)).symm)
/-- within the row, from t on, all comes round by q -/
def CR (b : Nat → Bool) (t per q : Nat) : Prop := ∀ n, t ≤ n → n + q < t + per → b n = b (n + q)
def LPer (b : Nat → Bool) (t per q : Nat) : Prop := (q = 0 ∧ ∀ j, 1 ≤ j → j ≤ 60 → j ≤ per → per % j = 0 → ¬ CR b t per j) ∨ (1 ≤ q ∧ q ≤ 60 ∧ q ≤ per ∧ per % q = 0 ∧ CR b t per q ∧ ∀ j, 1 ≤ j → j < q → per % j = 0 → ¬ CR b t per j)
def LSt (b : Nat → Bool) (t per x : Nat) : Prop := x ≤ t ∧ (∀ n, x ≤ n → n < t → b n = b (n + per)) ∧ (x = 0 ∨ (1 ≤ x ∧ b (x - 1) ≠ b (x - 1 + per)))
def bclr (b : Nat → Bool) (lo hi : Nat) : Nat → Bool := fun n => if lo ≤ n ∧ n < hi then false else b n
theorem bclr_0 (b : Nat → Bool) (n : Nat) : bclr b n n = b := by
  funext j
  simp only [bclr]
  rw [if_neg (by omega)]
theorem bclr_s (b : Nat → Bool) {lo n : Nat} (h : lo ≤ n) : bset (bclr b lo n) n false = bclr b lo (n + 1) := by
  funext j
  by_cases hj : j = n
  · subst hj
    rw [bset_same]
    simp [bclr, h]
  · rw [bset_ne _ _ hj]
    simp only [bclr]
    by_cases h2 : lo ≤ j ∧ j < n
    · rw [if_pos h2, if_pos (by omega)]
    · rw [if_neg h2, if_neg (by omega)]
theorem c_bitin (l : Launch) (D : va_G) (cy : Nat → ClassId) (L : List Nat) (f : Nat → va_E) (sz : Nat) (a n len : Nat) (b : Nat → Bool) (hn2 : n < 64 * len) (hn : n < 2147483648) (hlen : len < 33554432) (h_row : cel L f a (.inl (cy 1, len, .inr (.inl (wd b))))) : Met l yX5_bit (.code yX5_bit cX5_bit 3 (Option.some FieldType.boolean) :: wsL_law) { frames := 0, cells := 0, slots := 0, locals := 0 } (va_Pc [.ref a, .int (nI n)] (PW D cy L f sz)) (vp_Si (fun r => r = b2i (b n))) 0 0 (fun _ => False) := by
  have h := c_bit l D cy L f sz a n len b hn hlen h_row
  rw [show decide (n < 64 * len) = true from decide_eq_true hn2, Bool.true_and] at h
  exact h
theorem bclr_e (b : Nat → Bool) {lo n : Nat} (h1 : 192 ≤ n) (h2 : n ≤ 192 ∨ n = lo) : bclr b lo n = bclr b lo 192 := by
  rcases h2 with h2 | h2
  · rw [show n = 192 by omega]
  · subst h2
    funext j
    simp only [bclr]
    rw [if_neg (by omega), if_neg (by omega)]
set_option maxHeartbeats 4000000 in
set_option maxRecDepth 100000 in
theorem c_fill (l : Launch) (D : va_G) (cy : Nat → ClassId) (L : List Nat) (f0 : Nat → va_E) (sz : Nat) (a len : Nat) (g : Nat → Int64) (v : Int64) (hlen : len < 2147483648) (h_row : cel L f0 a (.inl (cy 1, len, .inr (.inl g)))) : Met l yJ7_fill_d0a16 (.code yJ7_fill_d0a16 cJ7_fill_d0a16 5 none :: wsL_law) { frames := 0, cells := 0, slots := 0, locals := 0 } (va_Pc [.ref a, .long v] (PW D cy L f0 sz)) (va_Qv (fun u : List Nat × (Nat → va_E) => L = u.1 ∧ (∀ b ∈ L, b ≠ a → u.2 b = f0 b) ∧ cel L u.2 a (.inl (cy 1, len, .inr (.inl (fun _ => v))))) (PB D (AW L sz)) (AW L sz)) 0 0 (AW L sz) := by
  refine m_start (by decide) (Nat.le_of_ble_eq_true rfl) ?_
  intro p e R Q s m args below meth c ls hsz hR hQ E hr hlk hnm hw hl
  have hl : lv_has ls 5 [(0, .ref a), (1, .long v)] := hl
  obtain ⟨H, hH⟩ : ∃ X, X = s.heap := ⟨_, rfl⟩
  obtain ⟨locs, hlocs⟩ : ∃ X : List Loc, X = [] := ⟨_, rfl⟩
  have hw0 := hw
  obtain ⟨f, hf0⟩ : ∃ X, X = f0 := ⟨_, rfl⟩
  rw [← hf0] at h_row
  have hw : WW D (AW L sz) s.heap L f H locs := by rw [hH, hlocs, hf0]; exact hw
  have hF : ∀ b ∈ L, b ≠ a → f b = f0 b := fun b hb h0 => by rw [hf0]
  suffices hgo : W p l e R s m args below meth c H locs 0 0 Q (F0 m 0 ls []) by rw [hH, hlocs] at hgo; exact hgo
  clear hH hlocs hw0 hf0
  have hLs : ∀ b ∈ L, b ∈ L := fun _ h => h
  refine lv_iconst (v := nI 0) E.1.1 E.1.2.1 dJ7_fill_d0a16_0 rfl ?_
  refine lv_istore_n (lv' := [(3, .int (nI 0)), (0, .ref a), (1, .long v)]) E.1.1 E.1.2.1 dJ7_fill_d0a16_1 rfl hl (by decide) rfl (fun ls hl => ?_)
  refine lv_aload_n E.1.1 E.1.2.1 dJ7_fill_d0a16_2 rfl (lv_at hl 1 rfl) ?_
  refine k_alen E hw 1 h_row rfl (n := len) rfl dJ7_fill_d0a16_3 ?_
  refine lv_istore (lv' := [(4, .int (nI len)), (3, .int (nI 0)), (0, .ref a), (1, .long v)]) E.1.1 E.1.2.1 dJ7_fill_d0a16_4 hl (by decide) rfl (fun ls hl => ?_)
  have lp6 : ∀ (k : Nat) (i : Nat) (g : Nat → Int64) (f : Nat → va_E) (H : Heap) (locs : List Loc) (ls : Array Slot), (len - i < k) → (i ≤ len) → (∀ j, j < i → g j = v) → (cel L f a (.inl (cy 1, len, .inr (.inl g)))) → (∀ b ∈ L, b ≠ a → f b = f0 b) → (WW D (AW L sz) s.heap L f H locs) → (lv_has ls 5 [(3, .int (nI i)), (4, .int (nI len)), (0, .ref a), (1, .long v)]) → W p l e R s m args below meth c H locs 0 0 Q (F0 m 6 ls []) := by
    intro k
    induction k with
    | zero => intro _ _ _ _ _ _ hk; exact absurd hk (Nat.not_lt_zero _)
    | succ k ih6 =>
      intro i g f H locs ls hk hi hg h_row hF hw hl
      refine lv_iload_n E.1.1 E.1.2.1 dJ7_fill_d0a16_6 rfl (lv_at hl 0 rfl) ?_
      refine lv_iload E.1.1 E.1.2.1 dJ7_fill_d0a16_7 (lv_at hl 1 rfl) ?_
      refine k_ge (tgt := 22) E dJ7_fill_d0a16_9 (by decide) (by omega) (by omega) (fun c9 => ?_) (fun c9 => ?_)
      · obtain ⟨f, h_row, hfr, hw⟩ := k_swl (fun _ => v) hw h_row (fun j hj => hg j (by omega))
        have hF : ∀ b ∈ L, b ≠ a → f b = f0 b := fun b hb h0 => (hfr b h0).trans (hF b hb h0)
        exact k_mvret E hQ hlk hr hw (Nat.le_of_ble_eq_true rfl) (Nat.le_of_ble_eq_true rfl) (⟨rfl, hF, h_row⟩) dJ7_fill_d0a16_22
      · refine lv_aload_n E.1.1 E.1.2.1 dJ7_fill_d0a16_12 rfl (lv_at hl 2 rfl) ?_
        refine lv_iload_n E.1.1 E.1.2.1 dJ7_fill_d0a16_13 rfl (lv_at hl 0 rfl) ?_
        refine lv_lload_n E.1.1 E.1.2.1 dJ7_fill_d0a16_14 rfl (lv_at hl 3 rfl) ?_
        refine k_last E hw (fun j => if j = i then v else g j) h_row (by omega) (by omega) (fun j hj => rfl) dJ7_fill_d0a16_15 (fun f H locs h_row hfr hw => ?_)
        have hF : ∀ b ∈ L, b ≠ a → f b = f0 b := fun b hb h0 => (hfr b h0).trans (hF b hb h0)
        refine lv_iinc (v := nI (i + 1)) (lv' := [(3, .int (nI (i + 1))), (4, .int (nI len)), (0, .ref a), (1, .long v)]) E.1.1 E.1.2.1 dJ7_fill_d0a16_16 hl (k := 0) rfl (nI_1 _) (by decide) rfl (fun ls hl => ?_)
        refine lv_goto (tgt := 6) E.1.1 E.1.2.1 dJ7_fill_d0a16_19 (by decide) ?_
        exact ih6  (i + 1) (fun j => if j = i then v else g j) f H locs ls (by omega) (by omega) (fun j hj => by
      by_cases h : j = i
      · simp [h]
      · simp [h]; exact hg j (by omega)) h_row hF hw (lv_sub hl [0, 1, 2, 3] rfl)
  exact lp6 (len - 0 + 1) 0 g f H locs ls (Nat.lt_succ_self _) (by omega) (fun j hj => absurd hj (by omega)) h_row hF hw (lv_sub hl [1, 0, 2, 3] rfl)

set_option maxHeartbeats 4000000 in
set_option maxRecDepth 100000 in
theorem c_open (l : Launch) (D : va_G) (cy : Nat → ClassId) (L : List Nat) (f0 : Nat → va_E) (sz : Nat) (d r0 t per : Nat) (i1 i2 : Int32) (g : Nat → Int64) (ht : t < 2147483648) (hper : 0 < per) (hper2 : per < 2147483648) (h_d : cel L f0 d (.inr (0, [.ref r0, .int i1, .int i2]))) (h_row : cel L f0 r0 (.inl (cy 1, 59, .inr (.inl g)))) : Met l yX0_open (.code yX0_open cX0_open 3 none :: wsL_law) { frames := 1, cells := 0, slots := 0, locals := 24 } (va_Pc [.ref d, .int (nI t), .int (nI per)] (PW D cy L f0 sz)) (va_Qv (fun u : List Nat × (Nat → va_E) => L = u.1 ∧ (∀ b ∈ L, b ≠ d → b ≠ r0 → u.2 b = f0 b) ∧ cel L u.2 d (.inr (0, [.ref r0, .int (nI t), .int (nI per)])) ∧ cel L u.2 r0 (.inl (cy 1, 59, .inr (.inl (wd (fun _ => false)))))) (PB D (AW L sz)) (AW L sz)) 0 0 (AW L sz) := by
  refine m_start (by decide) (Nat.le_of_ble_eq_true rfl) ?_
  intro p e R Q s m args below meth c ls hsz hR hQ E hr hlk hnm hw hl
  have hl : lv_has ls 3 [(0, .ref d), (1, .int (nI t)), (2, .int (nI per))] := hl
  obtain ⟨H, hH⟩ : ∃ X, X = s.heap := ⟨_, rfl⟩
  obtain ⟨locs, hlocs⟩ : ∃ X : List Loc, X = [] := ⟨_, rfl⟩
  have hw0 := hw
  obtain ⟨f, hf0⟩ : ∃ X, X = f0 := ⟨_, rfl⟩
  rw [← hf0] at h_d h_row
  have hw : WW D (AW L sz) s.heap L f H locs := by rw [hH, hlocs, hf0]; exact hw
  have hF : ∀ b ∈ L, b ≠ d → b ≠ r0 → f b = f0 b := fun b hb h0 h1 => by rw [hf0]
  suffices hgo : W p l e R s m args below meth c H locs 0 0 Q (F0 m 0 ls []) by rw [hH, hlocs] at hgo; exact hgo
  clear hH hlocs hw0 hf0
  have hLs : ∀ b ∈ L, b ∈ L := fun _ h => h
  have n_d_row : d ≠ r0 := h_d.ne h_row (by simp)
  have n_row_d : r0 ≠ d := h_row.ne h_d (by simp)
  refine lv_aload_n E.1.1 E.1.2.1 dX0_open_0 rfl (lv_at hl 0 rfl) ?_
  refine lv_iconst (v := nI 0) E.1.1 E.1.2.1 dX0_open_1 rfl ?_
  refine lv_iload_n E.1.1 E.1.2.1 dX0_open_2 rfl (lv_at hl 1 rfl) ?_
  refine va_mmax E.1.1 E.1.2.1 (by rw [E.1.2.2.1]; exact hl.1.symm) E.1.2.2.2.1 (E.1.2.2.2.2 _ w1_98) (E.1.2.2.2.2 _ w1_99) (E.1.2.2.2.2 _ w1_5) (E.1.2.2.2.2 _ w1_100) (by rw [hR]; exact Nat.le_of_ble_eq_true rfl) (by rw [hR]; exact Nat.le_of_ble_eq_true rfl) (by rw [hR]; exact Nat.le_of_ble_eq_true rfl) (by rw [hR]; first | exact Nat.le_of_ble_eq_true rfl | (dsimp only; omega)) dX0_open_3 ?_
  refine k_top E (nI t) (mx0 ht) ?_
  refine k_put (ty0 := tyX0) E inlX0 rfl tyX0_ok nmX0 1 (by decide) w1_35 rfl rfl hw [.ref r0, .int (nI t), .int i2] h_d (rfl) (rfl) (Nat.le_of_ble_eq_true rfl) rfl dX0_open_6 (fun f H locs h_d hfr hw => ?_)
  have h_row := h_row.kp hfr n_row_d
  have hF : ∀ b ∈ L, b ≠ d → b ≠ r0 → f b = f0 b := fun b hb h0 h1 => (hfr b h0).trans (hF b hb h0 h1)
  refine lv_aload_n E.1.1 E.1.2.1 dX0_open_9 rfl (lv_at hl 0 rfl) ?_
  refine lv_iconst (v := nI 1) E.1.1 E.1.2.1 dX0_open_10 rfl ?_
  refine lv_iload_n E.1.1 E.1.2.1 dX0_open_11 rfl (lv_at hl 2 rfl) ?_
  refine va_mmax E.1.1 E.1.2.1 (by rw [E.1.2.2.1]; exact hl.1.symm) E.1.2.2.2.1 (E.1.2.2.2.2 _ w1_98) (E.1.2.2.2.2 _ w1_99) (E.1.2.2.2.2 _ w1_5) (E.1.2.2.2.2 _ w1_100) (by rw [hR]; exact Nat.le_of_ble_eq_true rfl) (by rw [hR]; exact Nat.le_of_ble_eq_true rfl) (by rw [hR]; exact Nat.le_of_ble_eq_true rfl) (by rw [hR]; first | exact Nat.le_of_ble_eq_true rfl | (dsimp only; omega)) dX0_open_12 ?_
  refine k_top E (nI per) (mx1 hper hper2) ?_
  refine k_put (ty0 := tyX0) E inlX0 rfl tyX0_ok nmX0 2 (by decide) w1_38 rfl rfl hw [.ref r0, .int (nI t), .int (nI per)] h_d (rfl) (rfl) (Nat.le_of_ble_eq_true rfl) rfl dX0_open_15 (fun f H locs h_d hfr hw => ?_)
  have h_row := h_row.kp hfr n_row_d
  have hF : ∀ b ∈ L, b ≠ d → b ≠ r0 → f b = f0 b := fun b hb h0 h1 => (hfr b h0).trans (hF b hb h0 h1)
  refine lv_aload_n E.1.1 E.1.2.1 dX0_open_18 rfl (lv_at hl 0 rfl) ?_
  refine k_get (v := .ref r0) E inlX0 rfl 0 (by decide) w1_30 rfl hw h_d rfl dX0_open_19 ?_
  refine lv_lconst (v := 0) E.1.1 E.1.2.1 dX0_open_22 rfl ?_
  refine k_mv hw (va_runS (As := [.ref r0, .long 0]) (rest := []) E.1 (c_fill l D cy L f H.size r0 59 g 0 (by decide) h_row) ⟨callB_of 2 E.1.2.2.2.2 (gd_own w1_103) rfl rfl rfl (E.1.2.2.2.2 _ w1_6) (E.1.2.2.2.2 _ w1_101) hd_J7_fill_d0a16 (by rw [hR]; exact ⟨Nat.le_of_ble_eq_true rfl, Nat.le_of_ble_eq_true rfl⟩), E.1.2.2.2.2 _ w1_102⟩ (pw_pre E.2 hw) rfl rfl hl.1 rfl (lv_room (Nat.le_of_ble_eq_true rfl)) dX0_open_23 (by rw [hR]; exact ⟨Nat.le_of_ble_eq_true rfl, Nat.le_of_ble_eq_true rfl⟩)) (fun L1 f H locs hp hw => ?_)
  obtain ⟨hL1, hfr, h_row⟩ := hp
  have hL1 : L = L1 := hL1
  subst hL1
  have h_row : cel L f r0 (.inl (cy 1, 59, .inr (.inl (fun _ => 0)))) := h_row
  have h_d := h_d.keep (fun _ h => h) (hfr _ h_d.1 n_d_row)
  have hF : ∀ b ∈ L, b ≠ d → b ≠ r0 → f b = f0 b := fun b hb h0 h1 => (hfr b (hLs b hb) h1).trans (hF b hb h0 h1)
  rw [wd0] at h_row
  exact k_mvret E hQ hlk hr hw (Nat.le_of_ble_eq_true rfl) (Nat.le_of_ble_eq_true rfl) (⟨rfl, hF, h_d, h_row⟩) dX0_open_26

set_option maxHeartbeats 4000000 in
set_option maxRecDepth 100000 in
theorem c_length (l : Launch) (D : va_G) (cy : Nat → ClassId) (L : List Nat) (f : Nat → va_E) (sz : Nat) (d r0 t per : Nat) (h_d : cel L f d (.inr (0, [.ref r0, .int (nI t), .int (nI per)]))) : Met l yX0_length (.code yX0_length cX0_length 1 (Option.some FieldType.int) :: wsL_law) { frames := 0, cells := 0, slots := 0, locals := 0 } (va_Pc [.ref d] (PW D cy L f sz)) (vp_Si (fun r => r = nI (t + per))) 0 0 (fun _ => False) := by
  refine m_start (by decide) (Nat.le_of_ble_eq_true rfl) ?_
  intro p e R Q s m args below meth c ls hsz hR hQ E hr hlk hnm hw hl
  have hl : lv_has ls 1 [(0, .ref d)] := hl
  refine lv_aload_n E.1.1 E.1.2.1 dX0_length_0 rfl (lv_at hl 0 rfl) ?_
  refine k_get (v := .int (nI t)) E inlX0 rfl 1 (by decide) w1_35 rfl hw h_d rfl dX0_length_1 ?_
  refine lv_aload_n E.1.1 E.1.2.1 dX0_length_4 rfl (lv_at hl 0 rfl) ?_
  refine k_get (v := .int (nI per)) E inlX0 rfl 2 (by decide) w1_38 rfl hw h_d rfl dX0_length_5 ?_
  refine k_add E dX0_length_8 ?_
  exact k_iret E hQ hlk hr (rfl) dX0_length_9

set_option maxHeartbeats 4000000 in
set_option maxRecDepth 100000 in
theorem c_mark (l : Launch) (D : va_G) (cy : Nat → ClassId) (L : List Nat) (f0 : Nat → va_E) (sz : Nat) (d r0 t per n : Nat) (b : Nat → Bool) (hn : n < 3776) (h_d : cel L f0 d (.inr (0, [.ref r0, .int (nI t), .int (nI per)]))) (h_row : cel L f0 r0 (.inl (cy 1, 59, .inr (.inl (wd b))))) : Met l yX0_mark (.code yX0_mark cX0_mark 2 none :: wsL_law) { frames := 1, cells := 0, slots := 0, locals := 22 } (va_Pc [.ref d, .int (nI n)] (PW D cy L f0 sz)) (va_Qv (fun u : List Nat × (Nat → va_E) => L = u.1 ∧ (∀ b ∈ L, b ≠ r0 → u.2 b = f0 b) ∧ cel L u.2 r0 (.inl (cy 1, 59, .inr (.inl (wd (bset b n true)))))) (PB D (AW L sz)) (AW L sz)) 0 0 (AW L sz) := by
  refine m_start (by decide) (Nat.le_of_ble_eq_true rfl) ?_
  intro p e R Q s m args below meth c ls hsz hR hQ E hr hlk hnm hw hl
  have hl : lv_has ls 2 [(0, .ref d), (1, .int (nI n))] := hl
  obtain ⟨H, hH⟩ : ∃ X, X = s.heap := ⟨_, rfl⟩
  obtain ⟨locs, hlocs⟩ : ∃ X : List Loc, X = [] := ⟨_, rfl⟩
  have hw0 := hw
  obtain ⟨f, hf0⟩ : ∃ X, X = f0 := ⟨_, rfl⟩
  rw [← hf0] at h_d h_row
  have hw : WW D (AW L sz) s.heap L f H locs := by rw [hH, hlocs, hf0]; exact hw
  have hF : ∀ b ∈ L, b ≠ r0 → f b = f0 b := fun b hb h0 => by rw [hf0]
  suffices hgo : W p l e R s m args below meth c H locs 0 0 Q (F0 m 0 ls []) by rw [hH, hlocs] at hgo; exact hgo
  clear hH hlocs hw0 hf0
  have hLs : ∀ b ∈ L, b ∈ L := fun _ h => h
  have n_d_row : d ≠ r0 := h_d.ne h_row (by simp)
  refine lv_aload_n E.1.1 E.1.2.1 dX0_mark_0 rfl (lv_at hl 0 rfl) ?_
  refine k_get (v := .ref r0) E inlX0 rfl 0 (by decide) w1_30 rfl hw h_d rfl dX0_mark_1 ?_
  refine lv_iload_n E.1.1 E.1.2.1 dX0_mark_4 rfl (lv_at hl 1 rfl) ?_
  refine k_mv hw (va_runSN (As := [.ref r0, .int (nI n)]) (rest := []) E.1 (c_setBit l D cy L f H.size r0 n 59 b (by omega) (by decide) h_row) ⟨va_cnB 2 E.1.2.2.2.2 (gd_own w2_32) rfl rfl rfl (E.2.2.1 _ (List.mem_of_getElem? (i := 18) rfl)) (E.1.2.2.2.2 _ w1_1) hd_X5_setBit (by rw [hR]; exact ⟨Nat.le_of_ble_eq_true rfl, Nat.le_of_ble_eq_true rfl⟩), E.1.2.2.2.2 _ w2_31, trivial⟩ (pw_pre E.2 hw) rfl rfl hl.1 rfl (lv_room (Nat.le_of_ble_eq_true rfl)) dX0_mark_5 (by rw [hR]; exact ⟨Nat.le_of_ble_eq_true rfl, Nat.le_of_ble_eq_true rfl⟩)) (fun L1 f H locs hp hw => ?_)
  obtain ⟨hL1, hfr, h_row⟩ := hp
  have hL1 : L = L1 := hL1
  subst hL1
  have h_row : cel L f r0 (.inl (cy 1, 59, .inr (.inl (wd (bset b n true))))) := h_row
  have h_d := h_d.keep (fun _ h => h) (hfr _ h_d.1 n_d_row)
  have hF : ∀ b ∈ L, b ≠ r0 → f b = f0 b := fun b hb h0 => (hfr b (hLs b hb) h0).trans (hF b hb h0)
  exact k_mvret E hQ hlk hr hw (Nat.le_of_ble_eq_true rfl) (Nat.le_of_ble_eq_true rfl) (⟨rfl, hF, h_row⟩) dX0_mark_8

set_option maxHeartbeats 4000000 in
set_option maxRecDepth 100000 in
theorem c_comesRoundBy (l : Launch) (D : va_G) (cy : Nat → ClassId) (L : List Nat) (f : Nat → va_E) (sz : Nat) (d r0 t per q : Nat) (b : Nat → Bool) (hb1 : t + per ≤ 3776) (hq : q ≤ 3776) (h_d : cel L f d (.inr (0, [.ref r0, .int (nI t), .int (nI per)]))) (h_row : cel L f r0 (.inl (cy 1, 59, .inr (.inl (wd b))))) : Met l yX0_comesRoundBy (.code yX0_comesRoundBy cX0_comesRoundBy 3 (Option.some FieldType.boolean) :: wsL_law) { frames := 1, cells := 0, slots := 0, locals := 22 } (va_Pc [.ref d, .int (nI q)] (PW D cy L f sz)) (vp_Si (fun r => r = b2i (dB (CR b t per q)))) 0 0 (fun _ => False) := by
  refine m_start (by decide) (Nat.le_of_ble_eq_true rfl) ?_
  intro p e R Q s m args below meth c ls hsz hR hQ E hr hlk hnm hw hl
  have hl : lv_has ls 3 [(0, .ref d), (1, .int (nI q))] := hl
  refine lv_aload_n E.1.1 E.1.2.1 dX0_comesRoundBy_0 rfl (lv_at hl 0 rfl) ?_
  refine k_get (v := .int (nI t)) E inlX0 rfl 1 (by decide) w1_35 rfl hw h_d rfl dX0_comesRoundBy_1 ?_
  refine lv_istore_n (lv' := [(2, .int (nI t)), (0, .ref d), (1, .int (nI q))]) E.1.1 E.1.2.1 dX0_comesRoundBy_4 rfl hl (by decide) rfl (fun ls hl => ?_)
  have lp5 : ∀ (k : Nat) (n : Nat) (ls : Array Slot), (t + per - n < k) → (t ≤ n) → (∀ j, t ≤ j → j < n → j + q < t + per → b j = b (j + q)) → (n ≤ t + per) → (lv_has ls 3 [(2, .int (nI n)), (0, .ref d), (1, .int (nI q))]) → W p l e R s m args below meth c s.heap [] 0 0 Q (F0 m 5 ls []) := by
    intro k
    induction k with
    | zero => intro _ _ hk; exact absurd hk (Nat.not_lt_zero _)
    | succ k ih5 =>
      intro n  ls hk hn hg hn2 hl
      refine lv_iload_n E.1.1 E.1.2.1 dX0_comesRoundBy_5 rfl (lv_at hl 0 rfl) ?_
      refine lv_iload_n E.1.1 E.1.2.1 dX0_comesRoundBy_6 rfl (lv_at hl 2 rfl) ?_
      refine k_add E dX0_comesRoundBy_7 ?_
      refine lv_aload_n E.1.1 E.1.2.1 dX0_comesRoundBy_8 rfl (lv_at hl 1 rfl) ?_
      refine k_ri (va_runV (As := []) (rest := [.int (nI (n + q))]) E.1 (c_length l D cy L f s.heap.size d r0 t per h_d) ⟨callB_of 0 E.1.2.2.2.2 (gd_own w1_123) rfl rfl rfl (E.1.2.2.2.2 _ w1_2) (E.1.2.2.2.2 _ w1_120) hd_X0_length (by rw [hR]; exact ⟨Nat.le_of_ble_eq_true rfl, Nat.le_of_ble_eq_true rfl⟩), E.1.2.2.2.2 _ w1_121, E.1.2.2.2.2 _ w1_122⟩ (pw_preV (q := (RX0, TX0, 3)) E.2 hw h_d rfl) rfl rfl hl.1 rfl (lv_room (Nat.le_of_ble_eq_true rfl)) dX0_comesRoundBy_9 ⟨Nat.zero_le _, Nat.zero_le _⟩) ?_
      refine k_ge (tgt := 44) E dX0_comesRoundBy_12 (by decide) (by omega) (by omega) (fun c12 => ?_) (fun c12 => ?_)
      · refine lv_iconst (v := nI 1) E.1.1 E.1.2.1 dX0_comesRoundBy_44 rfl ?_
        refine k_top E (b2i true) rfl ?_
        exact k_zret E hQ hlk hr (by rw [dB_t (show CR b t per q from fun j h1 h2 => hg j h1 (by omega) h2)]) dX0_comesRoundBy_45
      · refine lv_aload_n E.1.1 E.1.2.1 dX0_comesRoundBy_15 rfl (lv_at hl 1 rfl) ?_
        refine k_get (v := .ref r0) E inlX0 rfl 0 (by decide) w1_30 rfl hw h_d rfl dX0_comesRoundBy_16 ?_
        refine lv_iload_n E.1.1 E.1.2.1 dX0_comesRoundBy_19 rfl (lv_at hl 0 rfl) ?_
        refine k_ri (va_runSN (As := [.ref r0, .int (nI n)]) (rest := []) E.1 (c_bitin l D cy L f s.heap.size r0 (n) 59 b (by omega) (by omega) (by decide) h_row) ⟨va_cnB 2 E.1.2.2.2.2 (gd_own w1_126) rfl rfl rfl (E.2.2.1 _ (List.mem_of_getElem? (i := 10) rfl)) (E.1.2.2.2.2 _ w1_1) hd_X5_bit (by rw [hR]; exact ⟨Nat.le_of_ble_eq_true rfl, Nat.le_of_ble_eq_true rfl⟩), E.1.2.2.2.2 _ w1_125, trivial⟩ (pw_pre E.2 hw) rfl rfl hl.1 rfl (lv_room (Nat.le_of_ble_eq_true rfl)) dX0_comesRoundBy_20 ⟨Nat.zero_le _, Nat.zero_le _⟩) ?_
        refine lv_aload_n E.1.1 E.1.2.1 dX0_comesRoundBy_23 rfl (lv_at hl 1 rfl) ?_
        refine k_get (v := .ref r0) E inlX0 rfl 0 (by decide) w1_30 rfl hw h_d rfl dX0_comesRoundBy_24 ?_
        refine lv_iload_n E.1.1 E.1.2.1 dX0_comesRoundBy_27 rfl (lv_at hl 0 rfl) ?_
        refine lv_iload_n E.1.1 E.1.2.1 dX0_comesRoundBy_28 rfl (lv_at hl 2 rfl) ?_
        refine k_add E dX0_comesRoundBy_29 ?_
        refine k_ri (va_runSN (As := [.ref r0, .int (nI (n + q))]) (rest := [.int (b2i (b (n)))]) E.1 (c_bitin l D cy L f s.heap.size r0 (n + q) 59 b (by omega) (by omega) (by decide) h_row) ⟨va_cnB 2 E.1.2.2.2.2 (gd_own w1_126) rfl rfl rfl (E.2.2.1 _ (List.mem_of_getElem? (i := 10) rfl)) (E.1.2.2.2.2 _ w1_1) hd_X5_bit (by rw [hR]; exact ⟨Nat.le_of_ble_eq_true rfl, Nat.le_of_ble_eq_true rfl⟩), E.1.2.2.2.2 _ w1_125, trivial⟩ (pw_pre E.2 hw) rfl rfl hl.1 rfl (lv_room (Nat.le_of_ble_eq_true rfl)) dX0_comesRoundBy_30 ⟨Nat.zero_le _, Nat.zero_le _⟩) ?_
        refine k_beq (tgt := 38) E dX0_comesRoundBy_33 (by decide) (fun c33 => ?_) (fun c33 => ?_)
        · refine lv_iinc (v := nI (n + 1)) (lv' := [(2, .int (nI (n + 1))), (0, .ref d), (1, .int (nI q))]) E.1.1 E.1.2.1 dX0_comesRoundBy_38 hl (k := 0) rfl (nI_1 _) (by decide) rfl (fun ls hl => ?_)
          refine lv_goto (tgt := 5) E.1.1 E.1.2.1 dX0_comesRoundBy_41 (by decide) ?_
          exact ih5  (n + 1) ls (by omega) (by omega) (fun j h1 h2 h3 => by
      by_cases h : j = n
      · rw [h]; exact c33
      · exact hg j h1 (by omega) h3) (by omega)  (lv_sub hl [0, 1, 2] rfl)
        · refine lv_iconst (v := nI 0) E.1.1 E.1.2.1 dX0_comesRoundBy_36 rfl ?_
          refine k_top E (b2i false) rfl ?_
          exact k_zret E hQ hlk hr (by rw [dB_f (fun h : CR b t per q => c33 (h n hn (by omega)))]) dX0_comesRoundBy_37
  exact lp5 (t + per - t + 1) t ls (Nat.lt_succ_self _) (by omega) (fun j h1 h2 => absurd h2 (by omega)) (by omega)  (lv_sub hl [0, 1, 2] rfl)

set_option maxHeartbeats 4000000 in
set_option maxRecDepth 100000 in
theorem c_leastPeriod (l : Launch) (D : va_G) (cy : Nat → ClassId) (L : List Nat) (f : Nat → va_E) (sz : Nat) (d r0 t per : Nat) (b : Nat → Bool) (hb1 : t + per ≤ 3776) (hper : 0 < per) (h_d : cel L f d (.inr (0, [.ref r0, .int (nI t), .int (nI per)]))) (h_row : cel L f r0 (.inl (cy 1, 59, .inr (.inl (wd b))))) : Met l yX0_leastPeriod (.code yX0_leastPeriod cX0_leastPeriod 2 (Option.some FieldType.int) :: wsL_law) { frames := 2, cells := 0, slots := 0, locals := 44 } (va_Pc [.ref d] (PW D cy L f sz)) (vp_Si (fun r => ∃ q, r = nI q ∧ LPer b t per q)) 0 0 (fun _ => False) := by
  refine m_start (by decide) (Nat.le_of_ble_eq_true rfl) ?_
  intro p e R Q s m args below meth c ls hsz hR hQ E hr hlk hnm hw hl
  have hl : lv_has ls 2 [(0, .ref d)] := hl
  refine lv_iconst (v := nI 1) E.1.1 E.1.2.1 dX0_leastPeriod_0 rfl ?_
  refine lv_istore_n (lv' := [(1, .int (nI 1)), (0, .ref d)]) E.1.1 E.1.2.1 dX0_leastPeriod_1 rfl hl (by decide) rfl (fun ls hl => ?_)
  have lp2 : ∀ (k : Nat) (q : Nat) (ls : Array Slot), (61 - q < k) → (1 ≤ q) → (q ≤ 61) → (∀ j, 1 ≤ j → j < q → per % j = 0 → ¬ CR b t per j) → (lv_has ls 2 [(1, .int (nI q)), (0, .ref d)]) → W p l e R s m args below meth c s.heap [] 0 0 Q (F0 m 2 ls []) := by
    intro k
    induction k with
    | zero => intro _ _ hk; exact absurd hk (Nat.not_lt_zero _)
    | succ k ih2 =>
      intro q  ls hk hq hq2 hg hl
      refine lv_iload_n E.1.1 E.1.2.1 dX0_leastPeriod_2 rfl (lv_at hl 0 rfl) ?_
      refine lv_aload_n E.1.1 E.1.2.1 dX0_leastPeriod_3 rfl (lv_at hl 1 rfl) ?_
      refine k_get (v := .int (nI per)) E inlX0 rfl 2 (by decide) w1_38 rfl hw h_d rfl dX0_leastPeriod_4 ?_
      refine k_gt (tgt := 41) E dX0_leastPeriod_7 (by decide) (by omega) (by omega) (fun c7 => ?_) (fun c7 => ?_)
      · refine lv_iconst (v := nI 0) E.1.1 E.1.2.1 dX0_leastPeriod_41 rfl ?_
        exact k_iret E hQ hlk hr (⟨0, rfl, Or.inl ⟨rfl, fun j h1 h2 h3 => hg j h1 (by omega)⟩⟩) dX0_leastPeriod_42
      · refine lv_iload_n E.1.1 E.1.2.1 dX0_leastPeriod_10 rfl (lv_at hl 0 rfl) ?_
        refine lv_bipush (v := nI 60) E.1.1 E.1.2.1 dX0_leastPeriod_11 rfl ?_
        refine k_gt (tgt := 41) E dX0_leastPeriod_13 (by decide) (by omega) (by omega) (fun c13 => ?_) (fun c13 => ?_)
        · refine lv_iconst (v := nI 0) E.1.1 E.1.2.1 dX0_leastPeriod_41 rfl ?_
          exact k_iret E hQ hlk hr (⟨0, rfl, Or.inl ⟨rfl, fun j h1 h2 h3 => hg j h1 (by omega)⟩⟩) dX0_leastPeriod_42
        · have hm := Nat.mod_lt per (show 0 < q by omega)
          refine lv_aload_n E.1.1 E.1.2.1 dX0_leastPeriod_16 rfl (lv_at hl 1 rfl) ?_
          refine k_get (v := .int (nI per)) E inlX0 rfl 2 (by decide) w1_38 rfl hw h_d rfl dX0_leastPeriod_17 ?_
          refine lv_iload_n E.1.1 E.1.2.1 dX0_leastPeriod_20 rfl (lv_at hl 0 rfl) ?_
          refine k_rem E dX0_leastPeriod_21 (by omega) (by omega) (by omega) ?_
          refine k_z1 (tgt := 35) E dX0_leastPeriod_22 (by decide) (by omega) (fun c22 => ?_) (fun c22 => ?_)
          · refine lv_iinc (v := nI (q + 1)) (lv' := [(1, .int (nI (q + 1))), (0, .ref d)]) E.1.1 E.1.2.1 dX0_leastPeriod_35 hl (k := 0) rfl (nI_1 _) (by decide) rfl (fun ls hl => ?_)
            refine lv_goto (tgt := 2) E.1.1 E.1.2.1 dX0_leastPeriod_38 (by decide) ?_
            exact ih2  (q + 1) ls (by omega) (by omega) (by omega) (fun j h1 h2 h3 => by
      by_cases h : j = q
      · rw [h] at h3 ⊢; first | exact absurd h3 c22 | exact fun hc => absurd (dB_t hc) (by rw [c30]; decide)
      · exact hg j h1 (by omega) h3)  (lv_sub hl [0, 1] rfl)
          · refine lv_aload_n E.1.1 E.1.2.1 dX0_leastPeriod_25 rfl (lv_at hl 1 rfl) ?_
            refine lv_iload_n E.1.1 E.1.2.1 dX0_leastPeriod_26 rfl (lv_at hl 0 rfl) ?_
            refine k_ri (va_runV (As := [.int (nI q)]) (rest := []) E.1 (c_comesRoundBy l D cy L f s.heap.size d r0 t per q b (by omega) (by omega) h_d h_row) ⟨callB_of 1 E.1.2.2.2.2 (gd_own w1_119) rfl rfl rfl (E.1.2.2.2.2 _ w1_2) (E.1.2.2.2.2 _ w1_116) hd_X0_comesRoundBy (by rw [hR]; exact ⟨Nat.le_of_ble_eq_true rfl, Nat.le_of_ble_eq_true rfl⟩), E.1.2.2.2.2 _ w1_118, E.1.2.2.2.2 _ ws_3⟩ (pw_preV (q := (RX0, TX0, 3)) E.2 hw h_d rfl) rfl rfl hl.1 rfl (lv_room (Nat.le_of_ble_eq_true rfl)) dX0_leastPeriod_27 ⟨Nat.zero_le _, Nat.zero_le _⟩) ?_
            refine k_if0 (tgt := 35) E dX0_leastPeriod_30 (by decide) (fun c30 => ?_) (fun c30 => ?_)
            · refine lv_iinc (v := nI (q + 1)) (lv' := [(1, .int (nI (q + 1))), (0, .ref d)]) E.1.1 E.1.2.1 dX0_leastPeriod_35 hl (k := 0) rfl (nI_1 _) (by decide) rfl (fun ls hl => ?_)
              refine lv_goto (tgt := 2) E.1.1 E.1.2.1 dX0_leastPeriod_38 (by decide) ?_
              exact ih2  (q + 1) ls (by omega) (by omega) (by omega) (fun j h1 h2 h3 => by
      by_cases h : j = q
      · rw [h] at h3 ⊢; first | exact absurd h3 c22 | exact fun hc => absurd (dB_t hc) (by rw [c30]; decide)
      · exact hg j h1 (by omega) h3)  (lv_sub hl [0, 1] rfl)
            · refine lv_iload_n E.1.1 E.1.2.1 dX0_leastPeriod_33 rfl (lv_at hl 0 rfl) ?_
              exact k_iret E hQ hlk hr (⟨q, rfl, Or.inr ⟨by omega, by omega, by omega, c22, dB_iff.mp c30, hg⟩⟩) dX0_leastPeriod_34
  exact lp2 (61 - 1 + 1) 1 ls (Nat.lt_succ_self _) (by omega) (by omega) (fun j h1 h2 => absurd h2 (by omega))  (lv_sub hl [0, 1] rfl)

set_option maxHeartbeats 4000000 in
set_option maxRecDepth 100000 in
theorem c_leastStart (l : Launch) (D : va_G) (cy : Nat → ClassId) (L : List Nat) (f : Nat → va_E) (sz : Nat) (d r0 t per : Nat) (b : Nat → Bool) (hb1 : t + per ≤ 3776) (h_d : cel L f d (.inr (0, [.ref r0, .int (nI t), .int (nI per)]))) (h_row : cel L f r0 (.inl (cy 1, 59, .inr (.inl (wd b))))) : Met l yX0_leastStart (.code yX0_leastStart cX0_leastStart 2 (Option.some FieldType.int) :: wsL_law) { frames := 1, cells := 0, slots := 0, locals := 22 } (va_Pc [.ref d] (PW D cy L f sz)) (vp_Si (fun r => ∃ x, r = nI x ∧ LSt b t per x)) 0 0 (fun _ => False) := by
  refine m_start (by decide) (Nat.le_of_ble_eq_true rfl) ?_
  intro p e R Q s m args below meth c ls hsz hR hQ E hr hlk hnm hw hl
  have hl : lv_has ls 2 [(0, .ref d)] := hl
  refine lv_aload_n E.1.1 E.1.2.1 dX0_leastStart_0 rfl (lv_at hl 0 rfl) ?_
  refine k_get (v := .int (nI t)) E inlX0 rfl 1 (by decide) w1_35 rfl hw h_d rfl dX0_leastStart_1 ?_
  refine lv_istore_n (lv' := [(1, .int (nI t)), (0, .ref d)]) E.1.1 E.1.2.1 dX0_leastStart_4 rfl hl (by decide) rfl (fun ls hl => ?_)
  have lp5 : ∀ (k : Nat) (x : Nat) (ls : Array Slot), (x < k) → (x ≤ t) → (∀ n, x ≤ n → n < t → b n = b (n + per)) → (lv_has ls 2 [(1, .int (nI x)), (0, .ref d)]) → W p l e R s m args below meth c s.heap [] 0 0 Q (F0 m 5 ls []) := by
    intro k
    induction k with
    | zero => intro _ _ hk; exact absurd hk (Nat.not_lt_zero _)
    | succ k ih5 =>
      intro x  ls hk hx hg hl
      refine lv_iload_n E.1.1 E.1.2.1 dX0_leastStart_5 rfl (lv_at hl 0 rfl) ?_
      refine k_zle (tgt := 43) E dX0_leastStart_6 (by decide) (by omega) (fun c6 => ?_) (fun c6 => ?_)
      · refine lv_iload_n E.1.1 E.1.2.1 dX0_leastStart_43 rfl (lv_at hl 0 rfl) ?_
        exact k_iret E hQ hlk hr (⟨x, rfl, hx, hg, Or.inl c6⟩) dX0_leastStart_44
      · refine lv_aload_n E.1.1 E.1.2.1 dX0_leastStart_9 rfl (lv_at hl 1 rfl) ?_
        refine k_get (v := .ref r0) E inlX0 rfl 0 (by decide) w1_30 rfl hw h_d rfl dX0_leastStart_10 ?_
        refine lv_iload_n E.1.1 E.1.2.1 dX0_leastStart_13 rfl (lv_at hl 0 rfl) ?_
        refine lv_iconst (v := nI 1) E.1.1 E.1.2.1 dX0_leastStart_14 rfl ?_
        refine k_sub E dX0_leastStart_15 (by omega) ?_
        refine k_ri (va_runSN (As := [.ref r0, .int (nI (x - 1))]) (rest := []) E.1 (c_bitin l D cy L f s.heap.size r0 (x - 1) 59 b (by omega) (by omega) (by decide) h_row) ⟨va_cnB 2 E.1.2.2.2.2 (gd_own w1_126) rfl rfl rfl (E.2.2.1 _ (List.mem_of_getElem? (i := 10) rfl)) (E.1.2.2.2.2 _ w1_1) hd_X5_bit (by rw [hR]; exact ⟨Nat.le_of_ble_eq_true rfl, Nat.le_of_ble_eq_true rfl⟩), E.1.2.2.2.2 _ w1_125, trivial⟩ (pw_pre E.2 hw) rfl rfl hl.1 rfl (lv_room (Nat.le_of_ble_eq_true rfl)) dX0_leastStart_16 ⟨Nat.zero_le _, Nat.zero_le _⟩) ?_
        refine lv_aload_n E.1.1 E.1.2.1 dX0_leastStart_19 rfl (lv_at hl 1 rfl) ?_
        refine k_get (v := .ref r0) E inlX0 rfl 0 (by decide) w1_30 rfl hw h_d rfl dX0_leastStart_20 ?_
        refine lv_iload_n E.1.1 E.1.2.1 dX0_leastStart_23 rfl (lv_at hl 0 rfl) ?_
        refine lv_iconst (v := nI 1) E.1.1 E.1.2.1 dX0_leastStart_24 rfl ?_
        refine k_sub E dX0_leastStart_25 (by omega) ?_
        refine lv_aload_n E.1.1 E.1.2.1 dX0_leastStart_26 rfl (lv_at hl 1 rfl) ?_
        refine k_get (v := .int (nI per)) E inlX0 rfl 2 (by decide) w1_38 rfl hw h_d rfl dX0_leastStart_27 ?_
        refine k_add E dX0_leastStart_30 ?_
        refine k_ri (va_runSN (As := [.ref r0, .int (nI ((x - 1) + per))]) (rest := [.int (b2i (b (x - 1)))]) E.1 (c_bitin l D cy L f s.heap.size r0 ((x - 1) + per) 59 b (by omega) (by omega) (by decide) h_row) ⟨va_cnB 2 E.1.2.2.2.2 (gd_own w1_126) rfl rfl rfl (E.2.2.1 _ (List.mem_of_getElem? (i := 10) rfl)) (E.1.2.2.2.2 _ w1_1) hd_X5_bit (by rw [hR]; exact ⟨Nat.le_of_ble_eq_true rfl, Nat.le_of_ble_eq_true rfl⟩), E.1.2.2.2.2 _ w1_125, trivial⟩ (pw_pre E.2 hw) rfl rfl hl.1 rfl (lv_room (Nat.le_of_ble_eq_true rfl)) dX0_leastStart_31 ⟨Nat.zero_le _, Nat.zero_le _⟩) ?_
        refine k_bne (tgt := 43) E dX0_leastStart_34 (by decide) (fun c34 => ?_) (fun c34 => ?_)
        · refine lv_iload_n E.1.1 E.1.2.1 dX0_leastStart_43 rfl (lv_at hl 0 rfl) ?_
          exact k_iret E hQ hlk hr (⟨x, rfl, hx, hg, Or.inr ⟨by omega, c34⟩⟩) dX0_leastStart_44
        · refine lv_iinc (v := nI (x - 1)) (lv' := [(1, .int (nI (x - 1))), (0, .ref d)]) E.1.1 E.1.2.1 dX0_leastStart_37 hl (k := 0) rfl (sb_m1 (by omega)) (by decide) rfl (fun ls hl => ?_)
          refine lv_goto (tgt := 5) E.1.1 E.1.2.1 dX0_leastStart_40 (by decide) ?_
          exact ih5  (x - 1) ls (by omega) (by omega) (fun n h1 h2 => by
      by_cases h : n = x - 1
      · rw [h]; exact c34
      · exact hg n (by omega) h2)  (lv_sub hl [0, 1] rfl)
  exact lp5 (t + 1) t ls (Nat.lt_succ_self _) (by omega) (fun n h1 h2 => absurd h2 (by omega))  (lv_sub hl [0, 1] rfl)

set_option maxHeartbeats 4000000 in
set_option maxRecDepth 100000 in
theorem c_clearBehind (l : Launch) (D : va_G) (cy : Nat → ClassId) (L : List Nat) (f0 : Nat → va_E) (sz : Nat) (d r0 t per : Nat) (b : Nat → Bool) (hb1 : t + per ≤ 3776) (h_d : cel L f0 d (.inr (0, [.ref r0, .int (nI t), .int (nI per)]))) (h_row : cel L f0 r0 (.inl (cy 1, 59, .inr (.inl (wd b))))) : Met l yX0_clearBehind (.code yX0_clearBehind cX0_clearBehind 2 none :: wsL_law) { frames := 1, cells := 0, slots := 0, locals := 22 } (va_Pc [.ref d] (PW D cy L f0 sz)) (va_Qv (fun u : List Nat × (Nat → va_E) => L = u.1 ∧ (∀ b ∈ L, b ≠ r0 → u.2 b = f0 b) ∧ cel L u.2 r0 (.inl (cy 1, 59, .inr (.inl (wd (bclr b (t + per) 192)))))) (PB D (AW L sz)) (AW L sz)) 0 0 (AW L sz) := by
  refine m_start (by decide) (Nat.le_of_ble_eq_true rfl) ?_
  intro p e R Q s m args below meth c ls hsz hR hQ E hr hlk hnm hw hl
  have hl : lv_has ls 2 [(0, .ref d)] := hl
  obtain ⟨H, hH⟩ : ∃ X, X = s.heap := ⟨_, rfl⟩
  obtain ⟨locs, hlocs⟩ : ∃ X : List Loc, X = [] := ⟨_, rfl⟩
  have hw0 := hw
  obtain ⟨f, hf0⟩ : ∃ X, X = f0 := ⟨_, rfl⟩
  rw [← hf0] at h_d h_row
  have hw : WW D (AW L sz) s.heap L f H locs := by rw [hH, hlocs, hf0]; exact hw
  have hF : ∀ b ∈ L, b ≠ r0 → f b = f0 b := fun b hb h0 => by rw [hf0]
  suffices hgo : W p l e R s m args below meth c H locs 0 0 Q (F0 m 0 ls []) by rw [hH, hlocs] at hgo; exact hgo
  clear hH hlocs hw0 hf0
  have hLs : ∀ b ∈ L, b ∈ L := fun _ h => h
  have n_d_row : d ≠ r0 := h_d.ne h_row (by simp)
  refine lv_aload_n E.1.1 E.1.2.1 dX0_clearBehind_0 rfl (lv_at hl 0 rfl) ?_
  refine k_ri (va_runV (As := []) (rest := []) E.1 (c_length l D cy L f H.size d r0 t per h_d) ⟨callB_of 0 E.1.2.2.2.2 (gd_own w1_123) rfl rfl rfl (E.1.2.2.2.2 _ w1_2) (E.1.2.2.2.2 _ w1_120) hd_X0_length (by rw [hR]; exact ⟨Nat.le_of_ble_eq_true rfl, Nat.le_of_ble_eq_true rfl⟩), E.1.2.2.2.2 _ w1_121, E.1.2.2.2.2 _ w1_122⟩ (pw_preV (q := (RX0, TX0, 3)) E.2 hw h_d rfl) rfl rfl hl.1 rfl (lv_room (Nat.le_of_ble_eq_true rfl)) dX0_clearBehind_1 ⟨Nat.zero_le _, Nat.zero_le _⟩) ?_
  rw [← bclr_0 b (t + per)] at h_row
  refine lv_istore_n (lv' := [(1, .int (nI (t + per))), (0, .ref d)]) E.1.1 E.1.2.1 dX0_clearBehind_4 rfl hl (by decide) rfl (fun ls hl => ?_)
  have lp5 : ∀ (k : Nat) (n : Nat) (f : Nat → va_E) (H : Heap) (locs : List Loc) (ls : Array Slot), (192 - n < k) → (t + per ≤ n) → (n ≤ 192 ∨ n = t + per) → (cel L f d (.inr (0, [.ref r0, .int (nI t), .int (nI per)]))) → (cel L f r0 (.inl (cy 1, 59, .inr (.inl (wd (bclr b (t + per) n)))))) → (∀ b ∈ L, b ≠ r0 → f b = f0 b) → (WW D (AW L sz) s.heap L f H locs) → (lv_has ls 2 [(1, .int (nI n)), (0, .ref d)]) → W p l e R s m args below meth c H locs 0 0 Q (F0 m 5 ls []) := by
    intro k
    induction k with
    | zero => intro _ _ _ _ _ hk; exact absurd hk (Nat.not_lt_zero _)
    | succ k ih5 =>
      intro n f H locs ls hk hn hn2 h_d h_row hF hw hl
      refine lv_iload_n E.1.1 E.1.2.1 dX0_clearBehind_5 rfl (lv_at hl 0 rfl) ?_
      refine lv_sipush (v := nI 192) E.1.1 E.1.2.1 dX0_clearBehind_6 rfl ?_
      refine k_ge (tgt := 26) E dX0_clearBehind_9 (by decide) (by omega) (by omega) (fun c9 => ?_) (fun c9 => ?_)
      · exact k_mvret E hQ hlk hr hw (Nat.le_of_ble_eq_true rfl) (Nat.le_of_ble_eq_true rfl) (⟨rfl, hF, by rw [bclr_e b c9 hn2] at h_row; exact h_row⟩) dX0_clearBehind_26
      · refine lv_aload_n E.1.1 E.1.2.1 dX0_clearBehind_12 rfl (lv_at hl 1 rfl) ?_
        refine k_get (v := .ref r0) E inlX0 rfl 0 (by decide) w1_30 rfl hw h_d rfl dX0_clearBehind_13 ?_
        refine lv_iload_n E.1.1 E.1.2.1 dX0_clearBehind_16 rfl (lv_at hl 0 rfl) ?_
        refine k_mv hw (va_runSN (As := [.ref r0, .int (nI n)]) (rest := []) E.1 (c_clearBit l D cy L f H.size r0 n 59 (bclr b (t + per) n) (by omega) (by decide) h_row) ⟨va_cnB 2 E.1.2.2.2.2 (gd_own w1_137) rfl rfl rfl (E.2.2.1 _ (List.mem_of_getElem? (i := 11) rfl)) (E.1.2.2.2.2 _ w1_1) hd_X5_clearBit (by rw [hR]; exact ⟨Nat.le_of_ble_eq_true rfl, Nat.le_of_ble_eq_true rfl⟩), E.1.2.2.2.2 _ w1_136, trivial⟩ (pw_pre E.2 hw) rfl rfl hl.1 rfl (lv_room (Nat.le_of_ble_eq_true rfl)) dX0_clearBehind_17 (by rw [hR]; exact ⟨Nat.le_of_ble_eq_true rfl, Nat.le_of_ble_eq_true rfl⟩)) (fun L1 f H locs hp hw => ?_)
        obtain ⟨hL1, hfr, h_row⟩ := hp
        have hL1 : L = L1 := hL1
        subst hL1
        have h_row : cel L f r0 (.inl (cy 1, 59, .inr (.inl (wd (bset (bclr b (t + per) n) n false))))) := h_row
        have h_d := h_d.keep (fun _ h => h) (hfr _ h_d.1 n_d_row)
        have hF : ∀ b ∈ L, b ≠ r0 → f b = f0 b := fun b hb h0 => (hfr b (hLs b hb) h0).trans (hF b hb h0)
        rw [bclr_s b (by omega)] at h_row
        refine lv_iinc (v := nI (n + 1)) (lv' := [(1, .int (nI (n + 1))), (0, .ref d)]) E.1.1 E.1.2.1 dX0_clearBehind_20 hl (k := 0) rfl (nI_1 _) (by decide) rfl (fun ls hl => ?_)
        refine lv_goto (tgt := 5) E.1.1 E.1.2.1 dX0_clearBehind_23 (by decide) ?_
        exact ih5  (n + 1) f H locs ls (by omega) (by omega) (by omega) h_d h_row hF hw (lv_sub hl [0, 1] rfl)
  exact lp5 (192 - (t + per) + 1) (t + per) f H locs ls (Nat.lt_succ_self _) (by omega) (by omega) h_d h_row hF hw (lv_sub hl [0, 1] rfl)
