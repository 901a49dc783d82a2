theorem mn320 {n : Nat} (hn : n ≤ 320) : (if nI n < nI 320 then nI n else nI 320) = nI n := by
  split
  · rfl
  · rename_i h
    have : ¬ n < 320 := fun z => h ((nI_ltI (by omega) (by decide)).mpr z)
    rw [show n = 320 by omega]
theorem mn5 {n : Nat} (hn : n ≤ 5) : (if nI 5 < nI n then nI 5 else nI n) = nI n := by
  split
  · rename_i h
    have := (nI_ltI (by decide) (by omega)).mp h
    omega
  · rfl
theorem cp3 (b : Nat → Bool) (B0 : Nat → Nat → Bool) (w : Nat) : va_cpy (wd b) (rw3 B0) 0 0 3 w = rw3 (va_up B0 0 b) w := by
  unfold va_cpy rw3
  by_cases h : w < 3
  · rw [if_pos ⟨by omega, by omega⟩, show w / 3 = 0 by omega, va_up_self, show w % 3 = w by omega]
    congr 1
    omega
  · rw [if_neg (by omega), va_up_ne _ _ (by omega)]
theorem ix1 {i base d : Nat} (h : d < base) : (i * base + d) / base = i := by
  rw [Nat.mul_comm, Nat.mul_add_div (by omega), Nat.div_eq_of_lt h, Nat.add_zero]
theorem ix2 {i base d : Nat} (h : d < base) : (i * base + d) % base = d := by
  rw [Nat.mul_comm, Nat.mul_add_mod, Nat.mod_eq_of_lt h]
theorem ix3 {i base d n : Nat} (h : i < n) (hd : d < base) : i * base + d < n * base := by
  have := Nat.mul_le_mul_right base (show i + 1 ≤ n from h)
  rw [Nat.succ_mul] at this
  omega
set_option maxHeartbeats 4000000 in
set_option maxRecDepth 100000 in
theorem c_copyOfJ (l : Launch) (D : va_G) (cy : Nat → ClassId) (L : List Nat) (f0 : Nat → va_E) (sz : Nat) (a : Nat) (g : Nat → Int64) (h_row : cel L f0 a (.inl (cy 1, 59, .inr (.inl g)))) : Met l yJ7_copyOf_c38d5 (.code yJ7_copyOf_c38d5 cJ7_copyOf_c38d5 3 (Option.some (FieldType.array FieldType.long)) :: wsL_law) { frames := 1, cells := 1, slots := 3, locals := 18 } (va_Pc [.ref a, .int (nI 3)] (PW D cy L f0 sz)) (va_Qq (fun (r : Option Nat) (u : List Nat × (Nat → va_E)) => (∀ b ∈ L, b ∈ u.1) ∧ (∀ b ∈ L, u.2 b = f0 b) ∧ ∃ q, r = some q ∧ q ∉ L ∧ cel u.1 u.2 q (.inl (cy 1, 3, .inr (.inl g)))) (PB D (AW L sz)) (AW L sz)) 1 3 (AW L sz) := by
  refine m_start (by decide) (Nat.le_of_ble_eq_true rfl) ?_
  intro p e R Q s m args below meth c ls hsz hR hQ E hr hlk hnm hw hl
  have hl : lv_has ls 3 [(0, .ref a), (1, .int (nI 3))] := hl
  obtain ⟨H, hH⟩ : ∃ X, X = s.heap := ⟨_, rfl⟩
  obtain ⟨locs, hlocs⟩ : ∃ X : List Loc, X = [] := ⟨_, rfl⟩
  have hw0 := hw
  obtain ⟨f, hf0⟩ : ∃ X, X = f0 := ⟨_, rfl⟩
  rw [← hf0] at h_row
  have hw : WW D (AW L sz) s.heap L f H locs := by rw [hH, hlocs, hf0]; exact hw
  have hF : ∀ b ∈ L, f b = f0 b := fun b hb => by rw [hf0]
  suffices hgo : W p l e R s m args below meth c H locs 0 0 Q (F0 m 0 ls []) by rw [hH, hlocs] at hgo; exact hgo
  clear hH hlocs hw0 hf0
  have hLs : ∀ b ∈ L, b ∈ L := fun _ h => h
  refine lv_iload_n E.1.1 E.1.2.1 dJ7_copyOf_c38d5_0 rfl (lv_at hl 1 rfl) ?_
  refine lv_aload_n E.1.1 E.1.2.1 dJ7_copyOf_c38d5_1 rfl (lv_at hl 0 rfl) ?_
  refine k_alen E hw 1 h_row rfl (n := 59) rfl dJ7_copyOf_c38d5_2 ?_
  refine k_ne (tgt := 14) E dJ7_copyOf_c38d5_3 (by decide) (by omega) (by omega) (fun c3 => ?_) (fun c3 => absurd c3 (by decide))
  refine lv_iload_n E.1.1 E.1.2.1 dJ7_copyOf_c38d5_14 rfl (lv_at hl 1 rfl) ?_
  refine k_newa (atype := .long) E rfl w1_46 1 rfl hw (3, .inr (.inl (fun _ => 0))) (fun cB => rfl) (by omega) (by decide) (by rw [hR]; exact Nat.le_of_ble_eq_true rfl) (by rw [hR]; exact Nat.le_of_ble_eq_true rfl) dJ7_copyOf_c38d5_15 (fun q f H hq_q h_q hfr hw => ?_)
  have n_row_q : a ≠ q := fun h => hq_q (h ▸ h_row.1)
  have n_q_row := Ne.symm n_row_q
  have h_row := h_row.keep (sub_snoc (a := q)) (hfr _ n_row_q)
  have hd_q : ∀ b ∈ L, b ≠ q := fun b hb h => hq_q (h ▸ hLs b hb)
  have hF : ∀ b ∈ L, f b = f0 b := fun b hb => (hfr b (hd_q b hb)).trans (hF b hb)
  have hLs : ∀ b ∈ L, b ∈ L ++ [q] := fun b hb => List.mem_append_left _ (hLs b hb)
  refine W.cs (cells' := 1) (slots' := 3) rfl rfl ?_
  refine lv_astore_n (lv' := [(2, .ref q), (0, .ref a), (1, .int (nI 3))]) E.1.1 E.1.2.1 dJ7_copyOf_c38d5_17 rfl hl (by decide) rfl (fun ls hl => ?_)
  refine lv_aload_n E.1.1 E.1.2.1 dJ7_copyOf_c38d5_18 rfl (lv_at hl 1 rfl) ?_
  refine lv_iconst (v := nI 0) E.1.1 E.1.2.1 dJ7_copyOf_c38d5_19 rfl ?_
  refine lv_aload_n E.1.1 E.1.2.1 dJ7_copyOf_c38d5_20 rfl (lv_at hl 0 rfl) ?_
  refine lv_iconst (v := nI 0) E.1.1 E.1.2.1 dJ7_copyOf_c38d5_21 rfl ?_
  refine lv_aload_n E.1.1 E.1.2.1 dJ7_copyOf_c38d5_22 rfl (lv_at hl 1 rfl) ?_
  refine k_alen E hw 1 h_row rfl (n := 59) rfl dJ7_copyOf_c38d5_23 ?_
  refine lv_iload_n E.1.1 E.1.2.1 dJ7_copyOf_c38d5_24 rfl (lv_at hl 2 rfl) ?_
  refine va_mmin E.1.1 E.1.2.1 (by rw [E.1.2.2.1]; exact hl.1.symm) E.1.2.2.2.1 (E.1.2.2.2.2 _ w1_182) (E.1.2.2.2.2 _ w1_144) (E.1.2.2.2.2 _ w1_5) (E.1.2.2.2.2 _ w1_145) (by rw [hR]; exact Nat.le_of_ble_eq_true rfl) (by rw [hR]; exact Nat.le_of_ble_eq_true rfl) (by rw [hR]; exact Nat.le_of_ble_eq_true rfl) (by rw [hR]; first | exact Nat.le_of_ble_eq_true rfl | (dsimp only; omega)) dJ7_copyOf_c38d5_25 ?_
  refine k_top E (nI 3) (by decide) ?_
  refine k_copyl E hl.1 w1_183 w1_148 w1_147 w1_7 hw (g) h_row h_q (by omega) (by omega) (by omega) (by omega) (fun j hj => by rw [pk_cpy_in (by omega) (by omega)]; congr 1; omega) (by rw [hR]; exact Nat.le_of_ble_eq_true rfl) (by rw [hR]; exact Nat.le_of_ble_eq_true rfl) dJ7_copyOf_c38d5_28 (fun f H locs h_q hfr hw => ?_)
  have h_row := h_row.kp hfr n_row_q
  have hF : ∀ b ∈ L, f b = f0 b := fun b hb => (hfr b (hd_q b hb)).trans (hF b hb)
  refine lv_aload_n E.1.1 E.1.2.1 dJ7_copyOf_c38d5_31 rfl (lv_at hl 0 rfl) ?_
  exact k_mqret (v := some q) E hQ hlk hr (Or.inr ⟨_, rfl⟩) hw (Nat.le_of_ble_eq_true rfl) (Nat.le_of_ble_eq_true rfl) (⟨hLs, hF, q, rfl, hq_q, h_q⟩) dJ7_copyOf_c38d5_32

set_option maxHeartbeats 4000000 in
set_option maxRecDepth 100000 in
theorem c_copyOfI (l : Launch) (D : va_G) (cy : Nat → ClassId) (L : List Nat) (f0 : Nat → va_E) (sz : Nat) (a n : Nat) (G : Nat → Int32) (hn : n ≤ 320) (h_row : cel L f0 a (.inl (cy 0, 320, .inl G))) : Met l yJ7_copyOf_59c91 (.code yJ7_copyOf_59c91 cJ7_copyOf_59c91 3 (Option.some (FieldType.array FieldType.int)) :: wsL_law) { frames := 1, cells := 1, slots := 320, locals := 18 } (va_Pc [.ref a, .int (nI n)] (PW D cy L f0 sz)) (va_Qq (fun (r : Option Nat) (u : List Nat × (Nat → va_E)) => (∀ b ∈ L, b ∈ u.1) ∧ (∀ b ∈ L, u.2 b = f0 b) ∧ ∃ q, r = some q ∧ q ∉ L ∧ cel u.1 u.2 q (.inl (cy 0, n, .inl G))) (PB D (AW L sz)) (AW L sz)) 1 320 (AW L sz) := by
  refine m_start (by decide) (Nat.le_of_ble_eq_true rfl) ?_
  intro p e R Q s m args below meth c ls hsz hR hQ E hr hlk hnm hw hl
  have hl : lv_has ls 3 [(0, .ref a), (1, .int (nI n))] := hl
  obtain ⟨H, hH⟩ : ∃ X, X = s.heap := ⟨_, rfl⟩
  obtain ⟨locs, hlocs⟩ : ∃ X : List Loc, X = [] := ⟨_, rfl⟩
  have hw0 := hw
  obtain ⟨f, hf0⟩ : ∃ X, X = f0 := ⟨_, rfl⟩
  rw [← hf0] at h_row
  have hw : WW D (AW L sz) s.heap L f H locs := by rw [hH, hlocs, hf0]; exact hw
  have hF : ∀ b ∈ L, f b = f0 b := fun b hb => by rw [hf0]
  suffices hgo : W p l e R s m args below meth c H locs 0 0 Q (F0 m 0 ls []) by rw [hH, hlocs] at hgo; exact hgo
  clear hH hlocs hw0 hf0
  have hLs : ∀ b ∈ L, b ∈ L := fun _ h => h
  refine lv_iload_n E.1.1 E.1.2.1 dJ7_copyOf_59c91_0 rfl (lv_at hl 1 rfl) ?_
  refine lv_aload_n E.1.1 E.1.2.1 dJ7_copyOf_59c91_1 rfl (lv_at hl 0 rfl) ?_
  refine k_alen E hw 0 h_row rfl (n := 320) rfl dJ7_copyOf_59c91_2 ?_
  refine k_ne (tgt := 14) E dJ7_copyOf_59c91_3 (by decide) (by omega) (by omega) (fun c3 => ?_) (fun c3 => ?_)
  · refine lv_iload_n E.1.1 E.1.2.1 dJ7_copyOf_59c91_14 rfl (lv_at hl 1 rfl) ?_
    refine k_newa (atype := .int) E rfl w1_72 0 rfl hw (n, .inl (fun _ => 0)) (fun cB => rfl) (by omega) (by show n * 4 ≤ 536870912; omega) (by rw [hR]; exact Nat.le_of_ble_eq_true rfl) (by rw [hR]; show 0 + n ≤ 320; omega) dJ7_copyOf_59c91_15 (fun q f H hq_q h_q hfr hw => ?_)
    have n_row_q : a ≠ q := fun h => hq_q (h ▸ h_row.1)
    have n_q_row := Ne.symm n_row_q
    have h_row := h_row.keep (sub_snoc (a := q)) (hfr _ n_row_q)
    have hd_q : ∀ b ∈ L, b ≠ q := fun b hb h => hq_q (h ▸ hLs b hb)
    have hF : ∀ b ∈ L, f b = f0 b := fun b hb => (hfr b (hd_q b hb)).trans (hF b hb)
    have hLs : ∀ b ∈ L, b ∈ L ++ [q] := fun b hb => List.mem_append_left _ (hLs b hb)
    refine W.cs (cells' := 1) (slots' := 0 + n) rfl rfl ?_
    refine lv_astore_n (lv' := [(2, .ref q), (0, .ref a), (1, .int (nI n))]) E.1.1 E.1.2.1 dJ7_copyOf_59c91_17 rfl hl (by decide) rfl (fun ls hl => ?_)
    refine lv_aload_n E.1.1 E.1.2.1 dJ7_copyOf_59c91_18 rfl (lv_at hl 1 rfl) ?_
    refine lv_iconst (v := nI 0) E.1.1 E.1.2.1 dJ7_copyOf_59c91_19 rfl ?_
    refine lv_aload_n E.1.1 E.1.2.1 dJ7_copyOf_59c91_20 rfl (lv_at hl 0 rfl) ?_
    refine lv_iconst (v := nI 0) E.1.1 E.1.2.1 dJ7_copyOf_59c91_21 rfl ?_
    refine lv_aload_n E.1.1 E.1.2.1 dJ7_copyOf_59c91_22 rfl (lv_at hl 1 rfl) ?_
    refine k_alen E hw 0 h_row rfl (n := 320) rfl dJ7_copyOf_59c91_23 ?_
    refine lv_iload_n E.1.1 E.1.2.1 dJ7_copyOf_59c91_24 rfl (lv_at hl 2 rfl) ?_
    refine va_mmin E.1.1 E.1.2.1 (by rw [E.1.2.2.1]; exact hl.1.symm) E.1.2.2.2.1 (E.1.2.2.2.2 _ w1_182) (E.1.2.2.2.2 _ w1_144) (E.1.2.2.2.2 _ w1_5) (E.1.2.2.2.2 _ w1_145) (by rw [hR]; exact Nat.le_of_ble_eq_true rfl) (by rw [hR]; exact Nat.le_of_ble_eq_true rfl) (by rw [hR]; exact Nat.le_of_ble_eq_true rfl) (by rw [hR]; first | exact Nat.le_of_ble_eq_true rfl | (dsimp only; omega)) dJ7_copyOf_59c91_25 ?_
    refine k_top E (nI n) (mn320 hn) ?_
    refine k_copyi E hl.1 w1_183 w1_148 w1_147 w1_7 hw (G) h_row h_q (by omega) (by omega) (by omega) (by omega) (fun j hj => by rw [pk_cpy_in (by omega) (by omega)]; congr 1; omega) (by rw [hR]; exact Nat.le_of_ble_eq_true rfl) (by rw [hR]; exact Nat.le_of_ble_eq_true rfl) dJ7_copyOf_59c91_28 (fun f H locs h_q hfr hw => ?_)
    have h_row := h_row.kp hfr n_row_q
    have hF : ∀ b ∈ L, f b = f0 b := fun b hb => (hfr b (hd_q b hb)).trans (hF b hb)
    refine lv_aload_n E.1.1 E.1.2.1 dJ7_copyOf_59c91_31 rfl (lv_at hl 0 rfl) ?_
    exact k_mqret (v := some q) E hQ hlk hr (Or.inr ⟨_, rfl⟩) hw (Nat.le_of_ble_eq_true rfl) (by omega) (⟨hLs, hF, q, rfl, hq_q, h_q⟩) dJ7_copyOf_59c91_32
  · refine lv_aload_n E.1.1 E.1.2.1 dJ7_copyOf_59c91_6 rfl (lv_at hl 0 rfl) ?_
    refine k_clonei E hl.1 w1_175 w1_176 w1_177 w1_178 w1_179 hw h_row (by rw [hR]; exact Nat.le_of_ble_eq_true rfl) (by rw [hR]; exact Nat.le_of_ble_eq_true rfl) (by rw [hR]; exact Nat.le_of_ble_eq_true rfl) (by rw [hR]; exact Nat.le_of_ble_eq_true rfl) dJ7_copyOf_59c91_7 (fun q f H hq_q h_q hfr hw => ?_)
    have n_row_q : a ≠ q := fun h => hq_q (h ▸ h_row.1)
    have n_q_row := Ne.symm n_row_q
    have h_row := h_row.keep (sub_snoc (a := q)) (hfr _ n_row_q)
    have hd_q : ∀ b ∈ L, b ≠ q := fun b hb h => hq_q (h ▸ hLs b hb)
    have hF : ∀ b ∈ L, f b = f0 b := fun b hb => (hfr b (hd_q b hb)).trans (hF b hb)
    have hLs : ∀ b ∈ L, b ∈ L ++ [q] := fun b hb => List.mem_append_left _ (hLs b hb)
    refine W.cs (cells' := 1) (slots' := 320) rfl rfl ?_
    refine k_casti E w1_181 hw h_q dJ7_copyOf_59c91_10 ?_
    exact k_mqret (v := some q) E hQ hlk hr (Or.inr ⟨_, rfl⟩) hw (Nat.le_of_ble_eq_true rfl) (by omega) (⟨hLs, hF, q, rfl, hq_q, by rw [c3]; exact h_q⟩) dJ7_copyOf_59c91_13

set_option maxHeartbeats 4000000 in
set_option maxRecDepth 100000 in
theorem c_sameRows (l : Launch) (D : va_G) (cy : Nat → ClassId) (L : List Nat) (f : Nat → va_E) (sz : Nat) (tr ro go base t per nf x y : Nat) (B : Nat → Nat → Bool) (hx : x ≤ 64) (hy : y ≤ 64) (h_tr : cel L f tr (.inr (4, [.ref ro, .ref go, .int (nI base), .int (nI t), .int (nI per), .int (nI nf)]))) (h_rows : cel L f ro (.inl (cy 1, 195, .inr (.inl (rw3 B))))) : Met l yX4_sameRows (.code yX4_sameRows cX4_sameRows 4 (Option.some FieldType.boolean) :: wsL_law) { frames := 0, cells := 0, slots := 0, locals := 0 } (va_Pc [.ref tr, .int (nI x), .int (nI y)] (PW D cy L f sz)) (vp_Si (fun r => r = b2i (dB (SameR (B x) (B y))))) 0 0 (fun _ => False) := by
  refine m_start (by decide) (Nat.le_of_ble_eq_true rfl) ?_
  intro p e R Q s m args below meth c ls hsz hR hQ E hr hlk hnm hw hl
  have hl : lv_has ls 4 [(0, .ref tr), (1, .int (nI x)), (2, .int (nI y))] := hl
  refine lv_iconst (v := nI 0) E.1.1 E.1.2.1 dX4_sameRows_0 rfl ?_
  refine lv_istore_n (lv' := [(3, .int (nI 0)), (0, .ref tr), (1, .int (nI x)), (2, .int (nI y))]) E.1.1 E.1.2.1 dX4_sameRows_1 rfl hl (by decide) rfl (fun ls hl => ?_)
  have lp2 : ∀ (k : Nat) (i : Nat) (ls : Array Slot), (3 - i < k) → (i ≤ 3) → (∀ j, j < i → wd (B x) j = wd (B y) j) → (lv_has ls 4 [(3, .int (nI i)), (0, .ref tr), (1, .int (nI x)), (2, .int (nI y))]) → W p l e R s m args below meth c s.heap [] 0 0 Q (F0 m 2 ls []) := by
    intro k
    induction k with
    | zero => intro _ _ hk; exact absurd hk (Nat.not_lt_zero _)
    | succ k ih2 =>
      intro i  ls hk hi hg hl
      refine lv_iload_n E.1.1 E.1.2.1 dX4_sameRows_2 rfl (lv_at hl 0 rfl) ?_
      refine lv_iconst (v := nI 3) E.1.1 E.1.2.1 dX4_sameRows_3 rfl ?_
      refine k_ge (tgt := 39) E dX4_sameRows_4 (by decide) (by omega) (by omega) (fun c4 => ?_) (fun c4 => ?_)
      · refine lv_iconst (v := nI 1) E.1.1 E.1.2.1 dX4_sameRows_39 rfl ?_
        refine k_top E (b2i true) rfl ?_
        exact k_zret E hQ hlk hr (by rw [dB_t (same_wd.mp (fun j hj => hg j (by omega)))]) dX4_sameRows_40
      · refine lv_aload_n E.1.1 E.1.2.1 dX4_sameRows_7 rfl (lv_at hl 1 rfl) ?_
        refine k_get (v := .ref ro) E inlX4 rfl 0 (by decide) w1_53 rfl hw h_tr rfl dX4_sameRows_8 ?_
        refine lv_iload_n E.1.1 E.1.2.1 dX4_sameRows_11 rfl (lv_at hl 2 rfl) ?_
        refine lv_iconst (v := nI 3) E.1.1 E.1.2.1 dX4_sameRows_12 rfl ?_
        refine k_mul E dX4_sameRows_13 ?_
        refine lv_iload_n E.1.1 E.1.2.1 dX4_sameRows_14 rfl (lv_at hl 0 rfl) ?_
        refine k_add E dX4_sameRows_15 ?_
        refine k_lald E hw (v := wd (B x) i) h_rows (by omega) (by omega) (rw3_at B x (by omega)) dX4_sameRows_16 ?_
        refine lv_aload_n E.1.1 E.1.2.1 dX4_sameRows_17 rfl (lv_at hl 1 rfl) ?_
        refine k_get (v := .ref ro) E inlX4 rfl 0 (by decide) w1_53 rfl hw h_tr rfl dX4_sameRows_18 ?_
        refine lv_iload_n E.1.1 E.1.2.1 dX4_sameRows_21 rfl (lv_at hl 3 rfl) ?_
        refine lv_iconst (v := nI 3) E.1.1 E.1.2.1 dX4_sameRows_22 rfl ?_
        refine k_mul E dX4_sameRows_23 ?_
        refine lv_iload_n E.1.1 E.1.2.1 dX4_sameRows_24 rfl (lv_at hl 0 rfl) ?_
        refine k_add E dX4_sameRows_25 ?_
        refine k_lald E hw (v := wd (B y) i) h_rows (by omega) (by omega) (rw3_at B y (by omega)) dX4_sameRows_26 ?_
        refine W.lcmp E.1.1 E.1.2.1 dX4_sameRows_27 ?_
        refine lv_if_eq (tgt := 33) E.1.1 E.1.2.1 dX4_sameRows_28 (by decide) (fun c28 => ?_) (fun c28 => ?_)
        · refine lv_iinc (v := nI (i + 1)) (lv' := [(3, .int (nI (i + 1))), (0, .ref tr), (1, .int (nI x)), (2, .int (nI y))]) E.1.1 E.1.2.1 dX4_sameRows_33 hl (k := 0) rfl (nI_1 _) (by decide) rfl (fun ls hl => ?_)
          refine lv_goto (tgt := 2) E.1.1 E.1.2.1 dX4_sameRows_36 (by decide) ?_
          exact ih2  (i + 1) ls (by omega) (by omega) (fun j hj => by
      by_cases h : j = i
      · rw [h]; exact (lg_cmp_eq _ _).mp c28
      · exact hg j (by omega))  (lv_sub hl [0, 1, 2, 3] rfl)
        · refine lv_iconst (v := nI 0) E.1.1 E.1.2.1 dX4_sameRows_31 rfl ?_
          refine k_top E (b2i false) rfl ?_
          exact k_zret E hQ hlk hr (by rw [dB_f (fun h => c28 ((lg_cmp_eq _ _).mpr (same_wd.mpr h i (by omega))))]) dX4_sameRows_32
  exact lp2 (3 - 0 + 1) 0 ls (Nat.lt_succ_self _) (by omega) (fun j hj => absurd hj (by omega))  (lv_sub hl [0, 1, 2, 3] rfl)

set_option maxHeartbeats 4000000 in
set_option maxRecDepth 100000 in
theorem c_metAs (l : Launch) (D : va_G) (cy : Nat → ClassId) (L : List Nat) (f : Nat → va_E) (sz : Nat) (tr ro go base t per nf : Nat) (B : Nat → Nat → Bool) (hnf : nf ≤ 64) (h_tr : cel L f tr (.inr (4, [.ref ro, .ref go, .int (nI base), .int (nI t), .int (nI per), .int (nI nf)]))) (h_rows : cel L f ro (.inl (cy 1, 195, .inr (.inl (rw3 B))))) : Met l yX4_metAs (.code yX4_metAs cX4_metAs 2 (Option.some FieldType.int) :: wsL_law) { frames := 1, cells := 0, slots := 0, locals := 23 } (va_Pc [.ref tr] (PW D cy L f sz)) (vp_Si (fun r => ∃ j, r = nI j ∧ j ≤ nf ∧ (∀ x, x < j → ¬ SameR (B x) (B nf)) ∧ (j = nf ∨ SameR (B j) (B nf)))) 0 0 (fun _ => False) := by
  refine m_start (by decide) (Nat.le_of_ble_eq_true rfl) ?_
  intro p e R Q s m args below meth c ls hsz hR hQ E hr hlk hnm hw hl
  have hl : lv_has ls 2 [(0, .ref tr)] := hl
  refine lv_iconst (v := nI 0) E.1.1 E.1.2.1 dX4_metAs_0 rfl ?_
  refine lv_istore_n (lv' := [(1, .int (nI 0)), (0, .ref tr)]) E.1.1 E.1.2.1 dX4_metAs_1 rfl hl (by decide) rfl (fun ls hl => ?_)
  have lp2 : ∀ (k : Nat) (j : Nat) (ls : Array Slot), (nf - j < k) → (j ≤ nf) → (∀ x, x < j → ¬ SameR (B x) (B nf)) → (lv_has ls 2 [(1, .int (nI j)), (0, .ref tr)]) → W p l e R s m args below meth c s.heap [] 0 0 Q (F0 m 2 ls []) := by
    intro k
    induction k with
    | zero => intro _ _ hk; exact absurd hk (Nat.not_lt_zero _)
    | succ k ih2 =>
      intro j  ls hk hj hg hl
      refine lv_iload_n E.1.1 E.1.2.1 dX4_metAs_2 rfl (lv_at hl 0 rfl) ?_
      refine lv_aload_n E.1.1 E.1.2.1 dX4_metAs_3 rfl (lv_at hl 1 rfl) ?_
      refine k_get (v := .int (nI nf)) E inlX4 rfl 5 (by decide) w1_58 rfl hw h_tr rfl dX4_metAs_4 ?_
      refine k_ge (tgt := 28) E dX4_metAs_7 (by decide) (by omega) (by omega) (fun c7 => ?_) (fun c7 => ?_)
      · refine lv_iload_n E.1.1 E.1.2.1 dX4_metAs_28 rfl (lv_at hl 0 rfl) ?_
        exact k_iret E hQ hlk hr (⟨j, rfl, hj, hg, Or.inl (by omega)⟩) dX4_metAs_29
      · refine lv_aload_n E.1.1 E.1.2.1 dX4_metAs_10 rfl (lv_at hl 1 rfl) ?_
        refine lv_iload_n E.1.1 E.1.2.1 dX4_metAs_11 rfl (lv_at hl 0 rfl) ?_
        refine lv_aload_n E.1.1 E.1.2.1 dX4_metAs_12 rfl (lv_at hl 1 rfl) ?_
        refine k_get (v := .int (nI nf)) E inlX4 rfl 5 (by decide) w1_58 rfl hw h_tr rfl dX4_metAs_13 ?_
        refine k_ri (va_runV (As := [.int (nI j), .int (nI nf)]) (rest := []) E.1 (c_sameRows l D cy L f s.heap.size tr ro go base t per nf j nf B (by omega) (by omega) h_tr h_rows) ⟨callB_of 2 E.1.2.2.2.2 (gd_own w1_163) rfl rfl rfl (E.1.2.2.2.2 _ w1_3) (E.1.2.2.2.2 _ w1_160) hd_X4_sameRows (by rw [hR]; exact ⟨Nat.le_of_ble_eq_true rfl, Nat.le_of_ble_eq_true rfl⟩), E.1.2.2.2.2 _ w1_162, E.1.2.2.2.2 _ ws_8⟩ (pw_preV (q := (RX4, TX4, 6)) E.2 hw h_tr rfl) rfl rfl hl.1 rfl (lv_room (Nat.le_of_ble_eq_true rfl)) dX4_metAs_16 ⟨Nat.zero_le _, Nat.zero_le _⟩) ?_
        refine k_if1 (tgt := 28) E dX4_metAs_19 (by decide) (fun c19 => ?_) (fun c19 => ?_)
        · refine lv_iload_n E.1.1 E.1.2.1 dX4_metAs_28 rfl (lv_at hl 0 rfl) ?_
          exact k_iret E hQ hlk hr (⟨j, rfl, hj, hg, Or.inr (dB_iff.mp c19)⟩) dX4_metAs_29
        · refine lv_iinc (v := nI (j + 1)) (lv' := [(1, .int (nI (j + 1))), (0, .ref tr)]) E.1.1 E.1.2.1 dX4_metAs_22 hl (k := 0) rfl (nI_1 _) (by decide) rfl (fun ls hl => ?_)
          refine lv_goto (tgt := 2) E.1.1 E.1.2.1 dX4_metAs_25 (by decide) ?_
          exact ih2  (j + 1) ls (by omega) (by omega) (fun x hx => by
      by_cases h : x = j
      · rw [h]; exact fun z => absurd (dB_t z) (by rw [c19]; decide)
      · exact hg x (by omega))  (lv_sub hl [0, 1] rfl)
  exact lp2 (nf - 0 + 1) 0 ls (Nat.lt_succ_self _) (by omega) (fun j hj => absurd hj (by omega))  (lv_sub hl [0, 1] rfl)

set_option maxHeartbeats 4000000 in
set_option maxRecDepth 100000 in
theorem c_writeRest (l : Launch) (D : va_G) (cy : Nat → ClassId) (L : List Nat) (f0 : Nat → va_E) (sz : Nat) (tr ro go base t per nf i dg : Nat) (B : Nat → Nat → Bool) (hnf : nf ≤ 64) (hi : i < nf) (hdg : dg < base) (hbase : base ≤ 5) (ht : t ≤ 120) (hper : 0 < per) (hper2 : per ≤ 60) (h_tr : cel L f0 tr (.inr (4, [.ref ro, .ref go, .int (nI base), .int (nI t), .int (nI per), .int (nI nf)]))) (h_rows : cel L f0 ro (.inl (cy 1, 195, .inr (.inl (rw3 B))))) : Met l yX4_writeRest (.code yX4_writeRest cX4_writeRest 7 none :: wsL_law) { frames := 1, cells := 0, slots := 0, locals := 22 } (va_Pc [.ref tr, .int (nI i), .int (nI dg)] (PW D cy L f0 sz)) (va_Qv (fun u : List Nat × (Nat → va_E) => L = u.1 ∧ (∀ b ∈ L, b ≠ ro → u.2 b = f0 b) ∧ cel L u.2 ro (.inl (cy 1, 195, .inr (.inl (rw3 (va_up B nf (rb (fun u => B i (fold t per (base * u + dg))) (t + per)))))))) (PB D (AW L sz)) (AW L sz)) 0 0 (AW L sz) := by
  refine m_start (by decide) (Nat.le_of_ble_eq_true rfl) ?_
  intro p e R Q s m args below meth c ls hsz hR hQ E hr hlk hnm hw hl
  have hl : lv_has ls 7 [(0, .ref tr), (1, .int (nI i)), (2, .int (nI dg))] := hl
  obtain ⟨H, hH⟩ : ∃ X, X = s.heap := ⟨_, rfl⟩
  obtain ⟨locs, hlocs⟩ : ∃ X : List Loc, X = [] := ⟨_, rfl⟩
  have hw0 := hw
  obtain ⟨f, hf0⟩ : ∃ X, X = f0 := ⟨_, rfl⟩
  rw [← hf0] at h_tr h_rows
  have hw : WW D (AW L sz) s.heap L f H locs := by rw [hH, hlocs, hf0]; exact hw
  have hF : ∀ b ∈ L, b ≠ ro → f b = f0 b := fun b hb h0 => by rw [hf0]
  suffices hgo : W p l e R s m args below meth c H locs 0 0 Q (F0 m 0 ls []) by rw [hH, hlocs] at hgo; exact hgo
  clear hH hlocs hw0 hf0
  have hLs : ∀ b ∈ L, b ∈ L := fun _ h => h
  have n_tr_rows : tr ≠ ro := h_tr.ne h_rows (by simp)
  refine lv_iload_n E.1.1 E.1.2.1 dX4_writeRest_0 rfl (lv_at hl 1 rfl) ?_
  refine lv_iconst (v := nI 3) E.1.1 E.1.2.1 dX4_writeRest_1 rfl ?_
  refine k_mul E dX4_writeRest_2 ?_
  refine lv_istore_n (lv' := [(3, .int (nI (i * 3))), (0, .ref tr), (1, .int (nI i)), (2, .int (nI dg))]) E.1.1 E.1.2.1 dX4_writeRest_3 rfl hl (by decide) rfl (fun ls hl => ?_)
  refine lv_aload_n E.1.1 E.1.2.1 dX4_writeRest_4 rfl (lv_at hl 1 rfl) ?_
  refine k_get (v := .int (nI nf)) E inlX4 rfl 5 (by decide) w1_58 rfl hw h_tr rfl dX4_writeRest_5 ?_
  refine lv_iconst (v := nI 3) E.1.1 E.1.2.1 dX4_writeRest_8 rfl ?_
  refine k_mul E dX4_writeRest_9 ?_
  refine lv_istore (lv' := [(4, .int (nI (nf * 3))), (3, .int (nI (i * 3))), (0, .ref tr), (1, .int (nI i)), (2, .int (nI dg))]) E.1.1 E.1.2.1 dX4_writeRest_10 hl (by decide) rfl (fun ls hl => ?_)
  rw [← rz_0 B nf] at h_rows
  refine lv_iconst (v := nI 0) E.1.1 E.1.2.1 dX4_writeRest_12 rfl ?_
  refine lv_istore (lv' := [(5, .int (nI 0)), (4, .int (nI (nf * 3))), (3, .int (nI (i * 3))), (0, .ref tr), (1, .int (nI i)), (2, .int (nI dg))]) E.1.1 E.1.2.1 dX4_writeRest_13 hl (by decide) rfl (fun ls hl => ?_)
  refine lv_iload E.1.1 E.1.2.1 dX4_writeRest_15 (lv_at hl 0 rfl) ?_
  refine lv_iconst (v := nI 3) E.1.1 E.1.2.1 dX4_writeRest_17 rfl ?_
  refine k_ge (tgt := 38) E dX4_writeRest_18 (by decide) (by omega) (by omega) (fun c18 => absurd c18 (by decide)) (fun c18 => ?_)
  refine lv_aload_n E.1.1 E.1.2.1 dX4_writeRest_21 rfl (lv_at hl 3 rfl) ?_
  refine k_get (v := .ref ro) E inlX4 rfl 0 (by decide) w1_53 rfl hw h_tr rfl dX4_writeRest_22 ?_
  refine lv_iload E.1.1 E.1.2.1 dX4_writeRest_25 (lv_at hl 1 rfl) ?_
  refine lv_iload E.1.1 E.1.2.1 dX4_writeRest_27 (lv_at hl 0 rfl) ?_
  refine k_add E dX4_writeRest_29 ?_
  refine lv_lconst (v := 0) E.1.1 E.1.2.1 dX4_writeRest_30 rfl ?_
  refine k_last E hw (rz B nf 1) h_rows (by omega) (by omega) (fun w hw => rz_s B (by decide) w) dX4_writeRest_31 (fun f H locs h_rows hfr hw => ?_)
  have h_tr := h_tr.kp hfr n_tr_rows
  have hF : ∀ b ∈ L, b ≠ ro → f b = f0 b := fun b hb h0 => (hfr b h0).trans (hF b hb h0)
  refine lv_iinc (v := nI 1) (lv' := [(5, .int (nI 1)), (4, .int (nI (nf * 3))), (3, .int (nI (i * 3))), (0, .ref tr), (1, .int (nI i)), (2, .int (nI dg))]) E.1.1 E.1.2.1 dX4_writeRest_32 hl (k := 0) rfl (rfl) (by decide) rfl (fun ls hl => ?_)
  refine lv_goto (tgt := 15) E.1.1 E.1.2.1 dX4_writeRest_35 (by decide) ?_
  refine lv_iload E.1.1 E.1.2.1 dX4_writeRest_15 (lv_at hl 0 rfl) ?_
  refine lv_iconst (v := nI 3) E.1.1 E.1.2.1 dX4_writeRest_17 rfl ?_
  refine k_ge (tgt := 38) E dX4_writeRest_18 (by decide) (by omega) (by omega) (fun c18 => absurd c18 (by decide)) (fun c18 => ?_)
  refine lv_aload_n E.1.1 E.1.2.1 dX4_writeRest_21 rfl (lv_at hl 3 rfl) ?_
  refine k_get (v := .ref ro) E inlX4 rfl 0 (by decide) w1_53 rfl hw h_tr rfl dX4_writeRest_22 ?_
  refine lv_iload E.1.1 E.1.2.1 dX4_writeRest_25 (lv_at hl 1 rfl) ?_
  refine lv_iload E.1.1 E.1.2.1 dX4_writeRest_27 (lv_at hl 0 rfl) ?_
  refine k_add E dX4_writeRest_29 ?_
  refine lv_lconst (v := 0) E.1.1 E.1.2.1 dX4_writeRest_30 rfl ?_
  refine k_last E hw (rz B nf 2) h_rows (by omega) (by omega) (fun w hw => rz_s B (by decide) w) dX4_writeRest_31 (fun f H locs h_rows hfr hw => ?_)
  have h_tr := h_tr.kp hfr n_tr_rows
  have hF : ∀ b ∈ L, b ≠ ro → f b = f0 b := fun b hb h0 => (hfr b h0).trans (hF b hb h0)
  refine lv_iinc (v := nI 2) (lv' := [(5, .int (nI 2)), (4, .int (nI (nf * 3))), (3, .int (nI (i * 3))), (0, .ref tr), (1, .int (nI i)), (2, .int (nI dg))]) E.1.1 E.1.2.1 dX4_writeRest_32 hl (k := 0) rfl (rfl) (by decide) rfl (fun ls hl => ?_)
  refine lv_goto (tgt := 15) E.1.1 E.1.2.1 dX4_writeRest_35 (by decide) ?_
  refine lv_iload E.1.1 E.1.2.1 dX4_writeRest_15 (lv_at hl 0 rfl) ?_
  refine lv_iconst (v := nI 3) E.1.1 E.1.2.1 dX4_writeRest_17 rfl ?_
  refine k_ge (tgt := 38) E dX4_writeRest_18 (by decide) (by omega) (by omega) (fun c18 => absurd c18 (by decide)) (fun c18 => ?_)
  refine lv_aload_n E.1.1 E.1.2.1 dX4_writeRest_21 rfl (lv_at hl 3 rfl) ?_
  refine k_get (v := .ref ro) E inlX4 rfl 0 (by decide) w1_53 rfl hw h_tr rfl dX4_writeRest_22 ?_
  refine lv_iload E.1.1 E.1.2.1 dX4_writeRest_25 (lv_at hl 1 rfl) ?_
  refine lv_iload E.1.1 E.1.2.1 dX4_writeRest_27 (lv_at hl 0 rfl) ?_
  refine k_add E dX4_writeRest_29 ?_
  refine lv_lconst (v := 0) E.1.1 E.1.2.1 dX4_writeRest_30 rfl ?_
  refine k_last E hw (rz B nf 3) h_rows (by omega) (by omega) (fun w hw => rz_s B (by decide) w) dX4_writeRest_31 (fun f H locs h_rows hfr hw => ?_)
  have h_tr := h_tr.kp hfr n_tr_rows
  have hF : ∀ b ∈ L, b ≠ ro → f b = f0 b := fun b hb h0 => (hfr b h0).trans (hF b hb h0)
  refine lv_iinc (v := nI 3) (lv' := [(5, .int (nI 3)), (4, .int (nI (nf * 3))), (3, .int (nI (i * 3))), (0, .ref tr), (1, .int (nI i)), (2, .int (nI dg))]) E.1.1 E.1.2.1 dX4_writeRest_32 hl (k := 0) rfl (rfl) (by decide) rfl (fun ls hl => ?_)
  refine lv_goto (tgt := 15) E.1.1 E.1.2.1 dX4_writeRest_35 (by decide) ?_
  refine lv_iload E.1.1 E.1.2.1 dX4_writeRest_15 (lv_at hl 0 rfl) ?_
  refine lv_iconst (v := nI 3) E.1.1 E.1.2.1 dX4_writeRest_17 rfl ?_
  refine k_ge (tgt := 38) E dX4_writeRest_18 (by decide) (by omega) (by omega) (fun c18 => ?_) (fun c18 => absurd c18 (by decide))
  rw [rz_3 B nf, ← rb_0 (fun u => B i (fold t per (base * u + dg)))] at h_rows
  refine lv_iload_n E.1.1 E.1.2.1 dX4_writeRest_38 rfl (lv_at hl 5 rfl) ?_
  refine lv_aload_n E.1.1 E.1.2.1 dX4_writeRest_39 rfl (lv_at hl 3 rfl) ?_
  refine k_get (v := .int (nI t)) E inlX4 rfl 3 (by decide) w1_56 rfl hw h_tr rfl dX4_writeRest_40 ?_
  refine lv_aload_n E.1.1 E.1.2.1 dX4_writeRest_43 rfl (lv_at hl 3 rfl) ?_
  refine k_get (v := .int (nI per)) E inlX4 rfl 4 (by decide) w1_57 rfl hw h_tr rfl dX4_writeRest_44 ?_
  refine k_ri (va_runSN (As := [.int (nI dg), .int (nI t), .int (nI per)]) (rest := []) E.1 (c_folded l D cy L f H.size dg t per hper (by omega) (by omega)) ⟨va_cnB 3 E.1.2.2.2.2 (gd_own w1_155) rfl rfl rfl (E.2.2.1 _ (List.mem_of_getElem? (i := 12) rfl)) (E.1.2.2.2.2 _ w1_1) hd_X5_folded (by rw [hR]; exact ⟨Nat.le_of_ble_eq_true rfl, Nat.le_of_ble_eq_true rfl⟩), E.1.2.2.2.2 _ w1_154, trivial⟩ (pw_pre E.2 hw) rfl rfl hl.1 rfl (lv_room (Nat.le_of_ble_eq_true rfl)) dX4_writeRest_47 ⟨Nat.zero_le _, Nat.zero_le _⟩) ?_
  refine k_top E (nI (fold t per (base * 0 + dg))) (by rw [Nat.mul_zero, Nat.zero_add]) ?_
  refine lv_istore (lv' := [(5, .int (nI (fold t per (base * 0 + dg)))), (4, .int (nI (nf * 3))), (3, .int (nI (i * 3))), (0, .ref tr), (1, .int (nI i)), (2, .int (nI dg))]) E.1.1 E.1.2.1 dX4_writeRest_50 hl (by decide) rfl (fun ls hl => ?_)
  refine lv_iconst (v := nI 0) E.1.1 E.1.2.1 dX4_writeRest_52 rfl ?_
  refine lv_istore (lv' := [(6, .int (nI 0)), (5, .int (nI (fold t per (base * 0 + dg)))), (4, .int (nI (nf * 3))), (3, .int (nI (i * 3))), (0, .ref tr), (1, .int (nI i)), (2, .int (nI dg))]) E.1.1 E.1.2.1 dX4_writeRest_53 hl (by decide) rfl (fun ls hl => ?_)
  have lp55 : ∀ (k : Nat) (u : Nat) (f : Nat → va_E) (H : Heap) (locs : List Loc) (ls : Array Slot), (t + per - u < k) → (u ≤ t + per) → (cel L f tr (.inr (4, [.ref ro, .ref go, .int (nI base), .int (nI t), .int (nI per), .int (nI nf)]))) → (cel L f ro (.inl (cy 1, 195, .inr (.inl (rw3 (va_up B nf (rb (fun u => B i (fold t per (base * u + dg))) (u)))))))) → (∀ b ∈ L, b ≠ ro → f b = f0 b) → (WW D (AW L sz) s.heap L f H locs) → (lv_has ls 7 [(6, .int (nI u)), (5, .int (nI (fold t per (base * u + dg)))), (4, .int (nI (nf * 3))), (3, .int (nI (i * 3))), (0, .ref tr), (1, .int (nI i)), (2, .int (nI dg))]) → W p l e R s m args below meth c H locs 0 0 Q (F0 m 55 ls []) := by
    intro k
    induction k with
    | zero => intro _ _ _ _ _ hk; exact absurd hk (Nat.not_lt_zero _)
    | succ k ih55 =>
      intro u f H locs ls hk hu h_tr h_rows hF hw hl
      refine lv_iload E.1.1 E.1.2.1 dX4_writeRest_55 (lv_at hl 0 rfl) ?_
      refine lv_aload_n E.1.1 E.1.2.1 dX4_writeRest_57 rfl (lv_at hl 4 rfl) ?_
      refine k_get (v := .int (nI t)) E inlX4 rfl 3 (by decide) w1_56 rfl hw h_tr rfl dX4_writeRest_58 ?_
      refine lv_aload_n E.1.1 E.1.2.1 dX4_writeRest_61 rfl (lv_at hl 4 rfl) ?_
      refine k_get (v := .int (nI per)) E inlX4 rfl 4 (by decide) w1_57 rfl hw h_tr rfl dX4_writeRest_62 ?_
      refine k_add E dX4_writeRest_65 ?_
      refine k_ge (tgt := 131) E dX4_writeRest_66 (by decide) (by omega) (by omega) (fun c66 => ?_) (fun c66 => ?_)
      · exact k_mvret E hQ hlk hr hw (Nat.le_of_ble_eq_true rfl) (Nat.le_of_ble_eq_true rfl) (⟨rfl, hF, by rw [show t + per = u by omega]; exact h_rows⟩) dX4_writeRest_131
      · have hpl := fold_lt (t := t) (p := per) (n := base * u + dg) hper
        refine lv_aload_n E.1.1 E.1.2.1 dX4_writeRest_69 rfl (lv_at hl 4 rfl) ?_
        refine k_get (v := .ref ro) E inlX4 rfl 0 (by decide) w1_53 rfl hw h_tr rfl dX4_writeRest_70 ?_
        refine lv_iload E.1.1 E.1.2.1 dX4_writeRest_73 (lv_at hl 2 rfl) ?_
        refine lv_iload E.1.1 E.1.2.1 dX4_writeRest_75 (lv_at hl 0 rfl) ?_
        refine lv_bipush (v := nI 6) E.1.1 E.1.2.1 dX4_writeRest_77 rfl ?_
        refine k_shr6 E dX4_writeRest_79 (by omega) ?_
        refine k_add E dX4_writeRest_80 ?_
        refine lv_dup2_11 E.1.1 E.1.2.1 dX4_writeRest_81 rfl rfl ?_
        refine k_lald E hw (v := wd (rb (fun u => B i (fold t per (base * u + dg))) u) (u / 64)) h_rows (by omega) (by omega) (by rw [rw3_at _ _ (by omega), va_up_self]) dX4_writeRest_82 ?_
        refine lv_aload_n E.1.1 E.1.2.1 dX4_writeRest_83 rfl (lv_at hl 4 rfl) ?_
        refine k_get (v := .ref ro) E inlX4 rfl 0 (by decide) w1_53 rfl hw h_tr rfl dX4_writeRest_84 ?_
        refine lv_iload_n E.1.1 E.1.2.1 dX4_writeRest_87 rfl (lv_at hl 3 rfl) ?_
        refine lv_iload E.1.1 E.1.2.1 dX4_writeRest_88 (lv_at hl 1 rfl) ?_
        refine lv_bipush (v := nI 6) E.1.1 E.1.2.1 dX4_writeRest_90 rfl ?_
        refine k_shr6 E dX4_writeRest_92 (by omega) ?_
        refine k_add E dX4_writeRest_93 ?_
        refine k_lald E hw (v := wd (B i) (fold t per (base * u + dg) / 64)) h_rows (by omega) (by omega) (by rw [rw3_at _ _ (by omega), va_up_ne _ _ (by omega)]) dX4_writeRest_94 ?_
        refine lv_iload E.1.1 E.1.2.1 dX4_writeRest_95 (lv_at hl 1 rfl) ?_
        refine lv_lushr E.1.1 E.1.2.1 dX4_writeRest_97 rfl ?_
        refine lv_lconst (v := 1) E.1.1 E.1.2.1 dX4_writeRest_98 rfl ?_
        refine lv_land E.1.1 E.1.2.1 dX4_writeRest_99 ?_
        refine k_topl E (lN (if B i (fold t per (base * u + dg)) then 1 else 0)) (by rw [wd_bit (by omega), show 64 * ((fold t per (base * u + dg)) / 64) + (fold t per (base * u + dg)) % 64 = (fold t per (base * u + dg)) by omega]) ?_
        refine lv_iload E.1.1 E.1.2.1 dX4_writeRest_100 (lv_at hl 0 rfl) ?_
        refine lv_lshl E.1.1 E.1.2.1 dX4_writeRest_102 rfl ?_
        refine k_topl E (lN (if B i (fold t per (base * u + dg)) then 2 ^ (u % 64) else 0)) (bit_shl (by omega)) ?_
        refine lv_lor E.1.1 E.1.2.1 dX4_writeRest_103 ?_
        refine k_last E hw (rw3 (va_up B nf (rb (fun u => B i (fold t per (base * u + dg))) (u + 1)))) h_rows (by omega) (by omega) (fun w hw => st_rest B (fun u => B i (fold t per (base * u + dg))) nf (by omega) w) dX4_writeRest_104 (fun f H locs h_rows hfr hw => ?_)
        have h_tr := h_tr.kp hfr n_tr_rows
        have hF : ∀ b ∈ L, b ≠ ro → f b = f0 b := fun b hb h0 => (hfr b h0).trans (hF b hb h0)
        refine lv_iload E.1.1 E.1.2.1 dX4_writeRest_105 (lv_at hl 1 rfl) ?_
        refine lv_aload_n E.1.1 E.1.2.1 dX4_writeRest_107 rfl (lv_at hl 4 rfl) ?_
        refine k_get (v := .int (nI base)) E inlX4 rfl 2 (by decide) w1_55 rfl hw h_tr rfl dX4_writeRest_108 ?_
        refine k_add E dX4_writeRest_111 ?_
        refine lv_aload_n E.1.1 E.1.2.1 dX4_writeRest_112 rfl (lv_at hl 4 rfl) ?_
        refine k_get (v := .int (nI t)) E inlX4 rfl 3 (by decide) w1_56 rfl hw h_tr rfl dX4_writeRest_113 ?_
        refine lv_aload_n E.1.1 E.1.2.1 dX4_writeRest_116 rfl (lv_at hl 4 rfl) ?_
        refine k_get (v := .int (nI per)) E inlX4 rfl 4 (by decide) w1_57 rfl hw h_tr rfl dX4_writeRest_117 ?_
        refine k_ri (va_runSN (As := [.int (nI ((fold t per (base * u + dg)) + base)), .int (nI t), .int (nI per)]) (rest := []) E.1 (c_folded l D cy L f H.size (fold t per (base * u + dg) + base) t per hper (by omega) (by omega)) ⟨va_cnB 3 E.1.2.2.2.2 (gd_own w1_155) rfl rfl rfl (E.2.2.1 _ (List.mem_of_getElem? (i := 12) rfl)) (E.1.2.2.2.2 _ w1_1) hd_X5_folded (by rw [hR]; exact ⟨Nat.le_of_ble_eq_true rfl, Nat.le_of_ble_eq_true rfl⟩), E.1.2.2.2.2 _ w1_154, trivial⟩ (pw_pre E.2 hw) rfl rfl hl.1 rfl (lv_room (Nat.le_of_ble_eq_true rfl)) dX4_writeRest_120 ⟨Nat.zero_le _, Nat.zero_le _⟩) ?_
        refine k_top E (nI (fold t per (base * (u + 1) + dg))) (by rw [fold_add hper, show base * u + dg + base = base * (u + 1) + dg by rw [Nat.mul_succ]; omega]) ?_
        refine lv_istore (lv' := [(5, .int (nI (fold t per (base * (u + 1) + dg)))), (6, .int (nI u)), (4, .int (nI (nf * 3))), (3, .int (nI (i * 3))), (0, .ref tr), (1, .int (nI i)), (2, .int (nI dg))]) E.1.1 E.1.2.1 dX4_writeRest_123 hl (by decide) rfl (fun ls hl => ?_)
        refine lv_iinc (v := nI (u + 1)) (lv' := [(6, .int (nI (u + 1))), (5, .int (nI (fold t per (base * (u + 1) + dg)))), (4, .int (nI (nf * 3))), (3, .int (nI (i * 3))), (0, .ref tr), (1, .int (nI i)), (2, .int (nI dg))]) E.1.1 E.1.2.1 dX4_writeRest_125 hl (k := 1) rfl (nI_1 _) (by decide) rfl (fun ls hl => ?_)
        refine lv_goto (tgt := 55) E.1.1 E.1.2.1 dX4_writeRest_128 (by decide) ?_
        exact ih55  (u + 1) f H locs ls (by omega) (by omega) h_tr h_rows hF hw (lv_sub hl [0, 1, 2, 3, 4, 5, 6] rfl)
  exact lp55 (t + per - 0 + 1) 0 f H locs ls (Nat.lt_succ_self _) (by omega) h_tr h_rows hF hw (lv_sub hl [0, 1, 2, 3, 4, 5, 6] rfl)

set_option maxHeartbeats 4000000 in
set_option maxRecDepth 100000 in
theorem c_trace (l : Launch) (D : va_G) (cy : Nat → ClassId) (L : List Nat) (f0 : Nat → va_E) (sz : Nat) (tr ro go d r0 base t per : Nat) (i1 i2 i3 i4 : Int32) (b : Nat → Bool) (B0 : Nat → Nat → Bool) (G0 : Nat → Int32) (S : Nat → Bool) (hbase : 0 < base) (hbase5 : base ≤ 5) (hS : SetIs S t per b) (h_tr : cel L f0 tr (.inr (4, [.ref ro, .ref go, .int i1, .int i2, .int i3, .int i4]))) (h_rows : cel L f0 ro (.inl (cy 1, 195, .inr (.inl (rw3 B0))))) (h_goes : cel L f0 go (.inl (cy 0, 320, .inl G0))) (h_d : cel L f0 d (.inr (0, [.ref r0, .int (nI t), .int (nI per)]))) (h_row : cel L f0 r0 (.inl (cy 1, 59, .inr (.inl (wd b))))) : Met l yX4_trace (.code yX4_trace cX4_trace 6 (Option.some FieldType.boolean) :: wsL_law) { frames := 2, cells := 0, slots := 0, locals := 48 } (va_Pc [.ref tr, .ref d, .int (nI base)] (PW D cy L f0 sz)) (va_Qi (fun (r : Int32) (u : List Nat × (Nat → va_E)) => L = u.1 ∧ (∀ b ∈ L, b ≠ tr → b ≠ ro → b ≠ go → u.2 b = f0 b) ∧ ∃ nf B G, cel L u.2 tr (.inr (4, [.ref ro, .ref go, .int (nI base), .int (nI t), .int (nI per), .int (nI nf)])) ∧ cel L u.2 ro (.inl (cy 1, 195, .inr (.inl (rw3 B)))) ∧ cel L u.2 go (.inl (cy 0, 320, .inl G)) ∧ ((r = b2i true ∧ nf ≤ 64 ∧ TI S base t per (nf * base) nf B G) ∨ (r = b2i false ∧ ∃ K, FS S base K ∧ 64 < (trn S base K).1))) (PB D (AW L sz)) (AW L sz)) 0 0 (AW L sz) := by
  refine m_start (by decide) (Nat.le_of_ble_eq_true rfl) ?_
  intro p e R Q s m args below meth c ls hsz hR hQ E hr hlk hnm hw hl
  have hl : lv_has ls 6 [(0, .ref tr), (1, .ref d), (2, .int (nI base))] := hl
  obtain ⟨H, hH⟩ : ∃ X, X = s.heap := ⟨_, rfl⟩
  obtain ⟨locs, hlocs⟩ : ∃ X : List Loc, X = [] := ⟨_, rfl⟩
  have hw0 := hw
  obtain ⟨f, hf0⟩ : ∃ X, X = f0 := ⟨_, rfl⟩
  rw [← hf0] at h_tr h_rows h_goes h_d h_row
  have hw : WW D (AW L sz) s.heap L f H locs := by rw [hH, hlocs, hf0]; exact hw
  have hF : ∀ b ∈ L, b ≠ tr → b ≠ ro → b ≠ go → f b = f0 b := fun b hb h0 h1 h2 => by rw [hf0]
  suffices hgo : W p l e R s m args below meth c H locs 0 0 Q (F0 m 0 ls []) by rw [hH, hlocs] at hgo; exact hgo
  clear hH hlocs hw0 hf0
  have hLs : ∀ b ∈ L, b ∈ L := fun _ h => h
  have n_tr_rows : tr ≠ ro := h_tr.ne h_rows (by simp)
  have n_tr_goes : tr ≠ go := h_tr.ne h_goes (by simp)
  have n_rows_tr : ro ≠ tr := h_rows.ne h_tr (by simp)
  have n_rows_goes : ro ≠ go := h_rows.ne h_goes (by simp)
  have n_goes_tr : go ≠ tr := h_goes.ne h_tr (by simp)
  have n_goes_rows : go ≠ ro := h_goes.ne h_rows (by simp)
  have n_d_tr : d ≠ tr := h_d.ne h_tr (by simp)
  have n_d_rows : d ≠ ro := h_d.ne h_rows (by simp)
  have n_d_goes : d ≠ go := h_d.ne h_goes (by simp)
  have n_row_tr : r0 ≠ tr := h_row.ne h_tr (by simp)
  have n_row_rows : r0 ≠ ro := h_row.ne h_rows (by simp)
  have n_row_goes : r0 ≠ go := h_row.ne h_goes (by simp)
  have hper := hS.1.1
  have hper2 := hS.2.1
  have ht := hS.2.2.1
  refine lv_aload_n E.1.1 E.1.2.1 dX4_trace_0 rfl (lv_at hl 1 rfl) ?_
  refine k_getN (v := .int (nI t)) E inlX0 rfl 1 (by decide) (List.mem_of_getElem? (i := 4) rfl) rfl hw h_d rfl dX4_trace_1 ?_
  refine lv_bipush (v := nI 120) E.1.1 E.1.2.1 dX4_trace_4 rfl ?_
  refine k_gt (tgt := 18) E dX4_trace_6 (by decide) (by omega) (by omega) (fun c6 => absurd c6 (by omega)) (fun c6 => ?_)
  refine lv_aload_n E.1.1 E.1.2.1 dX4_trace_9 rfl (lv_at hl 1 rfl) ?_
  refine k_getN (v := .int (nI per)) E inlX0 rfl 2 (by decide) (List.mem_of_getElem? (i := 6) rfl) rfl hw h_d rfl dX4_trace_10 ?_
  refine lv_bipush (v := nI 60) E.1.1 E.1.2.1 dX4_trace_13 rfl ?_
  refine k_le (tgt := 20) E dX4_trace_15 (by decide) (by omega) (by omega) (fun c15 => ?_) (fun c15 => absurd c15 (by omega))
  refine lv_aload_n E.1.1 E.1.2.1 dX4_trace_20 rfl (lv_at hl 0 rfl) ?_
  refine lv_iload_n E.1.1 E.1.2.1 dX4_trace_21 rfl (lv_at hl 2 rfl) ?_
  refine lv_iconst (v := nI 5) E.1.1 E.1.2.1 dX4_trace_22 rfl ?_
  refine va_mmin E.1.1 E.1.2.1 (by rw [E.1.2.2.1]; exact hl.1.symm) E.1.2.2.2.1 (E.1.2.2.2.2 _ w1_143) (E.1.2.2.2.2 _ w1_144) (E.1.2.2.2.2 _ w1_5) (E.1.2.2.2.2 _ w1_145) (by rw [hR]; exact Nat.le_of_ble_eq_true rfl) (by rw [hR]; exact Nat.le_of_ble_eq_true rfl) (by rw [hR]; exact Nat.le_of_ble_eq_true rfl) (by rw [hR]; first | exact Nat.le_of_ble_eq_true rfl | (dsimp only; omega)) dX4_trace_23 ?_
  refine k_top E (nI base) (mn5 hbase5) ?_
  refine k_put (ty0 := tyX4) E inlX4 rfl tyX4_ok nmX4 2 (by decide) w1_55 rfl rfl hw [.ref ro, .ref go, .int (nI base), .int i2, .int i3, .int i4] h_tr (rfl) (rfl) (Nat.le_of_ble_eq_true rfl) rfl dX4_trace_26 (fun f H locs h_tr hfr hw => ?_)
  have h_rows := h_rows.kp hfr n_rows_tr
  have h_goes := h_goes.kp hfr n_goes_tr
  have h_d := h_d.kp hfr n_d_tr
  have h_row := h_row.kp hfr n_row_tr
  have hF : ∀ b ∈ L, b ≠ tr → b ≠ ro → b ≠ go → f b = f0 b := fun b hb h0 h1 h2 => (hfr b h0).trans (hF b hb h0 h1 h2)
  refine lv_aload_n E.1.1 E.1.2.1 dX4_trace_29 rfl (lv_at hl 0 rfl) ?_
  refine lv_aload_n E.1.1 E.1.2.1 dX4_trace_30 rfl (lv_at hl 1 rfl) ?_
  refine k_getN (v := .int (nI t)) E inlX0 rfl 1 (by decide) (List.mem_of_getElem? (i := 4) rfl) rfl hw h_d rfl dX4_trace_31 ?_
  refine k_put (ty0 := tyX4) E inlX4 rfl tyX4_ok nmX4 3 (by decide) w1_56 rfl rfl hw [.ref ro, .ref go, .int (nI base), .int (nI t), .int i3, .int i4] h_tr (rfl) (rfl) (Nat.le_of_ble_eq_true rfl) rfl dX4_trace_34 (fun f H locs h_tr hfr hw => ?_)
  have h_rows := h_rows.kp hfr n_rows_tr
  have h_goes := h_goes.kp hfr n_goes_tr
  have h_d := h_d.kp hfr n_d_tr
  have h_row := h_row.kp hfr n_row_tr
  have hF : ∀ b ∈ L, b ≠ tr → b ≠ ro → b ≠ go → f b = f0 b := fun b hb h0 h1 h2 => (hfr b h0).trans (hF b hb h0 h1 h2)
  refine lv_aload_n E.1.1 E.1.2.1 dX4_trace_37 rfl (lv_at hl 0 rfl) ?_
  refine lv_aload_n E.1.1 E.1.2.1 dX4_trace_38 rfl (lv_at hl 1 rfl) ?_
  refine k_getN (v := .int (nI per)) E inlX0 rfl 2 (by decide) (List.mem_of_getElem? (i := 6) rfl) rfl hw h_d rfl dX4_trace_39 ?_
  refine k_put (ty0 := tyX4) E inlX4 rfl tyX4_ok nmX4 4 (by decide) w1_57 rfl rfl hw [.ref ro, .ref go, .int (nI base), .int (nI t), .int (nI per), .int i4] h_tr (rfl) (rfl) (Nat.le_of_ble_eq_true rfl) rfl dX4_trace_42 (fun f H locs h_tr hfr hw => ?_)
  have h_rows := h_rows.kp hfr n_rows_tr
  have h_goes := h_goes.kp hfr n_goes_tr
  have h_d := h_d.kp hfr n_d_tr
  have h_row := h_row.kp hfr n_row_tr
  have hF : ∀ b ∈ L, b ≠ tr → b ≠ ro → b ≠ go → f b = f0 b := fun b hb h0 h1 h2 => (hfr b h0).trans (hF b hb h0 h1 h2)
  refine lv_aload_n E.1.1 E.1.2.1 dX4_trace_45 rfl (lv_at hl 1 rfl) ?_
  refine k_getN (v := .ref r0) E inlX0 rfl 0 (by decide) (List.mem_of_getElem? (i := 2) rfl) rfl hw h_d rfl dX4_trace_46 ?_
  refine lv_iconst (v := nI 0) E.1.1 E.1.2.1 dX4_trace_49 rfl ?_
  refine lv_aload_n E.1.1 E.1.2.1 dX4_trace_50 rfl (lv_at hl 0 rfl) ?_
  refine k_get (v := .ref ro) E inlX4 rfl 0 (by decide) w1_53 rfl hw h_tr rfl dX4_trace_51 ?_
  refine lv_iconst (v := nI 0) E.1.1 E.1.2.1 dX4_trace_54 rfl ?_
  refine lv_iconst (v := nI 3) E.1.1 E.1.2.1 dX4_trace_55 rfl ?_
  refine k_copyl E hl.1 w1_146 w1_148 w1_147 w1_7 hw (rw3 (va_up B0 0 b)) h_row h_rows (by omega) (by omega) (by omega) (by omega) (fun w hw => cp3 b B0 w) (by rw [hR]; exact Nat.le_of_ble_eq_true rfl) (by rw [hR]; exact Nat.le_of_ble_eq_true rfl) dX4_trace_56 (fun f H locs h_rows hfr hw => ?_)
  have h_tr := h_tr.kp hfr n_tr_rows
  have h_goes := h_goes.kp hfr n_goes_rows
  have h_d := h_d.kp hfr n_d_rows
  have h_row := h_row.kp hfr n_row_rows
  have hF : ∀ b ∈ L, b ≠ tr → b ≠ ro → b ≠ go → f b = f0 b := fun b hb h0 h1 h2 => (hfr b h1).trans (hF b hb h0 h1 h2)
  refine lv_aload_n E.1.1 E.1.2.1 dX4_trace_59 rfl (lv_at hl 0 rfl) ?_
  refine lv_iconst (v := nI 1) E.1.1 E.1.2.1 dX4_trace_60 rfl ?_
  refine k_put (ty0 := tyX4) E inlX4 rfl tyX4_ok nmX4 5 (by decide) w1_58 rfl rfl hw [.ref ro, .ref go, .int (nI base), .int (nI t), .int (nI per), .int (nI 1)] h_tr (rfl) (rfl) (Nat.le_of_ble_eq_true rfl) rfl dX4_trace_61 (fun f H locs h_tr hfr hw => ?_)
  have h_rows := h_rows.kp hfr n_rows_tr
  have h_goes := h_goes.kp hfr n_goes_tr
  have h_d := h_d.kp hfr n_d_tr
  have h_row := h_row.kp hfr n_row_tr
  have hF : ∀ b ∈ L, b ≠ tr → b ≠ ro → b ≠ go → f b = f0 b := fun b hb h0 h1 h2 => (hfr b h0).trans (hF b hb h0 h1 h2)
  refine lv_iconst (v := nI 0) E.1.1 E.1.2.1 dX4_trace_64 rfl ?_
  refine lv_istore_n (lv' := [(3, .int (nI 0)), (0, .ref tr), (1, .ref d), (2, .int (nI base))]) E.1.1 E.1.2.1 dX4_trace_65 rfl hl (by decide) rfl (fun ls hl => ?_)
  have lp66 : ∀ (k : Nat) (i : Nat) (nf : Nat) (B : Nat → Nat → Bool) (G : Nat → Int32) (f : Nat → va_E) (H : Heap) (locs : List Loc) (ls : Array Slot), (65 - i < k) → (i ≤ nf) → (nf ≤ 64) → (TI S base t per (i * base) nf B G) → (cel L f tr (.inr (4, [.ref ro, .ref go, .int (nI base), .int (nI t), .int (nI per), .int (nI nf)]))) → (cel L f ro (.inl (cy 1, 195, .inr (.inl (rw3 B))))) → (cel L f go (.inl (cy 0, 320, .inl G))) → (cel L f d (.inr (0, [.ref r0, .int (nI t), .int (nI per)]))) → (cel L f r0 (.inl (cy 1, 59, .inr (.inl (wd b))))) → (∀ b ∈ L, b ≠ tr → b ≠ ro → b ≠ go → f b = f0 b) → (WW D (AW L sz) s.heap L f H locs) → (lv_has ls 6 [(3, .int (nI i)), (0, .ref tr), (1, .ref d), (2, .int (nI base))]) → W p l e R s m args below meth c H locs 0 0 Q (F0 m 66 ls []) := by
    intro k
    induction k with
    | zero => intro _ _ _ _ _ _ _ _ hk; exact absurd hk (Nat.not_lt_zero _)
    | succ k ih66 =>
      intro i nf B G f H locs ls hk hi hnf hT h_tr h_rows h_goes h_d h_row hF hw hl
      refine lv_iload_n E.1.1 E.1.2.1 dX4_trace_66 rfl (lv_at hl 0 rfl) ?_
      refine lv_aload_n E.1.1 E.1.2.1 dX4_trace_67 rfl (lv_at hl 1 rfl) ?_
      refine k_get (v := .int (nI nf)) E inlX4 rfl 5 (by decide) w1_58 rfl hw h_tr rfl dX4_trace_68 ?_
      refine k_ge (tgt := 157) E dX4_trace_71 (by decide) (by omega) (by omega) (fun c71 => ?_) (fun c71 => ?_)
      · refine lv_iconst (v := nI 1) E.1.1 E.1.2.1 dX4_trace_157 rfl ?_
        refine k_top E (b2i true) rfl ?_
        exact k_mzret E hQ hlk hr hw (Nat.le_of_ble_eq_true rfl) (Nat.le_of_ble_eq_true rfl) (⟨rfl, hF, nf, B, G, h_tr, h_rows, h_goes, Or.inl ⟨rfl, hnf, by rw [show nf = i by omega] at hT ⊢; exact hT⟩⟩) dX4_trace_158
      · refine lv_iload_n E.1.1 E.1.2.1 dX4_trace_74 rfl (lv_at hl 0 rfl) ?_
        refine lv_bipush (v := nI 64) E.1.1 E.1.2.1 dX4_trace_75 rfl ?_
        refine k_ge (tgt := 157) E dX4_trace_77 (by decide) (by omega) (by omega) (fun c77 => ?_) (fun c77 => ?_)
        · refine lv_iconst (v := nI 1) E.1.1 E.1.2.1 dX4_trace_157 rfl ?_
          refine k_top E (b2i true) rfl ?_
          exact k_mzret E hQ hlk hr hw (Nat.le_of_ble_eq_true rfl) (Nat.le_of_ble_eq_true rfl) (⟨rfl, hF, nf, B, G, h_tr, h_rows, h_goes, Or.inl ⟨rfl, hnf, by rw [show nf = i by omega] at hT ⊢; exact hT⟩⟩) dX4_trace_158
        · refine lv_iconst (v := nI 0) E.1.1 E.1.2.1 dX4_trace_80 rfl ?_
          refine lv_istore (lv' := [(4, .int (nI 0)), (3, .int (nI i)), (0, .ref tr), (1, .ref d), (2, .int (nI base))]) E.1.1 E.1.2.1 dX4_trace_81 hl (by decide) rfl (fun ls hl => ?_)
          have lp83 : ∀ (k : Nat) (dg : Nat) (nf : Nat) (B : Nat → Nat → Bool) (G : Nat → Int32) (f : Nat → va_E) (H : Heap) (locs : List Loc) (ls : Array Slot), (base - dg < k) → (dg ≤ base) → (i < nf) → (nf ≤ 64) → (TI S base t per (i * base + dg) nf B G) → (cel L f tr (.inr (4, [.ref ro, .ref go, .int (nI base), .int (nI t), .int (nI per), .int (nI nf)]))) → (cel L f ro (.inl (cy 1, 195, .inr (.inl (rw3 B))))) → (cel L f go (.inl (cy 0, 320, .inl G))) → (cel L f d (.inr (0, [.ref r0, .int (nI t), .int (nI per)]))) → (cel L f r0 (.inl (cy 1, 59, .inr (.inl (wd b))))) → (∀ b ∈ L, b ≠ tr → b ≠ ro → b ≠ go → f b = f0 b) → (WW D (AW L sz) s.heap L f H locs) → (lv_has ls 6 [(4, .int (nI dg)), (3, .int (nI i)), (0, .ref tr), (1, .ref d), (2, .int (nI base))]) → W p l e R s m args below meth c H locs 0 0 Q (F0 m 83 ls []) := by
            intro k
            induction k with
            | zero => intro _ _ _ _ _ _ _ _ hk; exact absurd hk (Nat.not_lt_zero _)
            | succ k ih83 =>
              intro dg nf B G f H locs ls hk hdg hi2 hnf hT2 h_tr h_rows h_goes h_d h_row hF hw hl
              refine lv_iload E.1.1 E.1.2.1 dX4_trace_83 (lv_at hl 0 rfl) ?_
              refine lv_aload_n E.1.1 E.1.2.1 dX4_trace_85 rfl (lv_at hl 2 rfl) ?_
              refine k_get (v := .int (nI base)) E inlX4 rfl 2 (by decide) w1_55 rfl hw h_tr rfl dX4_trace_86 ?_
              refine k_ge (tgt := 151) E dX4_trace_89 (by decide) (by omega) (by omega) (fun c89 => ?_) (fun c89 => ?_)
              · refine lv_iinc (v := nI (i + 1)) (lv' := [(3, .int (nI (i + 1))), (4, .int (nI dg)), (0, .ref tr), (1, .ref d), (2, .int (nI base))]) E.1.1 E.1.2.1 dX4_trace_151 hl (k := 1) rfl (nI_1 _) (by decide) rfl (fun ls hl => ?_)
                refine lv_goto (tgt := 66) E.1.1 E.1.2.1 dX4_trace_154 (by decide) ?_
                exact ih66  (i + 1) nf B G f H locs ls (by omega) (by omega) (by omega) (by rw [Nat.succ_mul, show base = dg by omega]; rw [show dg = base by omega] at hT2 ⊢; exact hT2) h_tr h_rows h_goes h_d h_row hF hw (lv_sub hl [0, 2, 3, 4] rfl)
              · refine lv_aload_n E.1.1 E.1.2.1 dX4_trace_92 rfl (lv_at hl 2 rfl) ?_
                refine lv_iload_n E.1.1 E.1.2.1 dX4_trace_93 rfl (lv_at hl 1 rfl) ?_
                refine lv_iload E.1.1 E.1.2.1 dX4_trace_94 (lv_at hl 0 rfl) ?_
                refine k_mv hw (va_runV (As := [.int (nI i), .int (nI dg)]) (rest := []) E.1 (c_writeRest l D cy L f H.size tr ro go base t per nf i dg B (by omega) (by omega) (by omega) (by omega) (by omega) hper (by omega) h_tr h_rows) ⟨callB_of 2 E.1.2.2.2.2 (gd_own w1_152) rfl rfl rfl (E.1.2.2.2.2 _ w1_3) (E.1.2.2.2.2 _ w1_149) hd_X4_writeRest (by rw [hR]; exact ⟨Nat.le_of_ble_eq_true rfl, Nat.le_of_ble_eq_true rfl⟩), E.1.2.2.2.2 _ w1_151, E.1.2.2.2.2 _ ws_6⟩ (pw_preV (q := (RX4, TX4, 6)) E.2 hw h_tr rfl) rfl rfl hl.1 rfl (lv_room (Nat.le_of_ble_eq_true rfl)) dX4_trace_96 (by rw [hR]; exact ⟨Nat.le_of_ble_eq_true rfl, Nat.le_of_ble_eq_true rfl⟩)) (fun L1 f H locs hp hw => ?_)
                obtain ⟨hL1, hfr, h_rows⟩ := hp
                have hL1 : L = L1 := hL1
                subst hL1
                have h_rows : cel L f ro (.inl (cy 1, 195, .inr (.inl (rw3 (va_up B nf (rb (fun u => B i (fold t per (base * u + dg))) (t + per))))))) := h_rows
                have h_tr := h_tr.keep (fun _ h => h) (hfr _ h_tr.1 n_tr_rows)
                have h_goes := h_goes.keep (fun _ h => h) (hfr _ h_goes.1 n_goes_rows)
                have h_d := h_d.keep (fun _ h => h) (hfr _ h_d.1 n_d_rows)
                have h_row := h_row.keep (fun _ h => h) (hfr _ h_row.1 n_row_rows)
                have hF : ∀ b ∈ L, b ≠ tr → b ≠ ro → b ≠ go → f b = f0 b := fun b hb h0 h1 h2 => (hfr b (hLs b hb) h1).trans (hF b hb h0 h1 h2)
                refine lv_aload_n E.1.1 E.1.2.1 dX4_trace_99 rfl (lv_at hl 2 rfl) ?_
                refine k_rip (va_runV (As := []) (rest := []) E.1 (c_metAs l D cy L f H.size tr ro go base t per nf (va_up B nf (rb (fun u => B i (fold t per (base * u + dg))) (t + per))) (by omega) h_tr h_rows) ⟨callB_of 0 E.1.2.2.2.2 (gd_own w1_159) rfl rfl rfl (E.1.2.2.2.2 _ w1_3) (E.1.2.2.2.2 _ w1_156) hd_X4_metAs (by rw [hR]; exact ⟨Nat.le_of_ble_eq_true rfl, Nat.le_of_ble_eq_true rfl⟩), E.1.2.2.2.2 _ w1_158, E.1.2.2.2.2 _ ws_7⟩ (pw_preV (q := (RX4, TX4, 6)) E.2 hw h_tr rfl) rfl rfl hl.1 rfl (lv_room (Nat.le_of_ble_eq_true rfl)) dX4_trace_100 ⟨Nat.zero_le _, Nat.zero_le _⟩) (fun r hp => ?_)
                obtain ⟨j, rfl, hj1, hj2, hj3⟩ := hp
                refine lv_istore (lv' := [(5, .int (nI j)), (4, .int (nI dg)), (3, .int (nI i)), (0, .ref tr), (1, .ref d), (2, .int (nI base))]) E.1.1 E.1.2.1 dX4_trace_103 hl (by decide) rfl (fun ls hl => ?_)
                refine lv_iload E.1.1 E.1.2.1 dX4_trace_105 (lv_at hl 0 rfl) ?_
                refine lv_bipush (v := nI 64) E.1.1 E.1.2.1 dX4_trace_107 rfl ?_
                refine k_ne (tgt := 114) E dX4_trace_109 (by decide) (by omega) (by omega) (fun c109 => ?_) (fun c109 => ?_)
                · refine lv_aload_n E.1.1 E.1.2.1 dX4_trace_114 rfl (lv_at hl 3 rfl) ?_
                  refine k_get (v := .ref go) E inlX4 rfl 1 (by decide) w1_54 rfl hw h_tr rfl dX4_trace_115 ?_
                  refine lv_iload_n E.1.1 E.1.2.1 dX4_trace_118 rfl (lv_at hl 2 rfl) ?_
                  refine lv_aload_n E.1.1 E.1.2.1 dX4_trace_119 rfl (lv_at hl 3 rfl) ?_
                  refine k_get (v := .int (nI base)) E inlX4 rfl 2 (by decide) w1_55 rfl hw h_tr rfl dX4_trace_120 ?_
                  refine k_mul E dX4_trace_123 ?_
                  refine lv_iload E.1.1 E.1.2.1 dX4_trace_124 (lv_at hl 1 rfl) ?_
                  refine k_add E dX4_trace_126 ?_
                  refine lv_iload E.1.1 E.1.2.1 dX4_trace_127 (lv_at hl 0 rfl) ?_
                  have hix := ix3 (base := base) (d := dg) (show i < 64 by omega) (by omega)
                  have hix2 : 64 * base ≤ 320 := by omega
                  refine k_iast E hw (fun x => if x = i * base + dg then nI j else G x) h_goes (by omega) (by omega) (fun x hx => rfl) dX4_trace_129 (fun f H locs h_goes hfr hw => ?_)
                  have h_tr := h_tr.kp hfr n_tr_goes
                  have h_rows := h_rows.kp hfr n_rows_goes
                  have h_d := h_d.kp hfr n_d_goes
                  have h_row := h_row.kp hfr n_row_goes
                  have hF : ∀ b ∈ L, b ≠ tr → b ≠ ro → b ≠ go → f b = f0 b := fun b hb h0 h1 h2 => (hfr b h2).trans (hF b hb h0 h1 h2)
                  refine lv_aload_n E.1.1 E.1.2.1 dX4_trace_130 rfl (lv_at hl 3 rfl) ?_
                  refine lv_aload_n E.1.1 E.1.2.1 dX4_trace_131 rfl (lv_at hl 3 rfl) ?_
                  refine k_get (v := .int (nI nf)) E inlX4 rfl 5 (by decide) w1_58 rfl hw h_tr rfl dX4_trace_132 ?_
                  refine lv_iload E.1.1 E.1.2.1 dX4_trace_135 (lv_at hl 0 rfl) ?_
                  refine lv_iconst (v := nI 1) E.1.1 E.1.2.1 dX4_trace_137 rfl ?_
                  refine k_add E dX4_trace_138 ?_
                  refine va_mmax E.1.1 E.1.2.1 (by rw [E.1.2.2.1]; exact hl.1.symm) E.1.2.2.2.1 (E.1.2.2.2.2 _ w1_164) (E.1.2.2.2.2 _ w1_99) (E.1.2.2.2.2 _ w1_5) (E.1.2.2.2.2 _ w1_100) (by rw [hR]; exact Nat.le_of_ble_eq_true rfl) (by rw [hR]; exact Nat.le_of_ble_eq_true rfl) (by rw [hR]; exact Nat.le_of_ble_eq_true rfl) (by rw [hR]; first | exact Nat.le_of_ble_eq_true rfl | (dsimp only; omega)) dX4_trace_139 ?_
                  refine k_top E (nI (max nf (j + 1))) (mxn (by omega) (by omega)) ?_
                  refine k_put (ty0 := tyX4) E inlX4 rfl tyX4_ok nmX4 5 (by decide) w1_58 rfl rfl hw [.ref ro, .ref go, .int (nI base), .int (nI t), .int (nI per), .int (nI (max nf (j + 1)))] h_tr (rfl) (rfl) (Nat.le_of_ble_eq_true rfl) rfl dX4_trace_142 (fun f H locs h_tr hfr hw => ?_)
                  have h_rows := h_rows.kp hfr n_rows_tr
                  have h_goes := h_goes.kp hfr n_goes_tr
                  have h_d := h_d.kp hfr n_d_tr
                  have h_row := h_row.kp hfr n_row_tr
                  have hF : ∀ b ∈ L, b ≠ tr → b ≠ ro → b ≠ go → f b = f0 b := fun b hb h0 h1 h2 => (hfr b h0).trans (hF b hb h0 h1 h2)
                  refine lv_iinc (v := nI (dg + 1)) (lv' := [(4, .int (nI (dg + 1))), (5, .int (nI j)), (3, .int (nI i)), (0, .ref tr), (1, .ref d), (2, .int (nI base))]) E.1.1 E.1.2.1 dX4_trace_145 hl (k := 1) rfl (nI_1 _) (by decide) rfl (fun ls hl => ?_)
                  refine lv_goto (tgt := 83) E.1.1 E.1.2.1 dX4_trace_148 (by decide) ?_
                  exact ih83  (dg + 1) (max nf (j + 1)) (va_up B nf (rb (fun u => B i (fold t per (base * u + dg))) (t + per))) (fun x => if x = i * base + dg then nI j else G x) f H locs ls (by omega) (by omega) (by omega) (by omega) (TI_step hper (by omega) hbase hT2 (ix1 (by omega)) (ix2 (by omega)) hi2 (by omega) hj1 hj2 hj3 (fun _ _ => rfl) (ix3 hi2 (by omega))) h_tr h_rows h_goes h_d h_row hF hw (lv_sub hl [0, 2, 3, 4, 5] rfl)
                · refine lv_iconst (v := nI 0) E.1.1 E.1.2.1 dX4_trace_112 rfl ?_
                  refine k_top E (b2i false) rfl ?_
                  exact k_mzret E hQ hlk hr hw (Nat.le_of_ble_eq_true rfl) (Nat.le_of_ble_eq_true rfl) (⟨rfl, hF, nf, _, G, h_tr, h_rows, h_goes, Or.inr ⟨rfl, _, (TI_big hper (by omega) hbase hT2 (ix1 (by omega)) (ix2 (by omega)) hi2 (by omega) hj1 hj2 hj3 (ix3 hi2 (by omega)) c109).1, by rw [(TI_big hper (by omega) hbase hT2 (ix1 (by omega)) (ix2 (by omega)) hi2 (by omega) hj1 hj2 hj3 (ix3 hi2 (by omega)) c109).2]; decide⟩⟩) dX4_trace_113
          exact lp83 (base - 0 + 1) 0 nf B G f H locs ls (Nat.lt_succ_self _) (by omega) (by omega) (by omega) (by rw [Nat.add_zero]; exact hT) h_tr h_rows h_goes h_d h_row hF hw (lv_sub hl [0, 1, 2, 3, 4] rfl)
  exact lp66 (65 - 0 + 1) 0 1 (va_up B0 0 b) G0 f H locs ls (Nat.lt_succ_self _) (by omega) (by omega) (by rw [Nat.zero_mul]; exact TI_0 (by rw [va_up_self]; exact hS.row)) h_tr h_rows h_goes h_d h_row hF hw (lv_sub hl [0, 1, 2, 3] rfl)
