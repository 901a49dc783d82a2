set_option maxHeartbeats 4000000 in
set_option maxRecDepth 100000 in
theorem p_turn (l : Launch) (D : va_G) (cy : Nat → ClassId) (L : List Nat) (f0 : Nat → va_E) (sz : Nat) (M : List Nat) (A : Nat → Nat) (base : Nat) (SS : Nat → Nat → Bool) (kp : Nat → Bool) (kb : Nat → Nat) (KS : Nat → Nat → Nat → Bool) (hA : AdOK L M A) (hN : NmW cy L f0 M A base SS kp kb KS) (to fr : Int32) : Met l yX5_turn (.code yX5_turn cX5_turn 3 (Option.some FieldType.int) :: wsL_law) { frames := 6, cells := 4, slots := 331, locals := 128 } (va_Pc [.ref (A 0), .int to, .int fr] (PW D cy L f0 sz)) (va_Qi (fun (r : Int32) (u : List Nat × (Nat → va_E)) => (∀ b ∈ L, b ∈ u.1) ∧ (∀ b ∈ L, (∀ i, i < 12 → b ≠ A i) → u.2 b = f0 b) ∧ ∃ SS2, NmW cy u.1 u.2 M A base SS2 kp kb KS ∧ sp_un base SS SS2 to fr true xTurn r) (PB D (AW L sz)) (AW L sz)) 4 331 (AW L sz) := by
  refine m_start (by decide) (Nat.le_of_ble_eq_true rfl) ?_
  intro p e R Q s m args below meth c ls hsz hR hQ E hr hlk hnm hw hl
  have hl : lv_has ls 3 [(0, .ref (A 0)), (1, .int to), (2, .int fr)] := hl
  obtain ⟨H, hH⟩ : ∃ X, X = s.heap := ⟨_, rfl⟩
  obtain ⟨locs, hlocs⟩ : ∃ X : List Loc, X = [] := ⟨_, rfl⟩
  have hw0 := hw
  obtain ⟨hB, h_nm, ⟨sa, h_sl, hSl⟩, ⟨i1, i2, j1, j2, j3, j4, g, B0, G0, h_d, h_row, h_tr, h_rows, h_goes⟩, hRm⟩ := hN
  have hb2 := hB.two
  obtain ⟨f, hf0⟩ : ∃ X, X = f0 := ⟨_, rfl⟩
  rw [← hf0] at h_nm h_sl h_d h_row h_tr h_rows h_goes
  have hw : WW D (AW L sz) s.heap L f H locs := by rw [hH, hlocs, hf0]; exact hw
  have hF : ∀ b ∈ L, b ≠ (A 1) → b ≠ (A 3) → b ≠ (A 4) → b ≠ (A 5) → b ≠ (A 6) → b ≠ (A 7) → f b = f0 b := fun b hb h0 h1 h2 h3 h4 h5 => by rw [hf0]
  suffices hgo : W p l e R s m args below meth c H locs 0 0 Q (F0 m 0 ls []) by rw [hH, hlocs] at hgo; exact hgo
  clear hH hlocs hw0 hf0
  have hLs : ∀ b ∈ L, b ∈ L := fun _ h => h
  have n_nm_sl : A 0 ≠ A 1 := h_nm.ne h_sl (by simp)
  have n_nm_d : A 0 ≠ A 3 := h_nm.ne h_d (by simp)
  have n_nm_row : A 0 ≠ A 4 := h_nm.ne h_row (by simp)
  have n_nm_tr : A 0 ≠ A 5 := h_nm.ne h_tr (by simp)
  have n_nm_rows : A 0 ≠ A 6 := h_nm.ne h_rows (by simp)
  have n_nm_goes : A 0 ≠ A 7 := h_nm.ne h_goes (by simp)
  have n_sl_d : A 1 ≠ A 3 := h_sl.ne h_d (by simp)
  have n_sl_row : A 1 ≠ A 4 := h_sl.ne h_row (by simp)
  have n_sl_tr : A 1 ≠ A 5 := h_sl.ne h_tr (by simp)
  have n_sl_rows : A 1 ≠ A 6 := h_sl.ne h_rows (by simp)
  have n_sl_goes : A 1 ≠ A 7 := h_sl.ne h_goes (by simp)
  have n_d_sl : A 3 ≠ A 1 := h_d.ne h_sl (by simp)
  have n_d_row : A 3 ≠ A 4 := h_d.ne h_row (by simp)
  have n_d_tr : A 3 ≠ A 5 := h_d.ne h_tr (by simp)
  have n_d_rows : A 3 ≠ A 6 := h_d.ne h_rows (by simp)
  have n_d_goes : A 3 ≠ A 7 := h_d.ne h_goes (by simp)
  have n_row_sl : A 4 ≠ A 1 := h_row.ne h_sl (by simp)
  have n_row_d : A 4 ≠ A 3 := h_row.ne h_d (by simp)
  have n_row_tr : A 4 ≠ A 5 := h_row.ne h_tr (by simp)
  have n_row_rows : A 4 ≠ A 6 := h_row.ne h_rows (by simp)
  have n_row_goes : A 4 ≠ A 7 := h_row.ne h_goes (by simp)
  have n_tr_sl : A 5 ≠ A 1 := h_tr.ne h_sl (by simp)
  have n_tr_d : A 5 ≠ A 3 := h_tr.ne h_d (by simp)
  have n_tr_row : A 5 ≠ A 4 := h_tr.ne h_row (by simp)
  have n_tr_rows : A 5 ≠ A 6 := h_tr.ne h_rows (by simp)
  have n_tr_goes : A 5 ≠ A 7 := h_tr.ne h_goes (by simp)
  have n_rows_sl : A 6 ≠ A 1 := h_rows.ne h_sl (by simp)
  have n_rows_d : A 6 ≠ A 3 := h_rows.ne h_d (by simp)
  have n_rows_row : A 6 ≠ A 4 := h_rows.ne h_row (by simp)
  have n_rows_tr : A 6 ≠ A 5 := h_rows.ne h_tr (by simp)
  have n_rows_goes : A 6 ≠ A 7 := h_rows.ne h_goes (by simp)
  have n_goes_sl : A 7 ≠ A 1 := h_goes.ne h_sl (by simp)
  have n_goes_d : A 7 ≠ A 3 := h_goes.ne h_d (by simp)
  have n_goes_row : A 7 ≠ A 4 := h_goes.ne h_row (by simp)
  have n_goes_tr : A 7 ≠ A 5 := h_goes.ne h_tr (by simp)
  have n_goes_rows : A 7 ≠ A 6 := h_goes.ne h_rows (by simp)
  refine lv_aload_n E.1.1 E.1.2.1 dX5_turn_0 rfl (lv_at hl 0 rfl) ?_
  refine lv_iload_n E.1.1 E.1.2.1 dX5_turn_1 rfl (lv_at hl 1 rfl) ?_
  refine k_ri (va_runV (As := [.int to]) (rest := []) E.1 (c_unknown l D cy L f H.size (A 0) (A 1) (A 2) (A 3) (A 5) base sa to h_nm h_sl) ⟨callB_of 1 E.1.2.2.2.2 (gd_own w2_18) rfl rfl rfl (E.1.2.2.2.2 _ w1_1) (E.1.2.2.2.2 _ w2_15) hd_X5_unknown (by rw [hR]; exact ⟨Nat.le_of_ble_eq_true rfl, Nat.le_of_ble_eq_true rfl⟩), E.1.2.2.2.2 _ w2_17, E.1.2.2.2.2 _ ws_9⟩ (pw_preV (q := (RX5, TX5, 5)) E.2 hw h_nm rfl) rfl rfl hl.1 rfl (lv_room (Nat.le_of_ble_eq_true rfl)) dX5_turn_2 ⟨Nat.zero_le _, Nat.zero_le _⟩) ?_
  refine k_if1 (tgt := 16) E dX5_turn_5 (by decide) (fun c5 => ?_) (fun c5 => ?_)
  · refine lv_iconst (v := -1) E.1.1 E.1.2.1 dX5_turn_16 rfl ?_
    exact k_miret E hQ hlk hr hw (Nat.le_of_ble_eq_true rfl) (Nat.le_of_ble_eq_true rfl) (⟨hLs, fun b hb h => hF b hb (h 1 (by decide)) (h 3 (by decide)) (h 4 (by decide)) (h 5 (by decide)) (h 6 (by decide)) (h 7 (by decide)), SS, fin_keep hA hB hSl hRm hLs hF h_nm ⟨_, _, _, _, _, _, _, _, _, h_d, h_row, h_tr, h_rows, h_goes⟩ h_sl, sp_un_1 (Or.inl (nb c5))⟩) dX5_turn_17
  · obtain ⟨j, hj, rfl⟩ := inS_ex c5
    refine lv_aload_n E.1.1 E.1.2.1 dX5_turn_8 rfl (lv_at hl 0 rfl) ?_
    refine lv_iload_n E.1.1 E.1.2.1 dX5_turn_9 rfl (lv_at hl 2 rfl) ?_
    refine k_ri (va_runV (As := [.int fr]) (rest := []) E.1 (c_unknown l D cy L f H.size (A 0) (A 1) (A 2) (A 3) (A 5) base sa fr h_nm h_sl) ⟨callB_of 1 E.1.2.2.2.2 (gd_own w2_18) rfl rfl rfl (E.1.2.2.2.2 _ w1_1) (E.1.2.2.2.2 _ w2_15) hd_X5_unknown (by rw [hR]; exact ⟨Nat.le_of_ble_eq_true rfl, Nat.le_of_ble_eq_true rfl⟩), E.1.2.2.2.2 _ w2_17, E.1.2.2.2.2 _ ws_9⟩ (pw_preV (q := (RX5, TX5, 5)) E.2 hw h_nm rfl) rfl rfl hl.1 rfl (lv_room (Nat.le_of_ble_eq_true rfl)) dX5_turn_10 ⟨Nat.zero_le _, Nat.zero_le _⟩) ?_
    refine k_if0 (tgt := 18) E dX5_turn_13 (by decide) (fun c13 => ?_) (fun c13 => ?_)
    · obtain ⟨x1, hx1, rfl⟩ := inS_ex c13
      obtain ⟨t, per, b, n, hS, hMc, rw, mc, gs, m1, m2, m3, m4, h_a, h_rw, h_mc, h_gs⟩ := hSl x1 (by omega)
      have ht := hS.2.2.1
      have hper := hS.1.1
      have hperx := hS.2.1
      have hden : den t per b = SS x1 := funext (fun n => (hS.den n).symm)
      have h_a := h_a.keep hLs (hF _ h_a.1 (hA.out m1 (by decide)) (hA.out m1 (by decide)) (hA.out m1 (by decide)) (hA.out m1 (by decide)) (hA.out m1 (by decide)) (hA.out m1 (by decide)))
      have n_a_sl : sa x1 ≠ A 1 := hA.out m1 (by decide)
      have n_a_d : sa x1 ≠ A 3 := hA.out m1 (by decide)
      have n_a_row : sa x1 ≠ A 4 := hA.out m1 (by decide)
      have n_a_tr : sa x1 ≠ A 5 := hA.out m1 (by decide)
      have n_a_rows : sa x1 ≠ A 6 := hA.out m1 (by decide)
      have n_a_goes : sa x1 ≠ A 7 := hA.out m1 (by decide)
      have h_rw := h_rw.keep hLs (hF _ h_rw.1 (hA.out m2 (by decide)) (hA.out m2 (by decide)) (hA.out m2 (by decide)) (hA.out m2 (by decide)) (hA.out m2 (by decide)) (hA.out m2 (by decide)))
      have n_rw_sl : rw ≠ A 1 := hA.out m2 (by decide)
      have n_rw_d : rw ≠ A 3 := hA.out m2 (by decide)
      have n_rw_row : rw ≠ A 4 := hA.out m2 (by decide)
      have n_rw_tr : rw ≠ A 5 := hA.out m2 (by decide)
      have n_rw_rows : rw ≠ A 6 := hA.out m2 (by decide)
      have n_rw_goes : rw ≠ A 7 := hA.out m2 (by decide)
      refine lv_aload_n E.1.1 E.1.2.1 dX5_turn_18 rfl (lv_at hl 0 rfl) ?_
      refine lv_aload_n E.1.1 E.1.2.1 dX5_turn_19 rfl (lv_at hl 0 rfl) ?_
      refine k_get (v := .ref (A 1)) E inlX5 rfl 0 (by decide) w1_231 rfl hw h_nm rfl dX5_turn_20 ?_
      refine lv_iload_n E.1.1 E.1.2.1 dX5_turn_23 rfl (lv_at hl 2 rfl) ?_
      refine k_aald E hw 4 (r := sa x1) h_sl rfl (by omega) (by omega) (rfl) dX5_turn_24 ?_
      refine k_mv hw (va_runV (As := [.ref (sa x1)]) (rest := []) E.1 (c_draftTurn l D cy L f H.size (A 0) (A 1) (A 2) (A 3) (A 5) base (A 4) i1 i2 g (sa x1) rw mc t per b ht hper hperx h_nm h_d h_row h_a h_rw) ⟨callB_of 1 E.1.2.2.2.2 (gd_own w2_69) rfl rfl rfl (E.1.2.2.2.2 _ w1_1) (E.1.2.2.2.2 _ w2_66) hd_X5_draftTurn (by rw [hR]; exact ⟨Nat.le_of_ble_eq_true rfl, Nat.le_of_ble_eq_true rfl⟩), E.1.2.2.2.2 _ w2_68, E.1.2.2.2.2 _ ws_13⟩ (pw_preV (q := (RX5, TX5, 5)) E.2 hw h_nm rfl) rfl rfl hl.1 rfl (lv_room (Nat.le_of_ble_eq_true rfl)) dX5_turn_25 (by rw [hR]; exact ⟨Nat.le_of_ble_eq_true rfl, Nat.le_of_ble_eq_true rfl⟩)) (fun L1 f H locs hp hw => ?_)
      obtain ⟨hL1, hfr, h_d, h_row⟩ := hp
      have hL1 : L = L1 := hL1
      subst hL1
      have h_d : cel L f (A 3) (.inr (0, [.ref (A 4), .int (nI (t)), .int (nI (per))])) := h_d
      have h_row : cel L f (A 4) (.inl (cy 1, 59, .inr (.inl (wd (rb (fun n => !den t per b n) (t + per)))))) := h_row
      have h_nm := h_nm.keep (fun _ h => h) (hfr _ h_nm.1 n_nm_d n_nm_row)
      have h_sl := h_sl.keep (fun _ h => h) (hfr _ h_sl.1 n_sl_d n_sl_row)
      have h_tr := h_tr.keep (fun _ h => h) (hfr _ h_tr.1 n_tr_d n_tr_row)
      have h_rows := h_rows.keep (fun _ h => h) (hfr _ h_rows.1 n_rows_d n_rows_row)
      have h_goes := h_goes.keep (fun _ h => h) (hfr _ h_goes.1 n_goes_d n_goes_row)
      have h_a := h_a.keep (fun _ h => h) (hfr _ h_a.1 n_a_d n_a_row)
      have h_rw := h_rw.keep (fun _ h => h) (hfr _ h_rw.1 n_rw_d n_rw_row)
      have hF : ∀ b ∈ L, b ≠ (A 1) → b ≠ (A 3) → b ≠ (A 4) → b ≠ (A 5) → b ≠ (A 6) → b ≠ (A 7) → f b = f0 b := fun b hb h0 h1 h2 h3 h4 h5 => (hfr b (hLs b hb) h1 h2).trans (hF b hb h0 h1 h2 h3 h4 h5)
      refine lv_aload_n E.1.1 E.1.2.1 dX5_turn_28 rfl (lv_at hl 0 rfl) ?_
      refine lv_iload_n E.1.1 E.1.2.1 dX5_turn_29 rfl (lv_at hl 1 rfl) ?_
      refine k_mi hw (va_runV (As := [.int (nI j)]) (rest := []) E.1 (c_hold l D cy L f H.size (A 0) (A 1) (A 2) (A 3) (A 4) (A 5) (A 6) (A 7) base (t) (per) j M j1 j2 j3 j4 (rb (fun n => !den t per b n) (t + per)) B0 G0 sa (by omega) (by omega) (by omega) (by omega) hA.2.2 (by omega) (hA.1 1 (by decide)) h_nm h_sl h_d h_row h_tr h_rows h_goes) ⟨callB_of 1 E.1.2.2.2.2 (gd_own w2_36) rfl rfl rfl (E.1.2.2.2.2 _ w1_1) (E.1.2.2.2.2 _ w2_33) hd_X5_hold (by rw [hR]; exact ⟨Nat.le_of_ble_eq_true rfl, Nat.le_of_ble_eq_true rfl⟩), E.1.2.2.2.2 _ w2_35, E.1.2.2.2.2 _ ws_11⟩ (pw_preV (q := (RX5, TX5, 5)) E.2 hw h_nm rfl) rfl rfl hl.1 rfl (lv_room (Nat.le_of_ble_eq_true rfl)) dX5_turn_30 (by rw [hR]; exact ⟨Nat.le_of_ble_eq_true rfl, Nat.le_of_ble_eq_true rfl⟩)) (fun r L77 f H locs hp hw => ?_)
      refine W.cs (cells' := 4) (slots' := 331) rfl rfl ?_
      obtain ⟨hLn, hfr, hScr, hcase⟩ := hp
      dsimp only at hLn hfr hScr hcase
      have h_nm := h_nm.keep hLn (hfr _ h_nm.1 n_nm_sl n_nm_d n_nm_row n_nm_tr n_nm_rows n_nm_goes)
      have hF : ∀ b ∈ L, b ≠ (A 1) → b ≠ (A 3) → b ≠ (A 4) → b ≠ (A 5) → b ≠ (A 6) → b ≠ (A 7) → f b = f0 b := fun b hb h0 h1 h2 h3 h4 h5 => (hfr b (hLs b hb) h0 h1 h2 h3 h4 h5).trans (hF b hb h0 h1 h2 h3 h4 h5)
      have hLs : ∀ b ∈ L, b ∈ L77 := fun b hb => hLn b (hLs b hb)
      exact k_miret E hQ hlk hr hw (Nat.le_of_ble_eq_true rfl) (Nat.le_of_ble_eq_true rfl) (⟨hLs, fun b hb h => hF b hb (h 1 (by decide)) (h 3 (by decide)) (h 4 (by decide)) (h 5 (by decide)) (h 6 (by decide)) (h 7 (by decide)), by
      obtain ⟨SS2, hW2, hH⟩ := fin_hold (X := xTurn (SS x1)) (by rw [den_rb (by omega) (not_ev (den_ev b hper))]; rw [hden]; rfl) hA hB hSl hRm hLs hF h_nm hScr hcase
      exact ⟨SS2, hW2, sp_un_ok hj hx1 rfl hH⟩⟩) dX5_turn_33
    · refine lv_iconst (v := -1) E.1.1 E.1.2.1 dX5_turn_16 rfl ?_
      exact k_miret E hQ hlk hr hw (Nat.le_of_ble_eq_true rfl) (Nat.le_of_ble_eq_true rfl) (⟨hLs, fun b hb h => hF b hb (h 1 (by decide)) (h 3 (by decide)) (h 4 (by decide)) (h 5 (by decide)) (h 6 (by decide)) (h 7 (by decide)), SS, fin_keep hA hB hSl hRm hLs hF h_nm ⟨_, _, _, _, _, _, _, _, _, h_d, h_row, h_tr, h_rows, h_goes⟩ h_sl, sp_un_1 (Or.inr (nb c13))⟩) dX5_turn_17

set_option maxHeartbeats 4000000 in
set_option maxRecDepth 100000 in
theorem p_join (l : Launch) (D : va_G) (cy : Nat → ClassId) (L : List Nat) (f0 : Nat → va_E) (sz : Nat) (M : List Nat) (A : Nat → Nat) (base : Nat) (SS : Nat → Nat → Bool) (kp : Nat → Bool) (kb : Nat → Nat) (KS : Nat → Nat → Nat → Bool) (hA : AdOK L M A) (hN : NmW cy L f0 M A base SS kp kb KS) (to one other way : Int32) : Met l yX5_join (.code yX5_join cX5_join 5 (Option.some FieldType.int) :: wsL_law) { frames := 6, cells := 4, slots := 331, locals := 128 } (va_Pc [.ref (A 0), .int to, .int one, .int other, .int way] (PW D cy L f0 sz)) (va_Qi (fun (r : Int32) (u : List Nat × (Nat → va_E)) => (∀ b ∈ L, b ∈ u.1) ∧ (∀ b ∈ L, (∀ i, i < 12 → b ≠ A i) → u.2 b = f0 b) ∧ ∃ SS2, NmW cy u.1 u.2 M A base SS2 kp kb KS ∧ sp_join base SS SS2 to one other way r) (PB D (AW L sz)) (AW L sz)) 4 331 (AW L sz) := by
  refine m_start (by decide) (Nat.le_of_ble_eq_true rfl) ?_
  intro p e R Q s m args below meth c ls hsz hR hQ E hr hlk hnm hw hl
  have hl : lv_has ls 5 [(0, .ref (A 0)), (1, .int to), (2, .int one), (3, .int other), (4, .int way)] := hl
  obtain ⟨H, hH⟩ : ∃ X, X = s.heap := ⟨_, rfl⟩
  obtain ⟨locs, hlocs⟩ : ∃ X : List Loc, X = [] := ⟨_, rfl⟩
  have hw0 := hw
  obtain ⟨hB, h_nm, ⟨sa, h_sl, hSl⟩, ⟨i1, i2, j1, j2, j3, j4, g, B0, G0, h_d, h_row, h_tr, h_rows, h_goes⟩, hRm⟩ := hN
  have hb2 := hB.two
  obtain ⟨f, hf0⟩ : ∃ X, X = f0 := ⟨_, rfl⟩
  rw [← hf0] at h_nm h_sl h_d h_row h_tr h_rows h_goes
  have hw : WW D (AW L sz) s.heap L f H locs := by rw [hH, hlocs, hf0]; exact hw
  have hF : ∀ b ∈ L, b ≠ (A 1) → b ≠ (A 3) → b ≠ (A 4) → b ≠ (A 5) → b ≠ (A 6) → b ≠ (A 7) → f b = f0 b := fun b hb h0 h1 h2 h3 h4 h5 => by rw [hf0]
  suffices hgo : W p l e R s m args below meth c H locs 0 0 Q (F0 m 0 ls []) by rw [hH, hlocs] at hgo; exact hgo
  clear hH hlocs hw0 hf0
  have hLs : ∀ b ∈ L, b ∈ L := fun _ h => h
  have n_nm_sl : A 0 ≠ A 1 := h_nm.ne h_sl (by simp)
  have n_nm_d : A 0 ≠ A 3 := h_nm.ne h_d (by simp)
  have n_nm_row : A 0 ≠ A 4 := h_nm.ne h_row (by simp)
  have n_nm_tr : A 0 ≠ A 5 := h_nm.ne h_tr (by simp)
  have n_nm_rows : A 0 ≠ A 6 := h_nm.ne h_rows (by simp)
  have n_nm_goes : A 0 ≠ A 7 := h_nm.ne h_goes (by simp)
  have n_sl_d : A 1 ≠ A 3 := h_sl.ne h_d (by simp)
  have n_sl_row : A 1 ≠ A 4 := h_sl.ne h_row (by simp)
  have n_sl_tr : A 1 ≠ A 5 := h_sl.ne h_tr (by simp)
  have n_sl_rows : A 1 ≠ A 6 := h_sl.ne h_rows (by simp)
  have n_sl_goes : A 1 ≠ A 7 := h_sl.ne h_goes (by simp)
  have n_d_sl : A 3 ≠ A 1 := h_d.ne h_sl (by simp)
  have n_d_row : A 3 ≠ A 4 := h_d.ne h_row (by simp)
  have n_d_tr : A 3 ≠ A 5 := h_d.ne h_tr (by simp)
  have n_d_rows : A 3 ≠ A 6 := h_d.ne h_rows (by simp)
  have n_d_goes : A 3 ≠ A 7 := h_d.ne h_goes (by simp)
  have n_row_sl : A 4 ≠ A 1 := h_row.ne h_sl (by simp)
  have n_row_d : A 4 ≠ A 3 := h_row.ne h_d (by simp)
  have n_row_tr : A 4 ≠ A 5 := h_row.ne h_tr (by simp)
  have n_row_rows : A 4 ≠ A 6 := h_row.ne h_rows (by simp)
  have n_row_goes : A 4 ≠ A 7 := h_row.ne h_goes (by simp)
  have n_tr_sl : A 5 ≠ A 1 := h_tr.ne h_sl (by simp)
  have n_tr_d : A 5 ≠ A 3 := h_tr.ne h_d (by simp)
  have n_tr_row : A 5 ≠ A 4 := h_tr.ne h_row (by simp)
  have n_tr_rows : A 5 ≠ A 6 := h_tr.ne h_rows (by simp)
  have n_tr_goes : A 5 ≠ A 7 := h_tr.ne h_goes (by simp)
  have n_rows_sl : A 6 ≠ A 1 := h_rows.ne h_sl (by simp)
  have n_rows_d : A 6 ≠ A 3 := h_rows.ne h_d (by simp)
  have n_rows_row : A 6 ≠ A 4 := h_rows.ne h_row (by simp)
  have n_rows_tr : A 6 ≠ A 5 := h_rows.ne h_tr (by simp)
  have n_rows_goes : A 6 ≠ A 7 := h_rows.ne h_goes (by simp)
  have n_goes_sl : A 7 ≠ A 1 := h_goes.ne h_sl (by simp)
  have n_goes_d : A 7 ≠ A 3 := h_goes.ne h_d (by simp)
  have n_goes_row : A 7 ≠ A 4 := h_goes.ne h_row (by simp)
  have n_goes_tr : A 7 ≠ A 5 := h_goes.ne h_tr (by simp)
  have n_goes_rows : A 7 ≠ A 6 := h_goes.ne h_rows (by simp)
  refine lv_aload_n E.1.1 E.1.2.1 dX5_join_0 rfl (lv_at hl 0 rfl) ?_
  refine lv_iload_n E.1.1 E.1.2.1 dX5_join_1 rfl (lv_at hl 1 rfl) ?_
  refine k_ri (va_runV (As := [.int to]) (rest := []) E.1 (c_unknown l D cy L f H.size (A 0) (A 1) (A 2) (A 3) (A 5) base sa to h_nm h_sl) ⟨callB_of 1 E.1.2.2.2.2 (gd_own w2_18) rfl rfl rfl (E.1.2.2.2.2 _ w1_1) (E.1.2.2.2.2 _ w2_15) hd_X5_unknown (by rw [hR]; exact ⟨Nat.le_of_ble_eq_true rfl, Nat.le_of_ble_eq_true rfl⟩), E.1.2.2.2.2 _ w2_17, E.1.2.2.2.2 _ ws_9⟩ (pw_preV (q := (RX5, TX5, 5)) E.2 hw h_nm rfl) rfl rfl hl.1 rfl (lv_room (Nat.le_of_ble_eq_true rfl)) dX5_join_2 ⟨Nat.zero_le _, Nat.zero_le _⟩) ?_
  refine k_if1 (tgt := 24) E dX5_join_5 (by decide) (fun c5 => ?_) (fun c5 => ?_)
  · refine lv_iconst (v := -1) E.1.1 E.1.2.1 dX5_join_24 rfl ?_
    exact k_miret E hQ hlk hr hw (Nat.le_of_ble_eq_true rfl) (Nat.le_of_ble_eq_true rfl) (⟨hLs, fun b hb h => hF b hb (h 1 (by decide)) (h 3 (by decide)) (h 4 (by decide)) (h 5 (by decide)) (h 6 (by decide)) (h 7 (by decide)), SS, fin_keep hA hB hSl hRm hLs hF h_nm ⟨_, _, _, _, _, _, _, _, _, h_d, h_row, h_tr, h_rows, h_goes⟩ h_sl, sp_join_1 (Or.inl (nb c5))⟩) dX5_join_25
  · obtain ⟨j, hj, rfl⟩ := inS_ex c5
    refine lv_aload_n E.1.1 E.1.2.1 dX5_join_8 rfl (lv_at hl 0 rfl) ?_
    refine lv_iload_n E.1.1 E.1.2.1 dX5_join_9 rfl (lv_at hl 2 rfl) ?_
    refine k_ri (va_runV (As := [.int one]) (rest := []) E.1 (c_unknown l D cy L f H.size (A 0) (A 1) (A 2) (A 3) (A 5) base sa one h_nm h_sl) ⟨callB_of 1 E.1.2.2.2.2 (gd_own w2_18) rfl rfl rfl (E.1.2.2.2.2 _ w1_1) (E.1.2.2.2.2 _ w2_15) hd_X5_unknown (by rw [hR]; exact ⟨Nat.le_of_ble_eq_true rfl, Nat.le_of_ble_eq_true rfl⟩), E.1.2.2.2.2 _ w2_17, E.1.2.2.2.2 _ ws_9⟩ (pw_preV (q := (RX5, TX5, 5)) E.2 hw h_nm rfl) rfl rfl hl.1 rfl (lv_room (Nat.le_of_ble_eq_true rfl)) dX5_join_10 ⟨Nat.zero_le _, Nat.zero_le _⟩) ?_
    refine k_if1 (tgt := 24) E dX5_join_13 (by decide) (fun c13 => ?_) (fun c13 => ?_)
    · refine lv_iconst (v := -1) E.1.1 E.1.2.1 dX5_join_24 rfl ?_
      exact k_miret E hQ hlk hr hw (Nat.le_of_ble_eq_true rfl) (Nat.le_of_ble_eq_true rfl) (⟨hLs, fun b hb h => hF b hb (h 1 (by decide)) (h 3 (by decide)) (h 4 (by decide)) (h 5 (by decide)) (h 6 (by decide)) (h 7 (by decide)), SS, fin_keep hA hB hSl hRm hLs hF h_nm ⟨_, _, _, _, _, _, _, _, _, h_d, h_row, h_tr, h_rows, h_goes⟩ h_sl, sp_join_1 (Or.inr (Or.inl (nb c13)))⟩) dX5_join_25
    · obtain ⟨x1, hx1, rfl⟩ := inS_ex c13
      refine lv_aload_n E.1.1 E.1.2.1 dX5_join_16 rfl (lv_at hl 0 rfl) ?_
      refine lv_iload_n E.1.1 E.1.2.1 dX5_join_17 rfl (lv_at hl 3 rfl) ?_
      refine k_ri (va_runV (As := [.int other]) (rest := []) E.1 (c_unknown l D cy L f H.size (A 0) (A 1) (A 2) (A 3) (A 5) base sa other h_nm h_sl) ⟨callB_of 1 E.1.2.2.2.2 (gd_own w2_18) rfl rfl rfl (E.1.2.2.2.2 _ w1_1) (E.1.2.2.2.2 _ w2_15) hd_X5_unknown (by rw [hR]; exact ⟨Nat.le_of_ble_eq_true rfl, Nat.le_of_ble_eq_true rfl⟩), E.1.2.2.2.2 _ w2_17, E.1.2.2.2.2 _ ws_9⟩ (pw_preV (q := (RX5, TX5, 5)) E.2 hw h_nm rfl) rfl rfl hl.1 rfl (lv_room (Nat.le_of_ble_eq_true rfl)) dX5_join_18 ⟨Nat.zero_le _, Nat.zero_le _⟩) ?_
      refine k_if0 (tgt := 26) E dX5_join_21 (by decide) (fun c21 => ?_) (fun c21 => ?_)
      · obtain ⟨x2, hx2, rfl⟩ := inS_ex c21
        refine lv_iload E.1.1 E.1.2.1 dX5_join_26 (lv_at hl 4 rfl) ?_
        refine lv_iconst (v := nI 0) E.1.1 E.1.2.1 dX5_join_28 rfl ?_
        refine lv_iconst (v := nI 3) E.1.1 E.1.2.1 dX5_join_29 rfl ?_
        refine k_ri (va_runS (As := [.int way, .int (nI 0), .int (nI 3)]) (rest := []) E.1 (c_within l D cy L f H.size way (nI 0) (nI 3)) ⟨callB_of 3 E.1.2.2.2.2 (gd_own w2_21) rfl rfl rfl (E.1.2.2.2.2 _ w1_1) (E.1.2.2.2.2 _ w2_19) hd_X5_within (by rw [hR]; exact ⟨Nat.le_of_ble_eq_true rfl, Nat.le_of_ble_eq_true rfl⟩), E.1.2.2.2.2 _ w2_20⟩ (pw_pre E.2 hw) rfl rfl hl.1 rfl (lv_room (Nat.le_of_ble_eq_true rfl)) dX5_join_30 ⟨Nat.zero_le _, Nat.zero_le _⟩) ?_
        refine k_if1 (tgt := 39) E dX5_join_33 (by decide) (fun c33 => ?_) (fun c33 => ?_)
        · obtain ⟨wy, hwy, rfl⟩ := in_ex (by decide) c33
          obtain ⟨t, per, b, n, hS, hMc, rw, mc, gs, m1, m2, m3, m4, h_a, h_rw, h_mc, h_gs⟩ := hSl x1 (by omega)
          have ht := hS.2.2.1
          have hper := hS.1.1
          have hperx := hS.2.1
          have hden : den t per b = SS x1 := funext (fun n => (hS.den n).symm)
          have h_a := h_a.keep hLs (hF _ h_a.1 (hA.out m1 (by decide)) (hA.out m1 (by decide)) (hA.out m1 (by decide)) (hA.out m1 (by decide)) (hA.out m1 (by decide)) (hA.out m1 (by decide)))
          have n_a_sl : sa x1 ≠ A 1 := hA.out m1 (by decide)
          have n_a_d : sa x1 ≠ A 3 := hA.out m1 (by decide)
          have n_a_row : sa x1 ≠ A 4 := hA.out m1 (by decide)
          have n_a_tr : sa x1 ≠ A 5 := hA.out m1 (by decide)
          have n_a_rows : sa x1 ≠ A 6 := hA.out m1 (by decide)
          have n_a_goes : sa x1 ≠ A 7 := hA.out m1 (by decide)
          have h_rw := h_rw.keep hLs (hF _ h_rw.1 (hA.out m2 (by decide)) (hA.out m2 (by decide)) (hA.out m2 (by decide)) (hA.out m2 (by decide)) (hA.out m2 (by decide)) (hA.out m2 (by decide)))
          have n_rw_sl : rw ≠ A 1 := hA.out m2 (by decide)
          have n_rw_d : rw ≠ A 3 := hA.out m2 (by decide)
          have n_rw_row : rw ≠ A 4 := hA.out m2 (by decide)
          have n_rw_tr : rw ≠ A 5 := hA.out m2 (by decide)
          have n_rw_rows : rw ≠ A 6 := hA.out m2 (by decide)
          have n_rw_goes : rw ≠ A 7 := hA.out m2 (by decide)
          obtain ⟨t2, per2, b2, n2, hS2, hMc2, rw2, mc2, gs2, m12, m22, m32, m42, h_a2, h_rw2, h_mc2, h_gs2⟩ := hSl x2 (by omega)
          have ht2 := hS2.2.2.1
          have hper2 := hS2.1.1
          have hper2x := hS2.2.1
          have hden2 : den t2 per2 b2 = SS x2 := funext (fun n => (hS2.den n).symm)
          have h_a2 := h_a2.keep hLs (hF _ h_a2.1 (hA.out m12 (by decide)) (hA.out m12 (by decide)) (hA.out m12 (by decide)) (hA.out m12 (by decide)) (hA.out m12 (by decide)) (hA.out m12 (by decide)))
          have n_a2_sl : sa x2 ≠ A 1 := hA.out m12 (by decide)
          have n_a2_d : sa x2 ≠ A 3 := hA.out m12 (by decide)
          have n_a2_row : sa x2 ≠ A 4 := hA.out m12 (by decide)
          have n_a2_tr : sa x2 ≠ A 5 := hA.out m12 (by decide)
          have n_a2_rows : sa x2 ≠ A 6 := hA.out m12 (by decide)
          have n_a2_goes : sa x2 ≠ A 7 := hA.out m12 (by decide)
          have h_rw2 := h_rw2.keep hLs (hF _ h_rw2.1 (hA.out m22 (by decide)) (hA.out m22 (by decide)) (hA.out m22 (by decide)) (hA.out m22 (by decide)) (hA.out m22 (by decide)) (hA.out m22 (by decide)))
          have n_rw2_sl : rw2 ≠ A 1 := hA.out m22 (by decide)
          have n_rw2_d : rw2 ≠ A 3 := hA.out m22 (by decide)
          have n_rw2_row : rw2 ≠ A 4 := hA.out m22 (by decide)
          have n_rw2_tr : rw2 ≠ A 5 := hA.out m22 (by decide)
          have n_rw2_rows : rw2 ≠ A 6 := hA.out m22 (by decide)
          have n_rw2_goes : rw2 ≠ A 7 := hA.out m22 (by decide)
          refine lv_aload_n E.1.1 E.1.2.1 dX5_join_39 rfl (lv_at hl 0 rfl) ?_
          refine lv_aload_n E.1.1 E.1.2.1 dX5_join_40 rfl (lv_at hl 0 rfl) ?_
          refine k_get (v := .ref (A 1)) E inlX5 rfl 0 (by decide) w1_231 rfl hw h_nm rfl dX5_join_41 ?_
          refine lv_iload_n E.1.1 E.1.2.1 dX5_join_44 rfl (lv_at hl 2 rfl) ?_
          refine k_aald E hw 4 (r := sa x1) h_sl rfl (by omega) (by omega) (rfl) dX5_join_45 ?_
          refine lv_aload_n E.1.1 E.1.2.1 dX5_join_46 rfl (lv_at hl 0 rfl) ?_
          refine k_get (v := .ref (A 1)) E inlX5 rfl 0 (by decide) w1_231 rfl hw h_nm rfl dX5_join_47 ?_
          refine lv_iload_n E.1.1 E.1.2.1 dX5_join_50 rfl (lv_at hl 3 rfl) ?_
          refine k_aald E hw 4 (r := sa x2) h_sl rfl (by omega) (by omega) (rfl) dX5_join_51 ?_
          refine lv_iload E.1.1 E.1.2.1 dX5_join_52 (lv_at hl 4 rfl) ?_
          refine k_mv hw (va_runV (As := [.ref (sa x1), .ref (sa x2), .int (nI wy)]) (rest := []) E.1 (c_draftJoin l D cy L f H.size (A 0) (A 1) (A 2) (A 3) (A 5) base (A 4) i1 i2 g (sa x1) rw mc t per (sa x2) rw2 mc2 t2 per2 wy b b2 ht hper hperx ht2 hper2 hper2x (by omega) h_nm h_d h_row h_a h_rw h_a2 h_rw2) ⟨callB_of 3 E.1.2.2.2.2 (gd_own w2_44) rfl rfl rfl (E.1.2.2.2.2 _ w1_1) (E.1.2.2.2.2 _ w2_41) hd_X5_draftJoin (by rw [hR]; exact ⟨Nat.le_of_ble_eq_true rfl, Nat.le_of_ble_eq_true rfl⟩), E.1.2.2.2.2 _ w2_43, E.1.2.2.2.2 _ ws_12⟩ (pw_preV (q := (RX5, TX5, 5)) E.2 hw h_nm rfl) rfl rfl hl.1 rfl (lv_room (Nat.le_of_ble_eq_true rfl)) dX5_join_54 (by rw [hR]; exact ⟨Nat.le_of_ble_eq_true rfl, Nat.le_of_ble_eq_true rfl⟩)) (fun L1 f H locs hp hw => ?_)
          obtain ⟨hL1, hfr, z, h_d, h_row, hz0, hz1, hz2, hz3⟩ := hp
          have hL1 : L = L1 := hL1
          subst hL1
          have h_d : cel L f (A 3) (.inr (0, [.ref (A 4), .int (nI (max t t2)), .int (nI (z))])) := h_d
          have h_row : cel L f (A 4) (.inl (cy 1, 59, .inr (.inl (wd (rb (fun n => jw wy (den t per b n) (den t2 per2 b2 n)) (max t t2 + z)))))) := h_row
          have h_nm := h_nm.keep (fun _ h => h) (hfr _ h_nm.1 n_nm_d n_nm_row)
          have h_sl := h_sl.keep (fun _ h => h) (hfr _ h_sl.1 n_sl_d n_sl_row)
          have h_tr := h_tr.keep (fun _ h => h) (hfr _ h_tr.1 n_tr_d n_tr_row)
          have h_rows := h_rows.keep (fun _ h => h) (hfr _ h_rows.1 n_rows_d n_rows_row)
          have h_goes := h_goes.keep (fun _ h => h) (hfr _ h_goes.1 n_goes_d n_goes_row)
          have h_a := h_a.keep (fun _ h => h) (hfr _ h_a.1 n_a_d n_a_row)
          have h_rw := h_rw.keep (fun _ h => h) (hfr _ h_rw.1 n_rw_d n_rw_row)
          have h_a2 := h_a2.keep (fun _ h => h) (hfr _ h_a2.1 n_a2_d n_a2_row)
          have h_rw2 := h_rw2.keep (fun _ h => h) (hfr _ h_rw2.1 n_rw2_d n_rw2_row)
          have hF : ∀ b ∈ L, b ≠ (A 1) → b ≠ (A 3) → b ≠ (A 4) → b ≠ (A 5) → b ≠ (A 6) → b ≠ (A 7) → f b = f0 b := fun b hb h0 h1 h2 h3 h4 h5 => (hfr b (hLs b hb) h1 h2).trans (hF b hb h0 h1 h2 h3 h4 h5)
          refine lv_aload_n E.1.1 E.1.2.1 dX5_join_57 rfl (lv_at hl 0 rfl) ?_
          refine lv_iload_n E.1.1 E.1.2.1 dX5_join_58 rfl (lv_at hl 1 rfl) ?_
          refine k_mi hw (va_runV (As := [.int (nI j)]) (rest := []) E.1 (c_hold l D cy L f H.size (A 0) (A 1) (A 2) (A 3) (A 4) (A 5) (A 6) (A 7) base (max t t2) (z) j M j1 j2 j3 j4 (rb (fun n => jw wy (den t per b n) (den t2 per2 b2 n)) (max t t2 + z)) B0 G0 sa (by omega) (by omega) (by omega) (by omega) hA.2.2 (by omega) (hA.1 1 (by decide)) h_nm h_sl h_d h_row h_tr h_rows h_goes) ⟨callB_of 1 E.1.2.2.2.2 (gd_own w2_36) rfl rfl rfl (E.1.2.2.2.2 _ w1_1) (E.1.2.2.2.2 _ w2_33) hd_X5_hold (by rw [hR]; exact ⟨Nat.le_of_ble_eq_true rfl, Nat.le_of_ble_eq_true rfl⟩), E.1.2.2.2.2 _ w2_35, E.1.2.2.2.2 _ ws_11⟩ (pw_preV (q := (RX5, TX5, 5)) E.2 hw h_nm rfl) rfl rfl hl.1 rfl (lv_room (Nat.le_of_ble_eq_true rfl)) dX5_join_59 (by rw [hR]; exact ⟨Nat.le_of_ble_eq_true rfl, Nat.le_of_ble_eq_true rfl⟩)) (fun r L77 f H locs hp hw => ?_)
          refine W.cs (cells' := 4) (slots' := 331) rfl rfl ?_
          obtain ⟨hLn, hfr, hScr, hcase⟩ := hp
          dsimp only at hLn hfr hScr hcase
          have h_nm := h_nm.keep hLn (hfr _ h_nm.1 n_nm_sl n_nm_d n_nm_row n_nm_tr n_nm_rows n_nm_goes)
          have hF : ∀ b ∈ L, b ≠ (A 1) → b ≠ (A 3) → b ≠ (A 4) → b ≠ (A 5) → b ≠ (A 6) → b ≠ (A 7) → f b = f0 b := fun b hb h0 h1 h2 h3 h4 h5 => (hfr b (hLs b hb) h0 h1 h2 h3 h4 h5).trans (hF b hb h0 h1 h2 h3 h4 h5)
          have hLs : ∀ b ∈ L, b ∈ L77 := fun b hb => hLn b (hLs b hb)
          exact k_miret E hQ hlk hr hw (Nat.le_of_ble_eq_true rfl) (Nat.le_of_ble_eq_true rfl) (⟨hLs, fun b hb h => hF b hb (h 1 (by decide)) (h 3 (by decide)) (h 4 (by decide)) (h 5 (by decide)) (h 6 (by decide)) (h 7 (by decide)), by
      obtain ⟨SS2, hW2, hH⟩ := fin_hold (X := fun n => jw wy (SS x1 n) (SS x2 n)) (by rw [den_rb (by omega) (jw_ev wy (den_ev b hper) (den_ev b2 hper2) hz2 hz3)]; rw [hden, hden2]) hA hB hSl hRm hLs hF h_nm hScr hcase
      exact ⟨SS2, hW2, sp_join_ok hj hx1 hx2 hwy hH⟩⟩) dX5_join_62
        · refine lv_bipush (v := -2) E.1.1 E.1.2.1 dX5_join_36 rfl ?_
          exact k_miret E hQ hlk hr hw (Nat.le_of_ble_eq_true rfl) (Nat.le_of_ble_eq_true rfl) (⟨hLs, fun b hb h => hF b hb (h 1 (by decide)) (h 3 (by decide)) (h 4 (by decide)) (h 5 (by decide)) (h 6 (by decide)) (h 7 (by decide)), SS, fin_keep hA hB hSl hRm hLs hF h_nm ⟨_, _, _, _, _, _, _, _, _, h_d, h_row, h_tr, h_rows, h_goes⟩ h_sl, sp_join_2 hj hx1 hx2 c33⟩) dX5_join_38
      · refine lv_iconst (v := -1) E.1.1 E.1.2.1 dX5_join_24 rfl ?_
        exact k_miret E hQ hlk hr hw (Nat.le_of_ble_eq_true rfl) (Nat.le_of_ble_eq_true rfl) (⟨hLs, fun b hb h => hF b hb (h 1 (by decide)) (h 3 (by decide)) (h 4 (by decide)) (h 5 (by decide)) (h 6 (by decide)) (h 7 (by decide)), SS, fin_keep hA hB hSl hRm hLs hF h_nm ⟨_, _, _, _, _, _, _, _, _, h_d, h_row, h_tr, h_rows, h_goes⟩ h_sl, sp_join_1 (Or.inr (Or.inr (nb c21)))⟩) dX5_join_25

set_option maxHeartbeats 4000000 in
set_option maxRecDepth 100000 in
theorem p_shiftU (l : Launch) (D : va_G) (cy : Nat → ClassId) (L : List Nat) (f0 : Nat → va_E) (sz : Nat) (M : List Nat) (A : Nat → Nat) (base : Nat) (SS : Nat → Nat → Bool) (kp : Nat → Bool) (kb : Nat → Nat) (KS : Nat → Nat → Nat → Bool) (hA : AdOK L M A) (hN : NmW cy L f0 M A base SS kp kb KS) (to fr : Int32) (w : Nat) (hw1 : w ≤ 100) (hin : i32in (nI w) (-100) (nI 100) = true) : Met l yX5_shift (.code yX5_shift cX5_shift 4 (Option.some FieldType.int) :: wsL_law) { frames := 6, cells := 4, slots := 331, locals := 128 } (va_Pc [.ref (A 0), .int to, .int fr, .int (nI w)] (PW D cy L f0 sz)) (va_Qi (fun (r : Int32) (u : List Nat × (Nat → va_E)) => (∀ b ∈ L, b ∈ u.1) ∧ (∀ b ∈ L, (∀ i, i < 12 → b ≠ A i) → u.2 b = f0 b) ∧ ∃ SS2, NmW cy u.1 u.2 M A base SS2 kp kb KS ∧ sp_un base SS SS2 to fr true (xShift (nI w)) r) (PB D (AW L sz)) (AW L sz)) 4 331 (AW L sz) := by
  refine m_start (by decide) (Nat.le_of_ble_eq_true rfl) ?_
  intro p e R Q s m args below meth c ls hsz hR hQ E hr hlk hnm hw hl
  have hl : lv_has ls 4 [(0, .ref (A 0)), (1, .int to), (2, .int fr), (3, .int (nI w))] := hl
  obtain ⟨H, hH⟩ : ∃ X, X = s.heap := ⟨_, rfl⟩
  obtain ⟨locs, hlocs⟩ : ∃ X : List Loc, X = [] := ⟨_, rfl⟩
  have hw0 := hw
  obtain ⟨hB, h_nm, ⟨sa, h_sl, hSl⟩, ⟨i1, i2, j1, j2, j3, j4, g, B0, G0, h_d, h_row, h_tr, h_rows, h_goes⟩, hRm⟩ := hN
  have hb2 := hB.two
  obtain ⟨f, hf0⟩ : ∃ X, X = f0 := ⟨_, rfl⟩
  rw [← hf0] at h_nm h_sl h_d h_row h_tr h_rows h_goes
  have hw : WW D (AW L sz) s.heap L f H locs := by rw [hH, hlocs, hf0]; exact hw
  have hF : ∀ b ∈ L, b ≠ (A 1) → b ≠ (A 3) → b ≠ (A 4) → b ≠ (A 5) → b ≠ (A 6) → b ≠ (A 7) → f b = f0 b := fun b hb h0 h1 h2 h3 h4 h5 => by rw [hf0]
  suffices hgo : W p l e R s m args below meth c H locs 0 0 Q (F0 m 0 ls []) by rw [hH, hlocs] at hgo; exact hgo
  clear hH hlocs hw0 hf0
  have hLs : ∀ b ∈ L, b ∈ L := fun _ h => h
  have n_nm_sl : A 0 ≠ A 1 := h_nm.ne h_sl (by simp)
  have n_nm_d : A 0 ≠ A 3 := h_nm.ne h_d (by simp)
  have n_nm_row : A 0 ≠ A 4 := h_nm.ne h_row (by simp)
  have n_nm_tr : A 0 ≠ A 5 := h_nm.ne h_tr (by simp)
  have n_nm_rows : A 0 ≠ A 6 := h_nm.ne h_rows (by simp)
  have n_nm_goes : A 0 ≠ A 7 := h_nm.ne h_goes (by simp)
  have n_sl_d : A 1 ≠ A 3 := h_sl.ne h_d (by simp)
  have n_sl_row : A 1 ≠ A 4 := h_sl.ne h_row (by simp)
  have n_sl_tr : A 1 ≠ A 5 := h_sl.ne h_tr (by simp)
  have n_sl_rows : A 1 ≠ A 6 := h_sl.ne h_rows (by simp)
  have n_sl_goes : A 1 ≠ A 7 := h_sl.ne h_goes (by simp)
  have n_d_sl : A 3 ≠ A 1 := h_d.ne h_sl (by simp)
  have n_d_row : A 3 ≠ A 4 := h_d.ne h_row (by simp)
  have n_d_tr : A 3 ≠ A 5 := h_d.ne h_tr (by simp)
  have n_d_rows : A 3 ≠ A 6 := h_d.ne h_rows (by simp)
  have n_d_goes : A 3 ≠ A 7 := h_d.ne h_goes (by simp)
  have n_row_sl : A 4 ≠ A 1 := h_row.ne h_sl (by simp)
  have n_row_d : A 4 ≠ A 3 := h_row.ne h_d (by simp)
  have n_row_tr : A 4 ≠ A 5 := h_row.ne h_tr (by simp)
  have n_row_rows : A 4 ≠ A 6 := h_row.ne h_rows (by simp)
  have n_row_goes : A 4 ≠ A 7 := h_row.ne h_goes (by simp)
  have n_tr_sl : A 5 ≠ A 1 := h_tr.ne h_sl (by simp)
  have n_tr_d : A 5 ≠ A 3 := h_tr.ne h_d (by simp)
  have n_tr_row : A 5 ≠ A 4 := h_tr.ne h_row (by simp)
  have n_tr_rows : A 5 ≠ A 6 := h_tr.ne h_rows (by simp)
  have n_tr_goes : A 5 ≠ A 7 := h_tr.ne h_goes (by simp)
  have n_rows_sl : A 6 ≠ A 1 := h_rows.ne h_sl (by simp)
  have n_rows_d : A 6 ≠ A 3 := h_rows.ne h_d (by simp)
  have n_rows_row : A 6 ≠ A 4 := h_rows.ne h_row (by simp)
  have n_rows_tr : A 6 ≠ A 5 := h_rows.ne h_tr (by simp)
  have n_rows_goes : A 6 ≠ A 7 := h_rows.ne h_goes (by simp)
  have n_goes_sl : A 7 ≠ A 1 := h_goes.ne h_sl (by simp)
  have n_goes_d : A 7 ≠ A 3 := h_goes.ne h_d (by simp)
  have n_goes_row : A 7 ≠ A 4 := h_goes.ne h_row (by simp)
  have n_goes_tr : A 7 ≠ A 5 := h_goes.ne h_tr (by simp)
  have n_goes_rows : A 7 ≠ A 6 := h_goes.ne h_rows (by simp)
  refine lv_aload_n E.1.1 E.1.2.1 dX5_shift_0 rfl (lv_at hl 0 rfl) ?_
  refine lv_iload_n E.1.1 E.1.2.1 dX5_shift_1 rfl (lv_at hl 1 rfl) ?_
  refine k_ri (va_runV (As := [.int to]) (rest := []) E.1 (c_unknown l D cy L f H.size (A 0) (A 1) (A 2) (A 3) (A 5) base sa to h_nm h_sl) ⟨callB_of 1 E.1.2.2.2.2 (gd_own w2_18) rfl rfl rfl (E.1.2.2.2.2 _ w1_1) (E.1.2.2.2.2 _ w2_15) hd_X5_unknown (by rw [hR]; exact ⟨Nat.le_of_ble_eq_true rfl, Nat.le_of_ble_eq_true rfl⟩), E.1.2.2.2.2 _ w2_17, E.1.2.2.2.2 _ ws_9⟩ (pw_preV (q := (RX5, TX5, 5)) E.2 hw h_nm rfl) rfl rfl hl.1 rfl (lv_room (Nat.le_of_ble_eq_true rfl)) dX5_shift_2 ⟨Nat.zero_le _, Nat.zero_le _⟩) ?_
  refine k_if1 (tgt := 16) E dX5_shift_5 (by decide) (fun c5 => ?_) (fun c5 => ?_)
  · refine lv_iconst (v := -1) E.1.1 E.1.2.1 dX5_shift_16 rfl ?_
    exact k_miret E hQ hlk hr hw (Nat.le_of_ble_eq_true rfl) (Nat.le_of_ble_eq_true rfl) (⟨hLs, fun b hb h => hF b hb (h 1 (by decide)) (h 3 (by decide)) (h 4 (by decide)) (h 5 (by decide)) (h 6 (by decide)) (h 7 (by decide)), SS, fin_keep hA hB hSl hRm hLs hF h_nm ⟨_, _, _, _, _, _, _, _, _, h_d, h_row, h_tr, h_rows, h_goes⟩ h_sl, sp_un_1 (Or.inl (nb c5))⟩) dX5_shift_17
  · obtain ⟨j, hj, rfl⟩ := inS_ex c5
    refine lv_aload_n E.1.1 E.1.2.1 dX5_shift_8 rfl (lv_at hl 0 rfl) ?_
    refine lv_iload_n E.1.1 E.1.2.1 dX5_shift_9 rfl (lv_at hl 2 rfl) ?_
    refine k_ri (va_runV (As := [.int fr]) (rest := []) E.1 (c_unknown l D cy L f H.size (A 0) (A 1) (A 2) (A 3) (A 5) base sa fr h_nm h_sl) ⟨callB_of 1 E.1.2.2.2.2 (gd_own w2_18) rfl rfl rfl (E.1.2.2.2.2 _ w1_1) (E.1.2.2.2.2 _ w2_15) hd_X5_unknown (by rw [hR]; exact ⟨Nat.le_of_ble_eq_true rfl, Nat.le_of_ble_eq_true rfl⟩), E.1.2.2.2.2 _ w2_17, E.1.2.2.2.2 _ ws_9⟩ (pw_preV (q := (RX5, TX5, 5)) E.2 hw h_nm rfl) rfl rfl hl.1 rfl (lv_room (Nat.le_of_ble_eq_true rfl)) dX5_shift_10 ⟨Nat.zero_le _, Nat.zero_le _⟩) ?_
    refine k_if0 (tgt := 18) E dX5_shift_13 (by decide) (fun c13 => ?_) (fun c13 => ?_)
    · obtain ⟨x1, hx1, rfl⟩ := inS_ex c13
      refine lv_iload_n E.1.1 E.1.2.1 dX5_shift_18 rfl (lv_at hl 3 rfl) ?_
      refine lv_bipush (v := -100) E.1.1 E.1.2.1 dX5_shift_19 rfl ?_
      refine lv_bipush (v := nI 100) E.1.1 E.1.2.1 dX5_shift_21 rfl ?_
      refine k_ri (va_runS (As := [.int (nI w), .int (-100), .int (nI 100)]) (rest := []) E.1 (c_within l D cy L f H.size (nI w) (-100) (nI 100)) ⟨callB_of 3 E.1.2.2.2.2 (gd_own w2_21) rfl rfl rfl (E.1.2.2.2.2 _ w1_1) (E.1.2.2.2.2 _ w2_19) hd_X5_within (by rw [hR]; exact ⟨Nat.le_of_ble_eq_true rfl, Nat.le_of_ble_eq_true rfl⟩), E.1.2.2.2.2 _ w2_20⟩ (pw_pre E.2 hw) rfl rfl hl.1 rfl (lv_room (Nat.le_of_ble_eq_true rfl)) dX5_shift_23 ⟨Nat.zero_le _, Nat.zero_le _⟩) ?_
      refine k_if1 (tgt := 32) E dX5_shift_26 (by decide) (fun c26 => ?_) (fun c26 => absurd hin (by rw [show i32in (nI w) (-100) (nI 100) = false from c26]; decide))
      obtain ⟨t, per, b, n, hS, hMc, rw, mc, gs, m1, m2, m3, m4, h_a, h_rw, h_mc, h_gs⟩ := hSl x1 (by omega)
      have ht := hS.2.2.1
      have hper := hS.1.1
      have hperx := hS.2.1
      have hden : den t per b = SS x1 := funext (fun n => (hS.den n).symm)
      have h_a := h_a.keep hLs (hF _ h_a.1 (hA.out m1 (by decide)) (hA.out m1 (by decide)) (hA.out m1 (by decide)) (hA.out m1 (by decide)) (hA.out m1 (by decide)) (hA.out m1 (by decide)))
      have n_a_sl : sa x1 ≠ A 1 := hA.out m1 (by decide)
      have n_a_d : sa x1 ≠ A 3 := hA.out m1 (by decide)
      have n_a_row : sa x1 ≠ A 4 := hA.out m1 (by decide)
      have n_a_tr : sa x1 ≠ A 5 := hA.out m1 (by decide)
      have n_a_rows : sa x1 ≠ A 6 := hA.out m1 (by decide)
      have n_a_goes : sa x1 ≠ A 7 := hA.out m1 (by decide)
      have h_rw := h_rw.keep hLs (hF _ h_rw.1 (hA.out m2 (by decide)) (hA.out m2 (by decide)) (hA.out m2 (by decide)) (hA.out m2 (by decide)) (hA.out m2 (by decide)) (hA.out m2 (by decide)))
      have n_rw_sl : rw ≠ A 1 := hA.out m2 (by decide)
      have n_rw_d : rw ≠ A 3 := hA.out m2 (by decide)
      have n_rw_row : rw ≠ A 4 := hA.out m2 (by decide)
      have n_rw_tr : rw ≠ A 5 := hA.out m2 (by decide)
      have n_rw_rows : rw ≠ A 6 := hA.out m2 (by decide)
      have n_rw_goes : rw ≠ A 7 := hA.out m2 (by decide)
      refine lv_aload_n E.1.1 E.1.2.1 dX5_shift_32 rfl (lv_at hl 0 rfl) ?_
      refine lv_aload_n E.1.1 E.1.2.1 dX5_shift_33 rfl (lv_at hl 0 rfl) ?_
      refine k_get (v := .ref (A 1)) E inlX5 rfl 0 (by decide) w1_231 rfl hw h_nm rfl dX5_shift_34 ?_
      refine lv_iload_n E.1.1 E.1.2.1 dX5_shift_37 rfl (lv_at hl 2 rfl) ?_
      refine k_aald E hw 4 (r := sa x1) h_sl rfl (by omega) (by omega) (rfl) dX5_shift_38 ?_
      refine lv_iload_n E.1.1 E.1.2.1 dX5_shift_39 rfl (lv_at hl 3 rfl) ?_
      refine k_mv hw (va_runV (As := [.ref (sa x1), .int (nI w)]) (rest := []) E.1 (c_draftShiftU l D cy L f H.size (A 0) (A 1) (A 2) (A 3) (A 5) base (A 4) i1 i2 g (sa x1) rw mc t per w b ht hper hperx (by omega) h_nm h_d h_row h_a h_rw) ⟨callB_of 2 E.1.2.2.2.2 (gd_own w2_77) rfl rfl rfl (E.1.2.2.2.2 _ w1_1) (E.1.2.2.2.2 _ w2_74) hd_X5_draftShift (by rw [hR]; exact ⟨Nat.le_of_ble_eq_true rfl, Nat.le_of_ble_eq_true rfl⟩), E.1.2.2.2.2 _ w2_76, E.1.2.2.2.2 _ ws_14⟩ (pw_preV (q := (RX5, TX5, 5)) E.2 hw h_nm rfl) rfl rfl hl.1 rfl (lv_room (Nat.le_of_ble_eq_true rfl)) dX5_shift_40 (by rw [hR]; exact ⟨Nat.le_of_ble_eq_true rfl, Nat.le_of_ble_eq_true rfl⟩)) (fun L1 f H locs hp hw => ?_)
      obtain ⟨hL1, hfr, h_d, h_row⟩ := hp
      have hL1 : L = L1 := hL1
      subst hL1
      have h_d : cel L f (A 3) (.inr (0, [.ref (A 4), .int (nI (t + w)), .int (nI (per))])) := h_d
      have h_row : cel L f (A 4) (.inl (cy 1, 59, .inr (.inl (wd (rb (shU (den t per b) w) (t + w + per)))))) := h_row
      have h_nm := h_nm.keep (fun _ h => h) (hfr _ h_nm.1 n_nm_d n_nm_row)
      have h_sl := h_sl.keep (fun _ h => h) (hfr _ h_sl.1 n_sl_d n_sl_row)
      have h_tr := h_tr.keep (fun _ h => h) (hfr _ h_tr.1 n_tr_d n_tr_row)
      have h_rows := h_rows.keep (fun _ h => h) (hfr _ h_rows.1 n_rows_d n_rows_row)
      have h_goes := h_goes.keep (fun _ h => h) (hfr _ h_goes.1 n_goes_d n_goes_row)
      have h_a := h_a.keep (fun _ h => h) (hfr _ h_a.1 n_a_d n_a_row)
      have h_rw := h_rw.keep (fun _ h => h) (hfr _ h_rw.1 n_rw_d n_rw_row)
      have hF : ∀ b ∈ L, b ≠ (A 1) → b ≠ (A 3) → b ≠ (A 4) → b ≠ (A 5) → b ≠ (A 6) → b ≠ (A 7) → f b = f0 b := fun b hb h0 h1 h2 h3 h4 h5 => (hfr b (hLs b hb) h1 h2).trans (hF b hb h0 h1 h2 h3 h4 h5)
      refine lv_aload_n E.1.1 E.1.2.1 dX5_shift_43 rfl (lv_at hl 0 rfl) ?_
      refine lv_iload_n E.1.1 E.1.2.1 dX5_shift_44 rfl (lv_at hl 1 rfl) ?_
      refine k_mi hw (va_runV (As := [.int (nI j)]) (rest := []) E.1 (c_hold l D cy L f H.size (A 0) (A 1) (A 2) (A 3) (A 4) (A 5) (A 6) (A 7) base (t + w) (per) j M j1 j2 j3 j4 (rb (shU (den t per b) w) (t + w + per)) B0 G0 sa (by omega) (by omega) (by omega) (by omega) hA.2.2 (by omega) (hA.1 1 (by decide)) h_nm h_sl h_d h_row h_tr h_rows h_goes) ⟨callB_of 1 E.1.2.2.2.2 (gd_own w2_36) rfl rfl rfl (E.1.2.2.2.2 _ w1_1) (E.1.2.2.2.2 _ w2_33) hd_X5_hold (by rw [hR]; exact ⟨Nat.le_of_ble_eq_true rfl, Nat.le_of_ble_eq_true rfl⟩), E.1.2.2.2.2 _ w2_35, E.1.2.2.2.2 _ ws_11⟩ (pw_preV (q := (RX5, TX5, 5)) E.2 hw h_nm rfl) rfl rfl hl.1 rfl (lv_room (Nat.le_of_ble_eq_true rfl)) dX5_shift_45 (by rw [hR]; exact ⟨Nat.le_of_ble_eq_true rfl, Nat.le_of_ble_eq_true rfl⟩)) (fun r L77 f H locs hp hw => ?_)
      refine W.cs (cells' := 4) (slots' := 331) rfl rfl ?_
      obtain ⟨hLn, hfr, hScr, hcase⟩ := hp
      dsimp only at hLn hfr hScr hcase
      have h_nm := h_nm.keep hLn (hfr _ h_nm.1 n_nm_sl n_nm_d n_nm_row n_nm_tr n_nm_rows n_nm_goes)
      have hF : ∀ b ∈ L, b ≠ (A 1) → b ≠ (A 3) → b ≠ (A 4) → b ≠ (A 5) → b ≠ (A 6) → b ≠ (A 7) → f b = f0 b := fun b hb h0 h1 h2 h3 h4 h5 => (hfr b (hLs b hb) h0 h1 h2 h3 h4 h5).trans (hF b hb h0 h1 h2 h3 h4 h5)
      have hLs : ∀ b ∈ L, b ∈ L77 := fun b hb => hLn b (hLs b hb)
      exact k_miret E hQ hlk hr hw (Nat.le_of_ble_eq_true rfl) (Nat.le_of_ble_eq_true rfl) (⟨hLs, fun b hb h => hF b hb (h 1 (by decide)) (h 3 (by decide)) (h 4 (by decide)) (h 5 (by decide)) (h 6 (by decide)) (h 7 (by decide)), by
      obtain ⟨SS2, hW2, hH⟩ := fin_hold (X := xShift (nI w) (SS x1)) (by rw [den_rb (by omega) (shU_ev (den_ev b hper))]; rw [hden, xShift_p hw1]) hA hB hSl hRm hLs hF h_nm hScr hcase
      exact ⟨SS2, hW2, sp_un_ok hj hx1 rfl hH⟩⟩) dX5_shift_48
    · refine lv_iconst (v := -1) E.1.1 E.1.2.1 dX5_shift_16 rfl ?_
      exact k_miret E hQ hlk hr hw (Nat.le_of_ble_eq_true rfl) (Nat.le_of_ble_eq_true rfl) (⟨hLs, fun b hb h => hF b hb (h 1 (by decide)) (h 3 (by decide)) (h 4 (by decide)) (h 5 (by decide)) (h 6 (by decide)) (h 7 (by decide)), SS, fin_keep hA hB hSl hRm hLs hF h_nm ⟨_, _, _, _, _, _, _, _, _, h_d, h_row, h_tr, h_rows, h_goes⟩ h_sl, sp_un_1 (Or.inr (nb c13))⟩) dX5_shift_17

set_option maxHeartbeats 4000000 in
set_option maxRecDepth 100000 in
theorem p_shiftD (l : Launch) (D : va_G) (cy : Nat → ClassId) (L : List Nat) (f0 : Nat → va_E) (sz : Nat) (M : List Nat) (A : Nat → Nat) (base : Nat) (SS : Nat → Nat → Bool) (kp : Nat → Bool) (kb : Nat → Nat) (KS : Nat → Nat → Nat → Bool) (hA : AdOK L M A) (hN : NmW cy L f0 M A base SS kp kb KS) (to fr : Int32) (w : Nat) (hw0 : 0 < w) (hw1 : w ≤ 100) (hin : i32in (-nI w) (-100) (nI 100) = true) : Met l yX5_shift (.code yX5_shift cX5_shift 4 (Option.some FieldType.int) :: wsL_law) { frames := 6, cells := 4, slots := 331, locals := 128 } (va_Pc [.ref (A 0), .int to, .int fr, .int (-nI w)] (PW D cy L f0 sz)) (va_Qi (fun (r : Int32) (u : List Nat × (Nat → va_E)) => (∀ b ∈ L, b ∈ u.1) ∧ (∀ b ∈ L, (∀ i, i < 12 → b ≠ A i) → u.2 b = f0 b) ∧ ∃ SS2, NmW cy u.1 u.2 M A base SS2 kp kb KS ∧ sp_un base SS SS2 to fr true (xShift (-nI w)) r) (PB D (AW L sz)) (AW L sz)) 4 331 (AW L sz) := by
  refine m_start (by decide) (Nat.le_of_ble_eq_true rfl) ?_
  intro p e R Q s m args below meth c ls hsz hR hQ E hr hlk hnm hw hl
  have hl : lv_has ls 4 [(0, .ref (A 0)), (1, .int to), (2, .int fr), (3, .int (-nI w))] := hl
  obtain ⟨H, hH⟩ : ∃ X, X = s.heap := ⟨_, rfl⟩
  obtain ⟨locs, hlocs⟩ : ∃ X : List Loc, X = [] := ⟨_, rfl⟩
  have hw0 := hw
  obtain ⟨hB, h_nm, ⟨sa, h_sl, hSl⟩, ⟨i1, i2, j1, j2, j3, j4, g, B0, G0, h_d, h_row, h_tr, h_rows, h_goes⟩, hRm⟩ := hN
  have hb2 := hB.two
  obtain ⟨f, hf0⟩ : ∃ X, X = f0 := ⟨_, rfl⟩
  rw [← hf0] at h_nm h_sl h_d h_row h_tr h_rows h_goes
  have hw : WW D (AW L sz) s.heap L f H locs := by rw [hH, hlocs, hf0]; exact hw
  have hF : ∀ b ∈ L, b ≠ (A 1) → b ≠ (A 3) → b ≠ (A 4) → b ≠ (A 5) → b ≠ (A 6) → b ≠ (A 7) → f b = f0 b := fun b hb h0 h1 h2 h3 h4 h5 => by rw [hf0]
  suffices hgo : W p l e R s m args below meth c H locs 0 0 Q (F0 m 0 ls []) by rw [hH, hlocs] at hgo; exact hgo
  clear hH hlocs hw0 hf0
  have hLs : ∀ b ∈ L, b ∈ L := fun _ h => h
  have n_nm_sl : A 0 ≠ A 1 := h_nm.ne h_sl (by simp)
  have n_nm_d : A 0 ≠ A 3 := h_nm.ne h_d (by simp)
  have n_nm_row : A 0 ≠ A 4 := h_nm.ne h_row (by simp)
  have n_nm_tr : A 0 ≠ A 5 := h_nm.ne h_tr (by simp)
  have n_nm_rows : A 0 ≠ A 6 := h_nm.ne h_rows (by simp)
  have n_nm_goes : A 0 ≠ A 7 := h_nm.ne h_goes (by simp)
  have n_sl_d : A 1 ≠ A 3 := h_sl.ne h_d (by simp)
  have n_sl_row : A 1 ≠ A 4 := h_sl.ne h_row (by simp)
  have n_sl_tr : A 1 ≠ A 5 := h_sl.ne h_tr (by simp)
  have n_sl_rows : A 1 ≠ A 6 := h_sl.ne h_rows (by simp)
  have n_sl_goes : A 1 ≠ A 7 := h_sl.ne h_goes (by simp)
  have n_d_sl : A 3 ≠ A 1 := h_d.ne h_sl (by simp)
  have n_d_row : A 3 ≠ A 4 := h_d.ne h_row (by simp)
  have n_d_tr : A 3 ≠ A 5 := h_d.ne h_tr (by simp)
  have n_d_rows : A 3 ≠ A 6 := h_d.ne h_rows (by simp)
  have n_d_goes : A 3 ≠ A 7 := h_d.ne h_goes (by simp)
  have n_row_sl : A 4 ≠ A 1 := h_row.ne h_sl (by simp)
  have n_row_d : A 4 ≠ A 3 := h_row.ne h_d (by simp)
  have n_row_tr : A 4 ≠ A 5 := h_row.ne h_tr (by simp)
  have n_row_rows : A 4 ≠ A 6 := h_row.ne h_rows (by simp)
  have n_row_goes : A 4 ≠ A 7 := h_row.ne h_goes (by simp)
  have n_tr_sl : A 5 ≠ A 1 := h_tr.ne h_sl (by simp)
  have n_tr_d : A 5 ≠ A 3 := h_tr.ne h_d (by simp)
  have n_tr_row : A 5 ≠ A 4 := h_tr.ne h_row (by simp)
  have n_tr_rows : A 5 ≠ A 6 := h_tr.ne h_rows (by simp)
  have n_tr_goes : A 5 ≠ A 7 := h_tr.ne h_goes (by simp)
  have n_rows_sl : A 6 ≠ A 1 := h_rows.ne h_sl (by simp)
  have n_rows_d : A 6 ≠ A 3 := h_rows.ne h_d (by simp)
  have n_rows_row : A 6 ≠ A 4 := h_rows.ne h_row (by simp)
  have n_rows_tr : A 6 ≠ A 5 := h_rows.ne h_tr (by simp)
  have n_rows_goes : A 6 ≠ A 7 := h_rows.ne h_goes (by simp)
  have n_goes_sl : A 7 ≠ A 1 := h_goes.ne h_sl (by simp)
  have n_goes_d : A 7 ≠ A 3 := h_goes.ne h_d (by simp)
  have n_goes_row : A 7 ≠ A 4 := h_goes.ne h_row (by simp)
  have n_goes_tr : A 7 ≠ A 5 := h_goes.ne h_tr (by simp)
  have n_goes_rows : A 7 ≠ A 6 := h_goes.ne h_rows (by simp)
  refine lv_aload_n E.1.1 E.1.2.1 dX5_shift_0 rfl (lv_at hl 0 rfl) ?_
  refine lv_iload_n E.1.1 E.1.2.1 dX5_shift_1 rfl (lv_at hl 1 rfl) ?_
  refine k_ri (va_runV (As := [.int to]) (rest := []) E.1 (c_unknown l D cy L f H.size (A 0) (A 1) (A 2) (A 3) (A 5) base sa to h_nm h_sl) ⟨callB_of 1 E.1.2.2.2.2 (gd_own w2_18) rfl rfl rfl (E.1.2.2.2.2 _ w1_1) (E.1.2.2.2.2 _ w2_15) hd_X5_unknown (by rw [hR]; exact ⟨Nat.le_of_ble_eq_true rfl, Nat.le_of_ble_eq_true rfl⟩), E.1.2.2.2.2 _ w2_17, E.1.2.2.2.2 _ ws_9⟩ (pw_preV (q := (RX5, TX5, 5)) E.2 hw h_nm rfl) rfl rfl hl.1 rfl (lv_room (Nat.le_of_ble_eq_true rfl)) dX5_shift_2 ⟨Nat.zero_le _, Nat.zero_le _⟩) ?_
  refine k_if1 (tgt := 16) E dX5_shift_5 (by decide) (fun c5 => ?_) (fun c5 => ?_)
  · refine lv_iconst (v := -1) E.1.1 E.1.2.1 dX5_shift_16 rfl ?_
    exact k_miret E hQ hlk hr hw (Nat.le_of_ble_eq_true rfl) (Nat.le_of_ble_eq_true rfl) (⟨hLs, fun b hb h => hF b hb (h 1 (by decide)) (h 3 (by decide)) (h 4 (by decide)) (h 5 (by decide)) (h 6 (by decide)) (h 7 (by decide)), SS, fin_keep hA hB hSl hRm hLs hF h_nm ⟨_, _, _, _, _, _, _, _, _, h_d, h_row, h_tr, h_rows, h_goes⟩ h_sl, sp_un_1 (Or.inl (nb c5))⟩) dX5_shift_17
  · obtain ⟨j, hj, rfl⟩ := inS_ex c5
    refine lv_aload_n E.1.1 E.1.2.1 dX5_shift_8 rfl (lv_at hl 0 rfl) ?_
    refine lv_iload_n E.1.1 E.1.2.1 dX5_shift_9 rfl (lv_at hl 2 rfl) ?_
    refine k_ri (va_runV (As := [.int fr]) (rest := []) E.1 (c_unknown l D cy L f H.size (A 0) (A 1) (A 2) (A 3) (A 5) base sa fr h_nm h_sl) ⟨callB_of 1 E.1.2.2.2.2 (gd_own w2_18) rfl rfl rfl (E.1.2.2.2.2 _ w1_1) (E.1.2.2.2.2 _ w2_15) hd_X5_unknown (by rw [hR]; exact ⟨Nat.le_of_ble_eq_true rfl, Nat.le_of_ble_eq_true rfl⟩), E.1.2.2.2.2 _ w2_17, E.1.2.2.2.2 _ ws_9⟩ (pw_preV (q := (RX5, TX5, 5)) E.2 hw h_nm rfl) rfl rfl hl.1 rfl (lv_room (Nat.le_of_ble_eq_true rfl)) dX5_shift_10 ⟨Nat.zero_le _, Nat.zero_le _⟩) ?_
    refine k_if0 (tgt := 18) E dX5_shift_13 (by decide) (fun c13 => ?_) (fun c13 => ?_)
    · obtain ⟨x1, hx1, rfl⟩ := inS_ex c13
      refine lv_iload_n E.1.1 E.1.2.1 dX5_shift_18 rfl (lv_at hl 3 rfl) ?_
      refine lv_bipush (v := -100) E.1.1 E.1.2.1 dX5_shift_19 rfl ?_
      refine lv_bipush (v := nI 100) E.1.1 E.1.2.1 dX5_shift_21 rfl ?_
      refine k_ri (va_runS (As := [.int (-nI w), .int (-100), .int (nI 100)]) (rest := []) E.1 (c_within l D cy L f H.size (-nI w) (-100) (nI 100)) ⟨callB_of 3 E.1.2.2.2.2 (gd_own w2_21) rfl rfl rfl (E.1.2.2.2.2 _ w1_1) (E.1.2.2.2.2 _ w2_19) hd_X5_within (by rw [hR]; exact ⟨Nat.le_of_ble_eq_true rfl, Nat.le_of_ble_eq_true rfl⟩), E.1.2.2.2.2 _ w2_20⟩ (pw_pre E.2 hw) rfl rfl hl.1 rfl (lv_room (Nat.le_of_ble_eq_true rfl)) dX5_shift_23 ⟨Nat.zero_le _, Nat.zero_le _⟩) ?_
      refine k_if1 (tgt := 32) E dX5_shift_26 (by decide) (fun c26 => ?_) (fun c26 => absurd hin (by rw [show i32in (-nI w) (-100) (nI 100) = false from c26]; decide))
      obtain ⟨t, per, b, n, hS, hMc, rw, mc, gs, m1, m2, m3, m4, h_a, h_rw, h_mc, h_gs⟩ := hSl x1 (by omega)
      have ht := hS.2.2.1
      have hper := hS.1.1
      have hperx := hS.2.1
      have hden : den t per b = SS x1 := funext (fun n => (hS.den n).symm)
      have h_a := h_a.keep hLs (hF _ h_a.1 (hA.out m1 (by decide)) (hA.out m1 (by decide)) (hA.out m1 (by decide)) (hA.out m1 (by decide)) (hA.out m1 (by decide)) (hA.out m1 (by decide)))
      have n_a_sl : sa x1 ≠ A 1 := hA.out m1 (by decide)
      have n_a_d : sa x1 ≠ A 3 := hA.out m1 (by decide)
      have n_a_row : sa x1 ≠ A 4 := hA.out m1 (by decide)
      have n_a_tr : sa x1 ≠ A 5 := hA.out m1 (by decide)
      have n_a_rows : sa x1 ≠ A 6 := hA.out m1 (by decide)
      have n_a_goes : sa x1 ≠ A 7 := hA.out m1 (by decide)
      have h_rw := h_rw.keep hLs (hF _ h_rw.1 (hA.out m2 (by decide)) (hA.out m2 (by decide)) (hA.out m2 (by decide)) (hA.out m2 (by decide)) (hA.out m2 (by decide)) (hA.out m2 (by decide)))
      have n_rw_sl : rw ≠ A 1 := hA.out m2 (by decide)
      have n_rw_d : rw ≠ A 3 := hA.out m2 (by decide)
      have n_rw_row : rw ≠ A 4 := hA.out m2 (by decide)
      have n_rw_tr : rw ≠ A 5 := hA.out m2 (by decide)
      have n_rw_rows : rw ≠ A 6 := hA.out m2 (by decide)
      have n_rw_goes : rw ≠ A 7 := hA.out m2 (by decide)
      refine lv_aload_n E.1.1 E.1.2.1 dX5_shift_32 rfl (lv_at hl 0 rfl) ?_
      refine lv_aload_n E.1.1 E.1.2.1 dX5_shift_33 rfl (lv_at hl 0 rfl) ?_
      refine k_get (v := .ref (A 1)) E inlX5 rfl 0 (by decide) w1_231 rfl hw h_nm rfl dX5_shift_34 ?_
      refine lv_iload_n E.1.1 E.1.2.1 dX5_shift_37 rfl (lv_at hl 2 rfl) ?_
      refine k_aald E hw 4 (r := sa x1) h_sl rfl (by omega) (by omega) (rfl) dX5_shift_38 ?_
      refine lv_iload_n E.1.1 E.1.2.1 dX5_shift_39 rfl (lv_at hl 3 rfl) ?_
      refine k_mv hw (va_runV (As := [.ref (sa x1), .int (-nI w)]) (rest := []) E.1 (c_draftShiftD l D cy L f H.size (A 0) (A 1) (A 2) (A 3) (A 5) base (A 4) i1 i2 g (sa x1) rw mc t per w b ht hper hperx (by omega) h_nm h_d h_row h_a h_rw) ⟨callB_of 2 E.1.2.2.2.2 (gd_own w2_77) rfl rfl rfl (E.1.2.2.2.2 _ w1_1) (E.1.2.2.2.2 _ w2_74) hd_X5_draftShift (by rw [hR]; exact ⟨Nat.le_of_ble_eq_true rfl, Nat.le_of_ble_eq_true rfl⟩), E.1.2.2.2.2 _ w2_76, E.1.2.2.2.2 _ ws_14⟩ (pw_preV (q := (RX5, TX5, 5)) E.2 hw h_nm rfl) rfl rfl hl.1 rfl (lv_room (Nat.le_of_ble_eq_true rfl)) dX5_shift_40 (by rw [hR]; exact ⟨Nat.le_of_ble_eq_true rfl, Nat.le_of_ble_eq_true rfl⟩)) (fun L1 f H locs hp hw => ?_)
      obtain ⟨hL1, hfr, h_d, h_row⟩ := hp
      have hL1 : L = L1 := hL1
      subst hL1
      have h_d : cel L f (A 3) (.inr (0, [.ref (A 4), .int (nI (t - w)), .int (nI (per))])) := h_d
      have h_row : cel L f (A 4) (.inl (cy 1, 59, .inr (.inl (wd (rb (shD (den t per b) w) (t - w + per)))))) := h_row
      have h_nm := h_nm.keep (fun _ h => h) (hfr _ h_nm.1 n_nm_d n_nm_row)
      have h_sl := h_sl.keep (fun _ h => h) (hfr _ h_sl.1 n_sl_d n_sl_row)
      have h_tr := h_tr.keep (fun _ h => h) (hfr _ h_tr.1 n_tr_d n_tr_row)
      have h_rows := h_rows.keep (fun _ h => h) (hfr _ h_rows.1 n_rows_d n_rows_row)
      have h_goes := h_goes.keep (fun _ h => h) (hfr _ h_goes.1 n_goes_d n_goes_row)
      have h_a := h_a.keep (fun _ h => h) (hfr _ h_a.1 n_a_d n_a_row)
      have h_rw := h_rw.keep (fun _ h => h) (hfr _ h_rw.1 n_rw_d n_rw_row)
      have hF : ∀ b ∈ L, b ≠ (A 1) → b ≠ (A 3) → b ≠ (A 4) → b ≠ (A 5) → b ≠ (A 6) → b ≠ (A 7) → f b = f0 b := fun b hb h0 h1 h2 h3 h4 h5 => (hfr b (hLs b hb) h1 h2).trans (hF b hb h0 h1 h2 h3 h4 h5)
      refine lv_aload_n E.1.1 E.1.2.1 dX5_shift_43 rfl (lv_at hl 0 rfl) ?_
      refine lv_iload_n E.1.1 E.1.2.1 dX5_shift_44 rfl (lv_at hl 1 rfl) ?_
      refine k_mi hw (va_runV (As := [.int (nI j)]) (rest := []) E.1 (c_hold l D cy L f H.size (A 0) (A 1) (A 2) (A 3) (A 4) (A 5) (A 6) (A 7) base (t - w) (per) j M j1 j2 j3 j4 (rb (shD (den t per b) w) (t - w + per)) B0 G0 sa (by omega) (by omega) (by omega) (by omega) hA.2.2 (by omega) (hA.1 1 (by decide)) h_nm h_sl h_d h_row h_tr h_rows h_goes) ⟨callB_of 1 E.1.2.2.2.2 (gd_own w2_36) rfl rfl rfl (E.1.2.2.2.2 _ w1_1) (E.1.2.2.2.2 _ w2_33) hd_X5_hold (by rw [hR]; exact ⟨Nat.le_of_ble_eq_true rfl, Nat.le_of_ble_eq_true rfl⟩), E.1.2.2.2.2 _ w2_35, E.1.2.2.2.2 _ ws_11⟩ (pw_preV (q := (RX5, TX5, 5)) E.2 hw h_nm rfl) rfl rfl hl.1 rfl (lv_room (Nat.le_of_ble_eq_true rfl)) dX5_shift_45 (by rw [hR]; exact ⟨Nat.le_of_ble_eq_true rfl, Nat.le_of_ble_eq_true rfl⟩)) (fun r L77 f H locs hp hw => ?_)
      refine W.cs (cells' := 4) (slots' := 331) rfl rfl ?_
      obtain ⟨hLn, hfr, hScr, hcase⟩ := hp
      dsimp only at hLn hfr hScr hcase
      have h_nm := h_nm.keep hLn (hfr _ h_nm.1 n_nm_sl n_nm_d n_nm_row n_nm_tr n_nm_rows n_nm_goes)
      have hF : ∀ b ∈ L, b ≠ (A 1) → b ≠ (A 3) → b ≠ (A 4) → b ≠ (A 5) → b ≠ (A 6) → b ≠ (A 7) → f b = f0 b := fun b hb h0 h1 h2 h3 h4 h5 => (hfr b (hLs b hb) h0 h1 h2 h3 h4 h5).trans (hF b hb h0 h1 h2 h3 h4 h5)
      have hLs : ∀ b ∈ L, b ∈ L77 := fun b hb => hLn b (hLs b hb)
      exact k_miret E hQ hlk hr hw (Nat.le_of_ble_eq_true rfl) (Nat.le_of_ble_eq_true rfl) (⟨hLs, fun b hb h => hF b hb (h 1 (by decide)) (h 3 (by decide)) (h 4 (by decide)) (h 5 (by decide)) (h 6 (by decide)) (h 7 (by decide)), by
      obtain ⟨SS2, hW2, hH⟩ := fin_hold (X := xShift (-nI w) (SS x1)) (by rw [den_rb (by omega) (shD_ev (den_ev b hper))]; rw [hden, xShift_n hw0 hw1]) hA hB hSl hRm hLs hF h_nm hScr hcase
      exact ⟨SS2, hW2, sp_un_ok hj hx1 rfl hH⟩⟩) dX5_shift_48
    · refine lv_iconst (v := -1) E.1.1 E.1.2.1 dX5_shift_16 rfl ?_
      exact k_miret E hQ hlk hr hw (Nat.le_of_ble_eq_true rfl) (Nat.le_of_ble_eq_true rfl) (⟨hLs, fun b hb h => hF b hb (h 1 (by decide)) (h 3 (by decide)) (h 4 (by decide)) (h 5 (by decide)) (h 6 (by decide)) (h 7 (by decide)), SS, fin_keep hA hB hSl hRm hLs hF h_nm ⟨_, _, _, _, _, _, _, _, _, h_d, h_row, h_tr, h_rows, h_goes⟩ h_sl, sp_un_1 (Or.inr (nb c13))⟩) dX5_shift_17

set_option maxHeartbeats 4000000 in
set_option maxRecDepth 100000 in
theorem p_shift0 (l : Launch) (D : va_G) (cy : Nat → ClassId) (L : List Nat) (f0 : Nat → va_E) (sz : Nat) (M : List Nat) (A : Nat → Nat) (base : Nat) (SS : Nat → Nat → Bool) (kp : Nat → Bool) (kb : Nat → Nat) (KS : Nat → Nat → Nat → Bool) (hA : AdOK L M A) (hN : NmW cy L f0 M A base SS kp kb KS) (to fr w : Int32) (hin : i32in w (-100) (nI 100) = false) : Met l yX5_shift (.code yX5_shift cX5_shift 4 (Option.some FieldType.int) :: wsL_law) { frames := 1, cells := 4, slots := 331, locals := 22 } (va_Pc [.ref (A 0), .int to, .int fr, .int w] (PW D cy L f0 sz)) (va_Qi (fun (r : Int32) (u : List Nat × (Nat → va_E)) => (∀ b ∈ L, b ∈ u.1) ∧ (∀ b ∈ L, (∀ i, i < 12 → b ≠ A i) → u.2 b = f0 b) ∧ ∃ SS2, NmW cy u.1 u.2 M A base SS2 kp kb KS ∧ sp_un base SS SS2 to fr false (xShift w) r) (PB D (AW L sz)) (AW L sz)) 4 331 (AW L sz) := by
  refine m_start (by decide) (Nat.le_of_ble_eq_true rfl) ?_
  intro p e R Q s m args below meth c ls hsz hR hQ E hr hlk hnm hw hl
  have hl : lv_has ls 4 [(0, .ref (A 0)), (1, .int to), (2, .int fr), (3, .int w)] := hl
  obtain ⟨H, hH⟩ : ∃ X, X = s.heap := ⟨_, rfl⟩
  obtain ⟨locs, hlocs⟩ : ∃ X : List Loc, X = [] := ⟨_, rfl⟩
  have hw0 := hw
  obtain ⟨hB, h_nm, ⟨sa, h_sl, hSl⟩, ⟨i1, i2, j1, j2, j3, j4, g, B0, G0, h_d, h_row, h_tr, h_rows, h_goes⟩, hRm⟩ := hN
  have hb2 := hB.two
  obtain ⟨f, hf0⟩ : ∃ X, X = f0 := ⟨_, rfl⟩
  rw [← hf0] at h_nm h_sl h_d h_row h_tr h_rows h_goes
  have hw : WW D (AW L sz) s.heap L f H locs := by rw [hH, hlocs, hf0]; exact hw
  have hF : ∀ b ∈ L, b ≠ (A 1) → b ≠ (A 3) → b ≠ (A 4) → b ≠ (A 5) → b ≠ (A 6) → b ≠ (A 7) → f b = f0 b := fun b hb h0 h1 h2 h3 h4 h5 => by rw [hf0]
  suffices hgo : W p l e R s m args below meth c H locs 0 0 Q (F0 m 0 ls []) by rw [hH, hlocs] at hgo; exact hgo
  clear hH hlocs hw0 hf0
  have hLs : ∀ b ∈ L, b ∈ L := fun _ h => h
  have n_nm_sl : A 0 ≠ A 1 := h_nm.ne h_sl (by simp)
  have n_nm_d : A 0 ≠ A 3 := h_nm.ne h_d (by simp)
  have n_nm_row : A 0 ≠ A 4 := h_nm.ne h_row (by simp)
  have n_nm_tr : A 0 ≠ A 5 := h_nm.ne h_tr (by simp)
  have n_nm_rows : A 0 ≠ A 6 := h_nm.ne h_rows (by simp)
  have n_nm_goes : A 0 ≠ A 7 := h_nm.ne h_goes (by simp)
  have n_sl_d : A 1 ≠ A 3 := h_sl.ne h_d (by simp)
  have n_sl_row : A 1 ≠ A 4 := h_sl.ne h_row (by simp)
  have n_sl_tr : A 1 ≠ A 5 := h_sl.ne h_tr (by simp)
  have n_sl_rows : A 1 ≠ A 6 := h_sl.ne h_rows (by simp)
  have n_sl_goes : A 1 ≠ A 7 := h_sl.ne h_goes (by simp)
  have n_d_sl : A 3 ≠ A 1 := h_d.ne h_sl (by simp)
  have n_d_row : A 3 ≠ A 4 := h_d.ne h_row (by simp)
  have n_d_tr : A 3 ≠ A 5 := h_d.ne h_tr (by simp)
  have n_d_rows : A 3 ≠ A 6 := h_d.ne h_rows (by simp)
  have n_d_goes : A 3 ≠ A 7 := h_d.ne h_goes (by simp)
  have n_row_sl : A 4 ≠ A 1 := h_row.ne h_sl (by simp)
  have n_row_d : A 4 ≠ A 3 := h_row.ne h_d (by simp)
  have n_row_tr : A 4 ≠ A 5 := h_row.ne h_tr (by simp)
  have n_row_rows : A 4 ≠ A 6 := h_row.ne h_rows (by simp)
  have n_row_goes : A 4 ≠ A 7 := h_row.ne h_goes (by simp)
  have n_tr_sl : A 5 ≠ A 1 := h_tr.ne h_sl (by simp)
  have n_tr_d : A 5 ≠ A 3 := h_tr.ne h_d (by simp)
  have n_tr_row : A 5 ≠ A 4 := h_tr.ne h_row (by simp)
  have n_tr_rows : A 5 ≠ A 6 := h_tr.ne h_rows (by simp)
  have n_tr_goes : A 5 ≠ A 7 := h_tr.ne h_goes (by simp)
  have n_rows_sl : A 6 ≠ A 1 := h_rows.ne h_sl (by simp)
  have n_rows_d : A 6 ≠ A 3 := h_rows.ne h_d (by simp)
  have n_rows_row : A 6 ≠ A 4 := h_rows.ne h_row (by simp)
  have n_rows_tr : A 6 ≠ A 5 := h_rows.ne h_tr (by simp)
  have n_rows_goes : A 6 ≠ A 7 := h_rows.ne h_goes (by simp)
  have n_goes_sl : A 7 ≠ A 1 := h_goes.ne h_sl (by simp)
  have n_goes_d : A 7 ≠ A 3 := h_goes.ne h_d (by simp)
  have n_goes_row : A 7 ≠ A 4 := h_goes.ne h_row (by simp)
  have n_goes_tr : A 7 ≠ A 5 := h_goes.ne h_tr (by simp)
  have n_goes_rows : A 7 ≠ A 6 := h_goes.ne h_rows (by simp)
  refine lv_aload_n E.1.1 E.1.2.1 dX5_shift_0 rfl (lv_at hl 0 rfl) ?_
  refine lv_iload_n E.1.1 E.1.2.1 dX5_shift_1 rfl (lv_at hl 1 rfl) ?_
  refine k_ri (va_runV (As := [.int to]) (rest := []) E.1 (c_unknown l D cy L f H.size (A 0) (A 1) (A 2) (A 3) (A 5) base sa to h_nm h_sl) ⟨callB_of 1 E.1.2.2.2.2 (gd_own w2_18) rfl rfl rfl (E.1.2.2.2.2 _ w1_1) (E.1.2.2.2.2 _ w2_15) hd_X5_unknown (by rw [hR]; exact ⟨Nat.le_of_ble_eq_true rfl, Nat.le_of_ble_eq_true rfl⟩), E.1.2.2.2.2 _ w2_17, E.1.2.2.2.2 _ ws_9⟩ (pw_preV (q := (RX5, TX5, 5)) E.2 hw h_nm rfl) rfl rfl hl.1 rfl (lv_room (Nat.le_of_ble_eq_true rfl)) dX5_shift_2 ⟨Nat.zero_le _, Nat.zero_le _⟩) ?_
  refine k_if1 (tgt := 16) E dX5_shift_5 (by decide) (fun c5 => ?_) (fun c5 => ?_)
  · refine lv_iconst (v := -1) E.1.1 E.1.2.1 dX5_shift_16 rfl ?_
    exact k_miret E hQ hlk hr hw (Nat.le_of_ble_eq_true rfl) (Nat.le_of_ble_eq_true rfl) (⟨hLs, fun b hb h => hF b hb (h 1 (by decide)) (h 3 (by decide)) (h 4 (by decide)) (h 5 (by decide)) (h 6 (by decide)) (h 7 (by decide)), SS, fin_keep hA hB hSl hRm hLs hF h_nm ⟨_, _, _, _, _, _, _, _, _, h_d, h_row, h_tr, h_rows, h_goes⟩ h_sl, sp_un_1 (Or.inl (nb c5))⟩) dX5_shift_17
  · obtain ⟨j, hj, rfl⟩ := inS_ex c5
    refine lv_aload_n E.1.1 E.1.2.1 dX5_shift_8 rfl (lv_at hl 0 rfl) ?_
    refine lv_iload_n E.1.1 E.1.2.1 dX5_shift_9 rfl (lv_at hl 2 rfl) ?_
    refine k_ri (va_runV (As := [.int fr]) (rest := []) E.1 (c_unknown l D cy L f H.size (A 0) (A 1) (A 2) (A 3) (A 5) base sa fr h_nm h_sl) ⟨callB_of 1 E.1.2.2.2.2 (gd_own w2_18) rfl rfl rfl (E.1.2.2.2.2 _ w1_1) (E.1.2.2.2.2 _ w2_15) hd_X5_unknown (by rw [hR]; exact ⟨Nat.le_of_ble_eq_true rfl, Nat.le_of_ble_eq_true rfl⟩), E.1.2.2.2.2 _ w2_17, E.1.2.2.2.2 _ ws_9⟩ (pw_preV (q := (RX5, TX5, 5)) E.2 hw h_nm rfl) rfl rfl hl.1 rfl (lv_room (Nat.le_of_ble_eq_true rfl)) dX5_shift_10 ⟨Nat.zero_le _, Nat.zero_le _⟩) ?_
    refine k_if0 (tgt := 18) E dX5_shift_13 (by decide) (fun c13 => ?_) (fun c13 => ?_)
    · obtain ⟨x1, hx1, rfl⟩ := inS_ex c13
      refine lv_iload_n E.1.1 E.1.2.1 dX5_shift_18 rfl (lv_at hl 3 rfl) ?_
      refine lv_bipush (v := -100) E.1.1 E.1.2.1 dX5_shift_19 rfl ?_
      refine lv_bipush (v := nI 100) E.1.1 E.1.2.1 dX5_shift_21 rfl ?_
      refine k_ri (va_runS (As := [.int w, .int (-100), .int (nI 100)]) (rest := []) E.1 (c_within l D cy L f H.size w (-100) (nI 100)) ⟨callB_of 3 E.1.2.2.2.2 (gd_own w2_21) rfl rfl rfl (E.1.2.2.2.2 _ w1_1) (E.1.2.2.2.2 _ w2_19) hd_X5_within (by rw [hR]; exact ⟨Nat.le_of_ble_eq_true rfl, Nat.le_of_ble_eq_true rfl⟩), E.1.2.2.2.2 _ w2_20⟩ (pw_pre E.2 hw) rfl rfl hl.1 rfl (lv_room (Nat.le_of_ble_eq_true rfl)) dX5_shift_23 ⟨Nat.zero_le _, Nat.zero_le _⟩) ?_
      refine k_if1 (tgt := 32) E dX5_shift_26 (by decide) (fun c26 => absurd (show i32in w (-100) (nI 100) = true from c26) (by rw [hin]; decide)) (fun c26 => ?_)
      refine lv_bipush (v := -2) E.1.1 E.1.2.1 dX5_shift_29 rfl ?_
      exact k_miret E hQ hlk hr hw (Nat.le_of_ble_eq_true rfl) (Nat.le_of_ble_eq_true rfl) (⟨hLs, fun b hb h => hF b hb (h 1 (by decide)) (h 3 (by decide)) (h 4 (by decide)) (h 5 (by decide)) (h 6 (by decide)) (h 7 (by decide)), SS, fin_keep hA hB hSl hRm hLs hF h_nm ⟨_, _, _, _, _, _, _, _, _, h_d, h_row, h_tr, h_rows, h_goes⟩ h_sl, sp_un_2 hj hx1 rfl⟩) dX5_shift_31
    · refine lv_iconst (v := -1) E.1.1 E.1.2.1 dX5_shift_16 rfl ?_
      exact k_miret E hQ hlk hr hw (Nat.le_of_ble_eq_true rfl) (Nat.le_of_ble_eq_true rfl) (⟨hLs, fun b hb h => hF b hb (h 1 (by decide)) (h 3 (by decide)) (h 4 (by decide)) (h 5 (by decide)) (h 6 (by decide)) (h 7 (by decide)), SS, fin_keep hA hB hSl hRm hLs hF h_nm ⟨_, _, _, _, _, _, _, _, _, h_d, h_row, h_tr, h_rows, h_goes⟩ h_sl, sp_un_1 (Or.inr (nb c13))⟩) dX5_shift_17

set_option maxHeartbeats 4000000 in
set_option maxRecDepth 100000 in
theorem p_stretch (l : Launch) (D : va_G) (cy : Nat → ClassId) (L : List Nat) (f0 : Nat → va_E) (sz : Nat) (M : List Nat) (A : Nat → Nat) (base : Nat) (SS : Nat → Nat → Bool) (kp : Nat → Bool) (kb : Nat → Nat) (KS : Nat → Nat → Nat → Bool) (hA : AdOK L M A) (hN : NmW cy L f0 M A base SS kp kb KS) (to fr w v : Int32) : Met l yX5_stretch (.code yX5_stretch cX5_stretch 5 (Option.some FieldType.int) :: wsL_law) { frames := 6, cells := 4, slots := 331, locals := 128 } (va_Pc [.ref (A 0), .int to, .int fr, .int w, .int v] (PW D cy L f0 sz)) (va_Qi (fun (r : Int32) (u : List Nat × (Nat → va_E)) => (∀ b ∈ L, b ∈ u.1) ∧ (∀ b ∈ L, (∀ i, i < 12 → b ≠ A i) → u.2 b = f0 b) ∧ ∃ SS2, NmW cy u.1 u.2 M A base SS2 kp kb KS ∧ sp_un base SS SS2 to fr (i32in w (nI 1) (nI 12) && i32in v 0 (nI 20)) (fun S => stU S (ix w) (ix v)) r) (PB D (AW L sz)) (AW L sz)) 4 331 (AW L sz) := by
  refine m_start (by decide) (Nat.le_of_ble_eq_true rfl) ?_
  intro p e R Q s m args below meth c ls hsz hR hQ E hr hlk hnm hw hl
  have hl : lv_has ls 5 [(0, .ref (A 0)), (1, .int to), (2, .int fr), (3, .int w), (4, .int v)] := hl
  obtain ⟨H, hH⟩ : ∃ X, X = s.heap := ⟨_, rfl⟩
  obtain ⟨locs, hlocs⟩ : ∃ X : List Loc, X = [] := ⟨_, rfl⟩
  have hw0 := hw
  obtain ⟨hB, h_nm, ⟨sa, h_sl, hSl⟩, ⟨i1, i2, j1, j2, j3, j4, g, B0, G0, h_d, h_row, h_tr, h_rows, h_goes⟩, hRm⟩ := hN
  have hb2 := hB.two
  obtain ⟨f, hf0⟩ : ∃ X, X = f0 := ⟨_, rfl⟩
  rw [← hf0] at h_nm h_sl h_d h_row h_tr h_rows h_goes
  have hw : WW D (AW L sz) s.heap L f H locs := by rw [hH, hlocs, hf0]; exact hw
  have hF : ∀ b ∈ L, b ≠ (A 1) → b ≠ (A 3) → b ≠ (A 4) → b ≠ (A 5) → b ≠ (A 6) → b ≠ (A 7) → f b = f0 b := fun b hb h0 h1 h2 h3 h4 h5 => by rw [hf0]
  suffices hgo : W p l e R s m args below meth c H locs 0 0 Q (F0 m 0 ls []) by rw [hH, hlocs] at hgo; exact hgo
  clear hH hlocs hw0 hf0
  have hLs : ∀ b ∈ L, b ∈ L := fun _ h => h
  have n_nm_sl : A 0 ≠ A 1 := h_nm.ne h_sl (by simp)
  have n_nm_d : A 0 ≠ A 3 := h_nm.ne h_d (by simp)
  have n_nm_row : A 0 ≠ A 4 := h_nm.ne h_row (by simp)
  have n_nm_tr : A 0 ≠ A 5 := h_nm.ne h_tr (by simp)
  have n_nm_rows : A 0 ≠ A 6 := h_nm.ne h_rows (by simp)
  have n_nm_goes : A 0 ≠ A 7 := h_nm.ne h_goes (by simp)
  have n_sl_d : A 1 ≠ A 3 := h_sl.ne h_d (by simp)
  have n_sl_row : A 1 ≠ A 4 := h_sl.ne h_row (by simp)
  have n_sl_tr : A 1 ≠ A 5 := h_sl.ne h_tr (by simp)
  have n_sl_rows : A 1 ≠ A 6 := h_sl.ne h_rows (by simp)
  have n_sl_goes : A 1 ≠ A 7 := h_sl.ne h_goes (by simp)
  have n_d_sl : A 3 ≠ A 1 := h_d.ne h_sl (by simp)
  have n_d_row : A 3 ≠ A 4 := h_d.ne h_row (by simp)
  have n_d_tr : A 3 ≠ A 5 := h_d.ne h_tr (by simp)
  have n_d_rows : A 3 ≠ A 6 := h_d.ne h_rows (by simp)
  have n_d_goes : A 3 ≠ A 7 := h_d.ne h_goes (by simp)
  have n_row_sl : A 4 ≠ A 1 := h_row.ne h_sl (by simp)
  have n_row_d : A 4 ≠ A 3 := h_row.ne h_d (by simp)
  have n_row_tr : A 4 ≠ A 5 := h_row.ne h_tr (by simp)
  have n_row_rows : A 4 ≠ A 6 := h_row.ne h_rows (by simp)
  have n_row_goes : A 4 ≠ A 7 := h_row.ne h_goes (by simp)
  have n_tr_sl : A 5 ≠ A 1 := h_tr.ne h_sl (by simp)
  have n_tr_d : A 5 ≠ A 3 := h_tr.ne h_d (by simp)
  have n_tr_row : A 5 ≠ A 4 := h_tr.ne h_row (by simp)
  have n_tr_rows : A 5 ≠ A 6 := h_tr.ne h_rows (by simp)
  have n_tr_goes : A 5 ≠ A 7 := h_tr.ne h_goes (by simp)
  have n_rows_sl : A 6 ≠ A 1 := h_rows.ne h_sl (by simp)
  have n_rows_d : A 6 ≠ A 3 := h_rows.ne h_d (by simp)
  have n_rows_row : A 6 ≠ A 4 := h_rows.ne h_row (by simp)
  have n_rows_tr : A 6 ≠ A 5 := h_rows.ne h_tr (by simp)
  have n_rows_goes : A 6 ≠ A 7 := h_rows.ne h_goes (by simp)
  have n_goes_sl : A 7 ≠ A 1 := h_goes.ne h_sl (by simp)
  have n_goes_d : A 7 ≠ A 3 := h_goes.ne h_d (by simp)
  have n_goes_row : A 7 ≠ A 4 := h_goes.ne h_row (by simp)
  have n_goes_tr : A 7 ≠ A 5 := h_goes.ne h_tr (by simp)
  have n_goes_rows : A 7 ≠ A 6 := h_goes.ne h_rows (by simp)
  refine lv_aload_n E.1.1 E.1.2.1 dX5_stretch_0 rfl (lv_at hl 0 rfl) ?_
  refine lv_iload_n E.1.1 E.1.2.1 dX5_stretch_1 rfl (lv_at hl 1 rfl) ?_
  refine k_ri (va_runV (As := [.int to]) (rest := []) E.1 (c_unknown l D cy L f H.size (A 0) (A 1) (A 2) (A 3) (A 5) base sa to h_nm h_sl) ⟨callB_of 1 E.1.2.2.2.2 (gd_own w2_18) rfl rfl rfl (E.1.2.2.2.2 _ w1_1) (E.1.2.2.2.2 _ w2_15) hd_X5_unknown (by rw [hR]; exact ⟨Nat.le_of_ble_eq_true rfl, Nat.le_of_ble_eq_true rfl⟩), E.1.2.2.2.2 _ w2_17, E.1.2.2.2.2 _ ws_9⟩ (pw_preV (q := (RX5, TX5, 5)) E.2 hw h_nm rfl) rfl rfl hl.1 rfl (lv_room (Nat.le_of_ble_eq_true rfl)) dX5_stretch_2 ⟨Nat.zero_le _, Nat.zero_le _⟩) ?_
  refine k_if1 (tgt := 16) E dX5_stretch_5 (by decide) (fun c5 => ?_) (fun c5 => ?_)
  · refine lv_iconst (v := -1) E.1.1 E.1.2.1 dX5_stretch_16 rfl ?_
    exact k_miret E hQ hlk hr hw (Nat.le_of_ble_eq_true rfl) (Nat.le_of_ble_eq_true rfl) (⟨hLs, fun b hb h => hF b hb (h 1 (by decide)) (h 3 (by decide)) (h 4 (by decide)) (h 5 (by decide)) (h 6 (by decide)) (h 7 (by decide)), SS, fin_keep hA hB hSl hRm hLs hF h_nm ⟨_, _, _, _, _, _, _, _, _, h_d, h_row, h_tr, h_rows, h_goes⟩ h_sl, sp_un_1 (Or.inl (nb c5))⟩) dX5_stretch_17
  · obtain ⟨j, hj, rfl⟩ := inS_ex c5
    refine lv_aload_n E.1.1 E.1.2.1 dX5_stretch_8 rfl (lv_at hl 0 rfl) ?_
    refine lv_iload_n E.1.1 E.1.2.1 dX5_stretch_9 rfl (lv_at hl 2 rfl) ?_
    refine k_ri (va_runV (As := [.int fr]) (rest := []) E.1 (c_unknown l D cy L f H.size (A 0) (A 1) (A 2) (A 3) (A 5) base sa fr h_nm h_sl) ⟨callB_of 1 E.1.2.2.2.2 (gd_own w2_18) rfl rfl rfl (E.1.2.2.2.2 _ w1_1) (E.1.2.2.2.2 _ w2_15) hd_X5_unknown (by rw [hR]; exact ⟨Nat.le_of_ble_eq_true rfl, Nat.le_of_ble_eq_true rfl⟩), E.1.2.2.2.2 _ w2_17, E.1.2.2.2.2 _ ws_9⟩ (pw_preV (q := (RX5, TX5, 5)) E.2 hw h_nm rfl) rfl rfl hl.1 rfl (lv_room (Nat.le_of_ble_eq_true rfl)) dX5_stretch_10 ⟨Nat.zero_le _, Nat.zero_le _⟩) ?_
    refine k_if0 (tgt := 18) E dX5_stretch_13 (by decide) (fun c13 => ?_) (fun c13 => ?_)
    · obtain ⟨x1, hx1, rfl⟩ := inS_ex c13
      refine lv_iload_n E.1.1 E.1.2.1 dX5_stretch_18 rfl (lv_at hl 3 rfl) ?_
      refine lv_iconst (v := nI 1) E.1.1 E.1.2.1 dX5_stretch_19 rfl ?_
      refine lv_bipush (v := nI 12) E.1.1 E.1.2.1 dX5_stretch_20 rfl ?_
      refine k_ri (va_runS (As := [.int w, .int (nI 1), .int (nI 12)]) (rest := []) E.1 (c_within l D cy L f H.size w (nI 1) (nI 12)) ⟨callB_of 3 E.1.2.2.2.2 (gd_own w2_21) rfl rfl rfl (E.1.2.2.2.2 _ w1_1) (E.1.2.2.2.2 _ w2_19) hd_X5_within (by rw [hR]; exact ⟨Nat.le_of_ble_eq_true rfl, Nat.le_of_ble_eq_true rfl⟩), E.1.2.2.2.2 _ w2_20⟩ (pw_pre E.2 hw) rfl rfl hl.1 rfl (lv_room (Nat.le_of_ble_eq_true rfl)) dX5_stretch_22 ⟨Nat.zero_le _, Nat.zero_le _⟩) ?_
      refine k_if0 (tgt := 39) E dX5_stretch_25 (by decide) (fun c25 => ?_) (fun c25 => ?_)
      · refine lv_bipush (v := -2) E.1.1 E.1.2.1 dX5_stretch_39 rfl ?_
        exact k_miret E hQ hlk hr hw (Nat.le_of_ble_eq_true rfl) (Nat.le_of_ble_eq_true rfl) (⟨hLs, fun b hb h => hF b hb (h 1 (by decide)) (h 3 (by decide)) (h 4 (by decide)) (h 5 (by decide)) (h 6 (by decide)) (h 7 (by decide)), SS, fin_keep hA hB hSl hRm hLs hF h_nm ⟨_, _, _, _, _, _, _, _, _, h_d, h_row, h_tr, h_rows, h_goes⟩ h_sl, sp_un_2 hj hx1 (by rw [c25]; rfl)⟩) dX5_stretch_41
      · refine lv_iload E.1.1 E.1.2.1 dX5_stretch_28 (lv_at hl 4 rfl) ?_
        refine lv_iconst (v := nI 0) E.1.1 E.1.2.1 dX5_stretch_30 rfl ?_
        refine lv_bipush (v := nI 20) E.1.1 E.1.2.1 dX5_stretch_31 rfl ?_
        refine k_ri (va_runS (As := [.int v, .int (nI 0), .int (nI 20)]) (rest := []) E.1 (c_within l D cy L f H.size v (nI 0) (nI 20)) ⟨callB_of 3 E.1.2.2.2.2 (gd_own w2_21) rfl rfl rfl (E.1.2.2.2.2 _ w1_1) (E.1.2.2.2.2 _ w2_19) hd_X5_within (by rw [hR]; exact ⟨Nat.le_of_ble_eq_true rfl, Nat.le_of_ble_eq_true rfl⟩), E.1.2.2.2.2 _ w2_20⟩ (pw_pre E.2 hw) rfl rfl hl.1 rfl (lv_room (Nat.le_of_ble_eq_true rfl)) dX5_stretch_33 ⟨Nat.zero_le _, Nat.zero_le _⟩) ?_
        refine k_if1 (tgt := 42) E dX5_stretch_36 (by decide) (fun c36 => ?_) (fun c36 => ?_)
        · obtain ⟨w1, hw1, hw2, rfl⟩ := in_ex1 (by decide) c25 (by decide)
          obtain ⟨v1, hv1, rfl⟩ := in_ex (by decide) c36
          obtain ⟨t, per, b, n, hS, hMc, rw, mc, gs, m1, m2, m3, m4, h_a, h_rw, h_mc, h_gs⟩ := hSl x1 (by omega)
          have ht := hS.2.2.1
          have hper := hS.1.1
          have hperx := hS.2.1
          have hden : den t per b = SS x1 := funext (fun n => (hS.den n).symm)
          have h_a := h_a.keep hLs (hF _ h_a.1 (hA.out m1 (by decide)) (hA.out m1 (by decide)) (hA.out m1 (by decide)) (hA.out m1 (by decide)) (hA.out m1 (by decide)) (hA.out m1 (by decide)))
          have n_a_sl : sa x1 ≠ A 1 := hA.out m1 (by decide)
          have n_a_d : sa x1 ≠ A 3 := hA.out m1 (by decide)
          have n_a_row : sa x1 ≠ A 4 := hA.out m1 (by decide)
          have n_a_tr : sa x1 ≠ A 5 := hA.out m1 (by decide)
          have n_a_rows : sa x1 ≠ A 6 := hA.out m1 (by decide)
          have n_a_goes : sa x1 ≠ A 7 := hA.out m1 (by decide)
          have h_rw := h_rw.keep hLs (hF _ h_rw.1 (hA.out m2 (by decide)) (hA.out m2 (by decide)) (hA.out m2 (by decide)) (hA.out m2 (by decide)) (hA.out m2 (by decide)) (hA.out m2 (by decide)))
          have n_rw_sl : rw ≠ A 1 := hA.out m2 (by decide)
          have n_rw_d : rw ≠ A 3 := hA.out m2 (by decide)
          have n_rw_row : rw ≠ A 4 := hA.out m2 (by decide)
          have n_rw_tr : rw ≠ A 5 := hA.out m2 (by decide)
          have n_rw_rows : rw ≠ A 6 := hA.out m2 (by decide)
          have n_rw_goes : rw ≠ A 7 := hA.out m2 (by decide)
          have hwt : w1 * t ≤ 12 * 120 := Nat.mul_le_mul hw2 ht
          have hwp : w1 * per ≤ 12 * 60 := Nat.mul_le_mul hw2 hperx
          have hwp0 : 0 < w1 * per := Nat.mul_pos (by omega) hper
          refine lv_aload_n E.1.1 E.1.2.1 dX5_stretch_42 rfl (lv_at hl 0 rfl) ?_
          refine lv_aload_n E.1.1 E.1.2.1 dX5_stretch_43 rfl (lv_at hl 0 rfl) ?_
          refine k_get (v := .ref (A 1)) E inlX5 rfl 0 (by decide) w1_231 rfl hw h_nm rfl dX5_stretch_44 ?_
          refine lv_iload_n E.1.1 E.1.2.1 dX5_stretch_47 rfl (lv_at hl 2 rfl) ?_
          refine k_aald E hw 4 (r := sa x1) h_sl rfl (by omega) (by omega) (rfl) dX5_stretch_48 ?_
          refine lv_iload_n E.1.1 E.1.2.1 dX5_stretch_49 rfl (lv_at hl 3 rfl) ?_
          refine lv_iload E.1.1 E.1.2.1 dX5_stretch_50 (lv_at hl 4 rfl) ?_
          refine k_mv hw (va_runV (As := [.ref (sa x1), .int (nI w1), .int (nI v1)]) (rest := []) E.1 (c_draftStretch l D cy L f H.size (A 0) (A 1) (A 2) (A 3) (A 5) base (A 4) i1 i2 g (sa x1) rw mc t per w1 v1 b ht hper hperx (by omega) (by omega) (by omega) h_nm h_d h_row h_a h_rw) ⟨callB_of 3 E.1.2.2.2.2 (gd_own w2_91) rfl rfl rfl (E.1.2.2.2.2 _ w1_1) (E.1.2.2.2.2 _ w2_88) hd_X5_draftStretch (by rw [hR]; exact ⟨Nat.le_of_ble_eq_true rfl, Nat.le_of_ble_eq_true rfl⟩), E.1.2.2.2.2 _ w2_90, E.1.2.2.2.2 _ ws_15⟩ (pw_preV (q := (RX5, TX5, 5)) E.2 hw h_nm rfl) rfl rfl hl.1 rfl (lv_room (Nat.le_of_ble_eq_true rfl)) dX5_stretch_52 (by rw [hR]; exact ⟨Nat.le_of_ble_eq_true rfl, Nat.le_of_ble_eq_true rfl⟩)) (fun L1 f H locs hp hw => ?_)
          obtain ⟨hL1, hfr, h_d, h_row⟩ := hp
          have hL1 : L = L1 := hL1
          subst hL1
          have h_d : cel L f (A 3) (.inr (0, [.ref (A 4), .int (nI (w1 * t + v1)), .int (nI (w1 * per))])) := h_d
          have h_row : cel L f (A 4) (.inl (cy 1, 59, .inr (.inl (wd (rb (stU (den t per b) w1 v1) (w1 * t + v1 + w1 * per)))))) := h_row
          have h_nm := h_nm.keep (fun _ h => h) (hfr _ h_nm.1 n_nm_d n_nm_row)
          have h_sl := h_sl.keep (fun _ h => h) (hfr _ h_sl.1 n_sl_d n_sl_row)
          have h_tr := h_tr.keep (fun _ h => h) (hfr _ h_tr.1 n_tr_d n_tr_row)
          have h_rows := h_rows.keep (fun _ h => h) (hfr _ h_rows.1 n_rows_d n_rows_row)
          have h_goes := h_goes.keep (fun _ h => h) (hfr _ h_goes.1 n_goes_d n_goes_row)
          have h_a := h_a.keep (fun _ h => h) (hfr _ h_a.1 n_a_d n_a_row)
          have h_rw := h_rw.keep (fun _ h => h) (hfr _ h_rw.1 n_rw_d n_rw_row)
          have hF : ∀ b ∈ L, b ≠ (A 1) → b ≠ (A 3) → b ≠ (A 4) → b ≠ (A 5) → b ≠ (A 6) → b ≠ (A 7) → f b = f0 b := fun b hb h0 h1 h2 h3 h4 h5 => (hfr b (hLs b hb) h1 h2).trans (hF b hb h0 h1 h2 h3 h4 h5)
          refine lv_aload_n E.1.1 E.1.2.1 dX5_stretch_55 rfl (lv_at hl 0 rfl) ?_
          refine lv_iload_n E.1.1 E.1.2.1 dX5_stretch_56 rfl (lv_at hl 1 rfl) ?_
          refine k_mi hw (va_runV (As := [.int (nI j)]) (rest := []) E.1 (c_hold l D cy L f H.size (A 0) (A 1) (A 2) (A 3) (A 4) (A 5) (A 6) (A 7) base (w1 * t + v1) (w1 * per) j M j1 j2 j3 j4 (rb (stU (den t per b) w1 v1) (w1 * t + v1 + w1 * per)) B0 G0 sa (by omega) (by omega) (by omega) (by omega) hA.2.2 (by omega) (hA.1 1 (by decide)) h_nm h_sl h_d h_row h_tr h_rows h_goes) ⟨callB_of 1 E.1.2.2.2.2 (gd_own w2_36) rfl rfl rfl (E.1.2.2.2.2 _ w1_1) (E.1.2.2.2.2 _ w2_33) hd_X5_hold (by rw [hR]; exact ⟨Nat.le_of_ble_eq_true rfl, Nat.le_of_ble_eq_true rfl⟩), E.1.2.2.2.2 _ w2_35, E.1.2.2.2.2 _ ws_11⟩ (pw_preV (q := (RX5, TX5, 5)) E.2 hw h_nm rfl) rfl rfl hl.1 rfl (lv_room (Nat.le_of_ble_eq_true rfl)) dX5_stretch_57 (by rw [hR]; exact ⟨Nat.le_of_ble_eq_true rfl, Nat.le_of_ble_eq_true rfl⟩)) (fun r L77 f H locs hp hw => ?_)
          refine W.cs (cells' := 4) (slots' := 331) rfl rfl ?_
          obtain ⟨hLn, hfr, hScr, hcase⟩ := hp
          dsimp only at hLn hfr hScr hcase
          have h_nm := h_nm.keep hLn (hfr _ h_nm.1 n_nm_sl n_nm_d n_nm_row n_nm_tr n_nm_rows n_nm_goes)
          have hF : ∀ b ∈ L, b ≠ (A 1) → b ≠ (A 3) → b ≠ (A 4) → b ≠ (A 5) → b ≠ (A 6) → b ≠ (A 7) → f b = f0 b := fun b hb h0 h1 h2 h3 h4 h5 => (hfr b (hLs b hb) h0 h1 h2 h3 h4 h5).trans (hF b hb h0 h1 h2 h3 h4 h5)
          have hLs : ∀ b ∈ L, b ∈ L77 := fun b hb => hLn b (hLs b hb)
          exact k_miret E hQ hlk hr hw (Nat.le_of_ble_eq_true rfl) (Nat.le_of_ble_eq_true rfl) (⟨hLs, fun b hb h => hF b hb (h 1 (by decide)) (h 3 (by decide)) (h 4 (by decide)) (h 5 (by decide)) (h 6 (by decide)) (h 7 (by decide)), by
      obtain ⟨SS2, hW2, hH⟩ := fin_hold (X := stU (SS x1) w1 v1) (by rw [den_rb (by omega) (stU_ev (by omega) (den_ev b hper))]; rw [hden]) hA hB hSl hRm hLs hF h_nm hScr hcase
      exact ⟨SS2, hW2, sp_un_ok hj hx1 (by rw [c25, show i32in (nI v1) 0 (nI 20) = true from c36]; rfl) (by rw [ix_nI (by omega), ix_nI (by omega)]; exact hH)⟩⟩) dX5_stretch_60
        · refine lv_bipush (v := -2) E.1.1 E.1.2.1 dX5_stretch_39 rfl ?_
          exact k_miret E hQ hlk hr hw (Nat.le_of_ble_eq_true rfl) (Nat.le_of_ble_eq_true rfl) (⟨hLs, fun b hb h => hF b hb (h 1 (by decide)) (h 3 (by decide)) (h 4 (by decide)) (h 5 (by decide)) (h 6 (by decide)) (h 7 (by decide)), SS, fin_keep hA hB hSl hRm hLs hF h_nm ⟨_, _, _, _, _, _, _, _, _, h_d, h_row, h_tr, h_rows, h_goes⟩ h_sl, sp_un_2 hj hx1 (by rw [show i32in v 0 (nI 20) = false from c36, Bool.and_false])⟩) dX5_stretch_41
    · refine lv_iconst (v := -1) E.1.1 E.1.2.1 dX5_stretch_16 rfl ?_
      exact k_miret E hQ hlk hr hw (Nat.le_of_ble_eq_true rfl) (Nat.le_of_ble_eq_true rfl) (⟨hLs, fun b hb h => hF b hb (h 1 (by decide)) (h 3 (by decide)) (h 4 (by decide)) (h 5 (by decide)) (h 6 (by decide)) (h 7 (by decide)), SS, fin_keep hA hB hSl hRm hLs hF h_nm ⟨_, _, _, _, _, _, _, _, _, h_d, h_row, h_tr, h_rows, h_goes⟩ h_sl, sp_un_1 (Or.inr (nb c13))⟩) dX5_stretch_17

set_option maxHeartbeats 4000000 in
set_option maxRecDepth 100000 in
theorem p_shrink (l : Launch) (D : va_G) (cy : Nat → ClassId) (L : List Nat) (f0 : Nat → va_E) (sz : Nat) (M : List Nat) (A : Nat → Nat) (base : Nat) (SS : Nat → Nat → Bool) (kp : Nat → Bool) (kb : Nat → Nat) (KS : Nat → Nat → Nat → Bool) (hA : AdOK L M A) (hN : NmW cy L f0 M A base SS kp kb KS) (to fr w v : Int32) : Met l yX5_shrink (.code yX5_shrink cX5_shrink 5 (Option.some FieldType.int) :: wsL_law) { frames := 6, cells := 4, slots := 331, locals := 128 } (va_Pc [.ref (A 0), .int to, .int fr, .int w, .int v] (PW D cy L f0 sz)) (va_Qi (fun (r : Int32) (u : List Nat × (Nat → va_E)) => (∀ b ∈ L, b ∈ u.1) ∧ (∀ b ∈ L, (∀ i, i < 12 → b ≠ A i) → u.2 b = f0 b) ∧ ∃ SS2, NmW cy u.1 u.2 M A base SS2 kp kb KS ∧ sp_un base SS SS2 to fr (i32in w (nI 1) (nI 12) && i32in v 0 (nI 20)) (fun S => skD S (ix w) (ix v)) r) (PB D (AW L sz)) (AW L sz)) 4 331 (AW L sz) := by
  refine m_start (by decide) (Nat.le_of_ble_eq_true rfl) ?_
  intro p e R Q s m args below meth c ls hsz hR hQ E hr hlk hnm hw hl
  have hl : lv_has ls 5 [(0, .ref (A 0)), (1, .int to), (2, .int fr), (3, .int w), (4, .int v)] := hl
  obtain ⟨H, hH⟩ : ∃ X, X = s.heap := ⟨_, rfl⟩
  obtain ⟨locs, hlocs⟩ : ∃ X : List Loc, X = [] := ⟨_, rfl⟩
  have hw0 := hw
  obtain ⟨hB, h_nm, ⟨sa, h_sl, hSl⟩, ⟨i1, i2, j1, j2, j3, j4, g, B0, G0, h_d, h_row, h_tr, h_rows, h_goes⟩, hRm⟩ := hN
  have hb2 := hB.two
  obtain ⟨f, hf0⟩ : ∃ X, X = f0 := ⟨_, rfl⟩
  rw [← hf0] at h_nm h_sl h_d h_row h_tr h_rows h_goes
  have hw : WW D (AW L sz) s.heap L f H locs := by rw [hH, hlocs, hf0]; exact hw
  have hF : ∀ b ∈ L, b ≠ (A 1) → b ≠ (A 3) → b ≠ (A 4) → b ≠ (A 5) → b ≠ (A 6) → b ≠ (A 7) → f b = f0 b := fun b hb h0 h1 h2 h3 h4 h5 => by rw [hf0]
  suffices hgo : W p l e R s m args below meth c H locs 0 0 Q (F0 m 0 ls []) by rw [hH, hlocs] at hgo; exact hgo
  clear hH hlocs hw0 hf0
  have hLs : ∀ b ∈ L, b ∈ L := fun _ h => h
  have n_nm_sl : A 0 ≠ A 1 := h_nm.ne h_sl (by simp)
  have n_nm_d : A 0 ≠ A 3 := h_nm.ne h_d (by simp)
  have n_nm_row : A 0 ≠ A 4 := h_nm.ne h_row (by simp)
  have n_nm_tr : A 0 ≠ A 5 := h_nm.ne h_tr (by simp)
  have n_nm_rows : A 0 ≠ A 6 := h_nm.ne h_rows (by simp)
  have n_nm_goes : A 0 ≠ A 7 := h_nm.ne h_goes (by simp)
  have n_sl_d : A 1 ≠ A 3 := h_sl.ne h_d (by simp)
  have n_sl_row : A 1 ≠ A 4 := h_sl.ne h_row (by simp)
  have n_sl_tr : A 1 ≠ A 5 := h_sl.ne h_tr (by simp)
  have n_sl_rows : A 1 ≠ A 6 := h_sl.ne h_rows (by simp)
  have n_sl_goes : A 1 ≠ A 7 := h_sl.ne h_goes (by simp)
  have n_d_sl : A 3 ≠ A 1 := h_d.ne h_sl (by simp)
  have n_d_row : A 3 ≠ A 4 := h_d.ne h_row (by simp)
  have n_d_tr : A 3 ≠ A 5 := h_d.ne h_tr (by simp)
  have n_d_rows : A 3 ≠ A 6 := h_d.ne h_rows (by simp)
  have n_d_goes : A 3 ≠ A 7 := h_d.ne h_goes (by simp)
  have n_row_sl : A 4 ≠ A 1 := h_row.ne h_sl (by simp)
  have n_row_d : A 4 ≠ A 3 := h_row.ne h_d (by simp)
  have n_row_tr : A 4 ≠ A 5 := h_row.ne h_tr (by simp)
  have n_row_rows : A 4 ≠ A 6 := h_row.ne h_rows (by simp)
  have n_row_goes : A 4 ≠ A 7 := h_row.ne h_goes (by simp)
  have n_tr_sl : A 5 ≠ A 1 := h_tr.ne h_sl (by simp)
  have n_tr_d : A 5 ≠ A 3 := h_tr.ne h_d (by simp)
  have n_tr_row : A 5 ≠ A 4 := h_tr.ne h_row (by simp)
  have n_tr_rows : A 5 ≠ A 6 := h_tr.ne h_rows (by simp)
  have n_tr_goes : A 5 ≠ A 7 := h_tr.ne h_goes (by simp)
  have n_rows_sl : A 6 ≠ A 1 := h_rows.ne h_sl (by simp)
  have n_rows_d : A 6 ≠ A 3 := h_rows.ne h_d (by simp)
  have n_rows_row : A 6 ≠ A 4 := h_rows.ne h_row (by simp)
  have n_rows_tr : A 6 ≠ A 5 := h_rows.ne h_tr (by simp)
  have n_rows_goes : A 6 ≠ A 7 := h_rows.ne h_goes (by simp)
  have n_goes_sl : A 7 ≠ A 1 := h_goes.ne h_sl (by simp)
  have n_goes_d : A 7 ≠ A 3 := h_goes.ne h_d (by simp)
  have n_goes_row : A 7 ≠ A 4 := h_goes.ne h_row (by simp)
  have n_goes_tr : A 7 ≠ A 5 := h_goes.ne h_tr (by simp)
  have n_goes_rows : A 7 ≠ A 6 := h_goes.ne h_rows (by simp)
  refine lv_aload_n E.1.1 E.1.2.1 dX5_shrink_0 rfl (lv_at hl 0 rfl) ?_
  refine lv_iload_n E.1.1 E.1.2.1 dX5_shrink_1 rfl (lv_at hl 1 rfl) ?_
  refine k_ri (va_runV (As := [.int to]) (rest := []) E.1 (c_unknown l D cy L f H.size (A 0) (A 1) (A 2) (A 3) (A 5) base sa to h_nm h_sl) ⟨callB_of 1 E.1.2.2.2.2 (gd_own w2_18) rfl rfl rfl (E.1.2.2.2.2 _ w1_1) (E.1.2.2.2.2 _ w2_15) hd_X5_unknown (by rw [hR]; exact ⟨Nat.le_of_ble_eq_true rfl, Nat.le_of_ble_eq_true rfl⟩), E.1.2.2.2.2 _ w2_17, E.1.2.2.2.2 _ ws_9⟩ (pw_preV (q := (RX5, TX5, 5)) E.2 hw h_nm rfl) rfl rfl hl.1 rfl (lv_room (Nat.le_of_ble_eq_true rfl)) dX5_shrink_2 ⟨Nat.zero_le _, Nat.zero_le _⟩) ?_
  refine k_if1 (tgt := 16) E dX5_shrink_5 (by decide) (fun c5 => ?_) (fun c5 => ?_)
  · refine lv_iconst (v := -1) E.1.1 E.1.2.1 dX5_shrink_16 rfl ?_
    exact k_miret E hQ hlk hr hw (Nat.le_of_ble_eq_true rfl) (Nat.le_of_ble_eq_true rfl) (⟨hLs, fun b hb h => hF b hb (h 1 (by decide)) (h 3 (by decide)) (h 4 (by decide)) (h 5 (by decide)) (h 6 (by decide)) (h 7 (by decide)), SS, fin_keep hA hB hSl hRm hLs hF h_nm ⟨_, _, _, _, _, _, _, _, _, h_d, h_row, h_tr, h_rows, h_goes⟩ h_sl, sp_un_1 (Or.inl (nb c5))⟩) dX5_shrink_17
  · obtain ⟨j, hj, rfl⟩ := inS_ex c5
    refine lv_aload_n E.1.1 E.1.2.1 dX5_shrink_8 rfl (lv_at hl 0 rfl) ?_
    refine lv_iload_n E.1.1 E.1.2.1 dX5_shrink_9 rfl (lv_at hl 2 rfl) ?_
    refine k_ri (va_runV (As := [.int fr]) (rest := []) E.1 (c_unknown l D cy L f H.size (A 0) (A 1) (A 2) (A 3) (A 5) base sa fr h_nm h_sl) ⟨callB_of 1 E.1.2.2.2.2 (gd_own w2_18) rfl rfl rfl (E.1.2.2.2.2 _ w1_1) (E.1.2.2.2.2 _ w2_15) hd_X5_unknown (by rw [hR]; exact ⟨Nat.le_of_ble_eq_true rfl, Nat.le_of_ble_eq_true rfl⟩), E.1.2.2.2.2 _ w2_17, E.1.2.2.2.2 _ ws_9⟩ (pw_preV (q := (RX5, TX5, 5)) E.2 hw h_nm rfl) rfl rfl hl.1 rfl (lv_room (Nat.le_of_ble_eq_true rfl)) dX5_shrink_10 ⟨Nat.zero_le _, Nat.zero_le _⟩) ?_
    refine k_if0 (tgt := 18) E dX5_shrink_13 (by decide) (fun c13 => ?_) (fun c13 => ?_)
    · obtain ⟨x1, hx1, rfl⟩ := inS_ex c13
      refine lv_iload_n E.1.1 E.1.2.1 dX5_shrink_18 rfl (lv_at hl 3 rfl) ?_
      refine lv_iconst (v := nI 1) E.1.1 E.1.2.1 dX5_shrink_19 rfl ?_
      refine lv_bipush (v := nI 12) E.1.1 E.1.2.1 dX5_shrink_20 rfl ?_
      refine k_ri (va_runS (As := [.int w, .int (nI 1), .int (nI 12)]) (rest := []) E.1 (c_within l D cy L f H.size w (nI 1) (nI 12)) ⟨callB_of 3 E.1.2.2.2.2 (gd_own w2_21) rfl rfl rfl (E.1.2.2.2.2 _ w1_1) (E.1.2.2.2.2 _ w2_19) hd_X5_within (by rw [hR]; exact ⟨Nat.le_of_ble_eq_true rfl, Nat.le_of_ble_eq_true rfl⟩), E.1.2.2.2.2 _ w2_20⟩ (pw_pre E.2 hw) rfl rfl hl.1 rfl (lv_room (Nat.le_of_ble_eq_true rfl)) dX5_shrink_22 ⟨Nat.zero_le _, Nat.zero_le _⟩) ?_
      refine k_if0 (tgt := 39) E dX5_shrink_25 (by decide) (fun c25 => ?_) (fun c25 => ?_)
      · refine lv_bipush (v := -2) E.1.1 E.1.2.1 dX5_shrink_39 rfl ?_
        exact k_miret E hQ hlk hr hw (Nat.le_of_ble_eq_true rfl) (Nat.le_of_ble_eq_true rfl) (⟨hLs, fun b hb h => hF b hb (h 1 (by decide)) (h 3 (by decide)) (h 4 (by decide)) (h 5 (by decide)) (h 6 (by decide)) (h 7 (by decide)), SS, fin_keep hA hB hSl hRm hLs hF h_nm ⟨_, _, _, _, _, _, _, _, _, h_d, h_row, h_tr, h_rows, h_goes⟩ h_sl, sp_un_2 hj hx1 (by rw [c25]; rfl)⟩) dX5_shrink_41
      · refine lv_iload E.1.1 E.1.2.1 dX5_shrink_28 (lv_at hl 4 rfl) ?_
        refine lv_iconst (v := nI 0) E.1.1 E.1.2.1 dX5_shrink_30 rfl ?_
        refine lv_bipush (v := nI 20) E.1.1 E.1.2.1 dX5_shrink_31 rfl ?_
        refine k_ri (va_runS (As := [.int v, .int (nI 0), .int (nI 20)]) (rest := []) E.1 (c_within l D cy L f H.size v (nI 0) (nI 20)) ⟨callB_of 3 E.1.2.2.2.2 (gd_own w2_21) rfl rfl rfl (E.1.2.2.2.2 _ w1_1) (E.1.2.2.2.2 _ w2_19) hd_X5_within (by rw [hR]; exact ⟨Nat.le_of_ble_eq_true rfl, Nat.le_of_ble_eq_true rfl⟩), E.1.2.2.2.2 _ w2_20⟩ (pw_pre E.2 hw) rfl rfl hl.1 rfl (lv_room (Nat.le_of_ble_eq_true rfl)) dX5_shrink_33 ⟨Nat.zero_le _, Nat.zero_le _⟩) ?_
        refine k_if1 (tgt := 42) E dX5_shrink_36 (by decide) (fun c36 => ?_) (fun c36 => ?_)
        · obtain ⟨w1, hw1, hw2, rfl⟩ := in_ex1 (by decide) c25 (by decide)
          obtain ⟨v1, hv1, rfl⟩ := in_ex (by decide) c36
          obtain ⟨t, per, b, n, hS, hMc, rw, mc, gs, m1, m2, m3, m4, h_a, h_rw, h_mc, h_gs⟩ := hSl x1 (by omega)
          have ht := hS.2.2.1
          have hper := hS.1.1
          have hperx := hS.2.1
          have hden : den t per b = SS x1 := funext (fun n => (hS.den n).symm)
          have h_a := h_a.keep hLs (hF _ h_a.1 (hA.out m1 (by decide)) (hA.out m1 (by decide)) (hA.out m1 (by decide)) (hA.out m1 (by decide)) (hA.out m1 (by decide)) (hA.out m1 (by decide)))
          have n_a_sl : sa x1 ≠ A 1 := hA.out m1 (by decide)
          have n_a_d : sa x1 ≠ A 3 := hA.out m1 (by decide)
          have n_a_row : sa x1 ≠ A 4 := hA.out m1 (by decide)
          have n_a_tr : sa x1 ≠ A 5 := hA.out m1 (by decide)
          have n_a_rows : sa x1 ≠ A 6 := hA.out m1 (by decide)
          have n_a_goes : sa x1 ≠ A 7 := hA.out m1 (by decide)
          have h_rw := h_rw.keep hLs (hF _ h_rw.1 (hA.out m2 (by decide)) (hA.out m2 (by decide)) (hA.out m2 (by decide)) (hA.out m2 (by decide)) (hA.out m2 (by decide)) (hA.out m2 (by decide)))
          have n_rw_sl : rw ≠ A 1 := hA.out m2 (by decide)
          have n_rw_d : rw ≠ A 3 := hA.out m2 (by decide)
          have n_rw_row : rw ≠ A 4 := hA.out m2 (by decide)
          have n_rw_tr : rw ≠ A 5 := hA.out m2 (by decide)
          have n_rw_rows : rw ≠ A 6 := hA.out m2 (by decide)
          have n_rw_goes : rw ≠ A 7 := hA.out m2 (by decide)
          have hwt : w1 * t ≤ 12 * 120 := Nat.mul_le_mul hw2 ht
          have hwp : w1 * per ≤ 12 * 60 := Nat.mul_le_mul hw2 hperx
          have hwp0 : 0 < w1 * per := Nat.mul_pos (by omega) hper
          refine lv_aload_n E.1.1 E.1.2.1 dX5_shrink_42 rfl (lv_at hl 0 rfl) ?_
          refine lv_aload_n E.1.1 E.1.2.1 dX5_shrink_43 rfl (lv_at hl 0 rfl) ?_
          refine k_get (v := .ref (A 1)) E inlX5 rfl 0 (by decide) w1_231 rfl hw h_nm rfl dX5_shrink_44 ?_
          refine lv_iload_n E.1.1 E.1.2.1 dX5_shrink_47 rfl (lv_at hl 2 rfl) ?_
          refine k_aald E hw 4 (r := sa x1) h_sl rfl (by omega) (by omega) (rfl) dX5_shrink_48 ?_
          refine lv_iload_n E.1.1 E.1.2.1 dX5_shrink_49 rfl (lv_at hl 3 rfl) ?_
          refine lv_iload E.1.1 E.1.2.1 dX5_shrink_50 (lv_at hl 4 rfl) ?_
          refine k_mv hw (va_runV (As := [.ref (sa x1), .int (nI w1), .int (nI v1)]) (rest := []) E.1 (c_draftShrink l D cy L f H.size (A 0) (A 1) (A 2) (A 3) (A 5) base (A 4) i1 i2 g (sa x1) rw mc t per w1 v1 b ht hper hperx (by omega) (by omega) (by omega) h_nm h_d h_row h_a h_rw) ⟨callB_of 3 E.1.2.2.2.2 (gd_own w2_99) rfl rfl rfl (E.1.2.2.2.2 _ w1_1) (E.1.2.2.2.2 _ w2_96) hd_X5_draftShrink (by rw [hR]; exact ⟨Nat.le_of_ble_eq_true rfl, Nat.le_of_ble_eq_true rfl⟩), E.1.2.2.2.2 _ w2_98, E.1.2.2.2.2 _ ws_16⟩ (pw_preV (q := (RX5, TX5, 5)) E.2 hw h_nm rfl) rfl rfl hl.1 rfl (lv_room (Nat.le_of_ble_eq_true rfl)) dX5_shrink_52 (by rw [hR]; exact ⟨Nat.le_of_ble_eq_true rfl, Nat.le_of_ble_eq_true rfl⟩)) (fun L1 f H locs hp hw => ?_)
          obtain ⟨hL1, hfr, h_d, h_row⟩ := hp
          have hL1 : L = L1 := hL1
          subst hL1
          have h_d : cel L f (A 3) (.inr (0, [.ref (A 4), .int (nI (t)), .int (nI (per))])) := h_d
          have h_row : cel L f (A 4) (.inl (cy 1, 59, .inr (.inl (wd (rb (skD (den t per b) w1 v1) (t + per)))))) := h_row
          have h_nm := h_nm.keep (fun _ h => h) (hfr _ h_nm.1 n_nm_d n_nm_row)
          have h_sl := h_sl.keep (fun _ h => h) (hfr _ h_sl.1 n_sl_d n_sl_row)
          have h_tr := h_tr.keep (fun _ h => h) (hfr _ h_tr.1 n_tr_d n_tr_row)
          have h_rows := h_rows.keep (fun _ h => h) (hfr _ h_rows.1 n_rows_d n_rows_row)
          have h_goes := h_goes.keep (fun _ h => h) (hfr _ h_goes.1 n_goes_d n_goes_row)
          have h_a := h_a.keep (fun _ h => h) (hfr _ h_a.1 n_a_d n_a_row)
          have h_rw := h_rw.keep (fun _ h => h) (hfr _ h_rw.1 n_rw_d n_rw_row)
          have hF : ∀ b ∈ L, b ≠ (A 1) → b ≠ (A 3) → b ≠ (A 4) → b ≠ (A 5) → b ≠ (A 6) → b ≠ (A 7) → f b = f0 b := fun b hb h0 h1 h2 h3 h4 h5 => (hfr b (hLs b hb) h1 h2).trans (hF b hb h0 h1 h2 h3 h4 h5)
          refine lv_aload_n E.1.1 E.1.2.1 dX5_shrink_55 rfl (lv_at hl 0 rfl) ?_
          refine lv_iload_n E.1.1 E.1.2.1 dX5_shrink_56 rfl (lv_at hl 1 rfl) ?_
          refine k_mi hw (va_runV (As := [.int (nI j)]) (rest := []) E.1 (c_hold l D cy L f H.size (A 0) (A 1) (A 2) (A 3) (A 4) (A 5) (A 6) (A 7) base (t) (per) j M j1 j2 j3 j4 (rb (skD (den t per b) w1 v1) (t + per)) B0 G0 sa (by omega) (by omega) (by omega) (by omega) hA.2.2 (by omega) (hA.1 1 (by decide)) h_nm h_sl h_d h_row h_tr h_rows h_goes) ⟨callB_of 1 E.1.2.2.2.2 (gd_own w2_36) rfl rfl rfl (E.1.2.2.2.2 _ w1_1) (E.1.2.2.2.2 _ w2_33) hd_X5_hold (by rw [hR]; exact ⟨Nat.le_of_ble_eq_true rfl, Nat.le_of_ble_eq_true rfl⟩), E.1.2.2.2.2 _ w2_35, E.1.2.2.2.2 _ ws_11⟩ (pw_preV (q := (RX5, TX5, 5)) E.2 hw h_nm rfl) rfl rfl hl.1 rfl (lv_room (Nat.le_of_ble_eq_true rfl)) dX5_shrink_57 (by rw [hR]; exact ⟨Nat.le_of_ble_eq_true rfl, Nat.le_of_ble_eq_true rfl⟩)) (fun r L77 f H locs hp hw => ?_)
          refine W.cs (cells' := 4) (slots' := 331) rfl rfl ?_
          obtain ⟨hLn, hfr, hScr, hcase⟩ := hp
          dsimp only at hLn hfr hScr hcase
          have h_nm := h_nm.keep hLn (hfr _ h_nm.1 n_nm_sl n_nm_d n_nm_row n_nm_tr n_nm_rows n_nm_goes)
          have hF : ∀ b ∈ L, b ≠ (A 1) → b ≠ (A 3) → b ≠ (A 4) → b ≠ (A 5) → b ≠ (A 6) → b ≠ (A 7) → f b = f0 b := fun b hb h0 h1 h2 h3 h4 h5 => (hfr b (hLs b hb) h0 h1 h2 h3 h4 h5).trans (hF b hb h0 h1 h2 h3 h4 h5)
          have hLs : ∀ b ∈ L, b ∈ L77 := fun b hb => hLn b (hLs b hb)
          exact k_miret E hQ hlk hr hw (Nat.le_of_ble_eq_true rfl) (Nat.le_of_ble_eq_true rfl) (⟨hLs, fun b hb h => hF b hb (h 1 (by decide)) (h 3 (by decide)) (h 4 (by decide)) (h 5 (by decide)) (h 6 (by decide)) (h 7 (by decide)), by
      obtain ⟨SS2, hW2, hH⟩ := fin_hold (X := skD (SS x1) w1 v1) (by rw [den_rb (by omega) (skD_ev (by omega) (den_ev b hper))]; rw [hden]) hA hB hSl hRm hLs hF h_nm hScr hcase
      exact ⟨SS2, hW2, sp_un_ok hj hx1 (by rw [c25, show i32in (nI v1) 0 (nI 20) = true from c36]; rfl) (by rw [ix_nI (by omega), ix_nI (by omega)]; exact hH)⟩⟩) dX5_shrink_60
        · refine lv_bipush (v := -2) E.1.1 E.1.2.1 dX5_shrink_39 rfl ?_
          exact k_miret E hQ hlk hr hw (Nat.le_of_ble_eq_true rfl) (Nat.le_of_ble_eq_true rfl) (⟨hLs, fun b hb h => hF b hb (h 1 (by decide)) (h 3 (by decide)) (h 4 (by decide)) (h 5 (by decide)) (h 6 (by decide)) (h 7 (by decide)), SS, fin_keep hA hB hSl hRm hLs hF h_nm ⟨_, _, _, _, _, _, _, _, _, h_d, h_row, h_tr, h_rows, h_goes⟩ h_sl, sp_un_2 hj hx1 (by rw [show i32in v 0 (nI 20) = false from c36, Bool.and_false])⟩) dX5_shrink_41
    · refine lv_iconst (v := -1) E.1.1 E.1.2.1 dX5_shrink_16 rfl ?_
      exact k_miret E hQ hlk hr hw (Nat.le_of_ble_eq_true rfl) (Nat.le_of_ble_eq_true rfl) (⟨hLs, fun b hb h => hF b hb (h 1 (by decide)) (h 3 (by decide)) (h 4 (by decide)) (h 5 (by decide)) (h 6 (by decide)) (h 7 (by decide)), SS, fin_keep hA hB hSl hRm hLs hF h_nm ⟨_, _, _, _, _, _, _, _, _, h_d, h_row, h_tr, h_rows, h_goes⟩ h_sl, sp_un_1 (Or.inr (nb c13))⟩) dX5_shrink_17

set_option maxHeartbeats 4000000 in
set_option maxRecDepth 100000 in
theorem p_put0 (l : Launch) (D : va_G) (cy : Nat → ClassId) (L : List Nat) (f0 : Nat → va_E) (sz : Nat) (M : List Nat) (A : Nat → Nat) (base : Nat) (SS : Nat → Nat → Bool) (kp : Nat → Bool) (kb : Nat → Nat) (KS : Nat → Nat → Nat → Bool) (hA : AdOK L M A) (hN : NmW cy L f0 M A base SS kp kb KS) (to : Int32) (a m0 : Int32) : Met l yX5_put (.code yX5_put cX5_put 5 (Option.some FieldType.int) :: wsL_law) { frames := 6, cells := 4, slots := 331, locals := 128 } (va_Pc [.ref (A 0), .int to, .int (nI 0), .int a, .int m0] (PW D cy L f0 sz)) (va_Qi (fun (r : Int32) (u : List Nat × (Nat → va_E)) => (∀ b ∈ L, b ∈ u.1) ∧ (∀ b ∈ L, (∀ i, i < 12 → b ≠ A i) → u.2 b = f0 b) ∧ ∃ SS2, NmW cy u.1 u.2 M A base SS2 kp kb KS ∧ sp_put base SS SS2 to (nI 0) a m0 r) (PB D (AW L sz)) (AW L sz)) 4 331 (AW L sz) := by
  refine m_start (by decide) (Nat.le_of_ble_eq_true rfl) ?_
  intro p e R Q s m args below meth c ls hsz hR hQ E hr hlk hnm hw hl
  have hl : lv_has ls 5 [(0, .ref (A 0)), (1, .int to), (2, .int (nI 0)), (3, .int a), (4, .int m0)] := hl
  obtain ⟨H, hH⟩ : ∃ X, X = s.heap := ⟨_, rfl⟩
  obtain ⟨locs, hlocs⟩ : ∃ X : List Loc, X = [] := ⟨_, rfl⟩
  have hw0 := hw
  obtain ⟨hB, h_nm, ⟨sa, h_sl, hSl⟩, ⟨i1, i2, j1, j2, j3, j4, g, B0, G0, h_d, h_row, h_tr, h_rows, h_goes⟩, hRm⟩ := hN
  have hb2 := hB.two
  obtain ⟨f, hf0⟩ : ∃ X, X = f0 := ⟨_, rfl⟩
  rw [← hf0] at h_nm h_sl h_d h_row h_tr h_rows h_goes
  have hw : WW D (AW L sz) s.heap L f H locs := by rw [hH, hlocs, hf0]; exact hw
  have hF : ∀ b ∈ L, b ≠ (A 1) → b ≠ (A 3) → b ≠ (A 4) → b ≠ (A 5) → b ≠ (A 6) → b ≠ (A 7) → f b = f0 b := fun b hb h0 h1 h2 h3 h4 h5 => by rw [hf0]
  suffices hgo : W p l e R s m args below meth c H locs 0 0 Q (F0 m 0 ls []) by rw [hH, hlocs] at hgo; exact hgo
  clear hH hlocs hw0 hf0
  have hLs : ∀ b ∈ L, b ∈ L := fun _ h => h
  have n_nm_sl : A 0 ≠ A 1 := h_nm.ne h_sl (by simp)
  have n_nm_d : A 0 ≠ A 3 := h_nm.ne h_d (by simp)
  have n_nm_row : A 0 ≠ A 4 := h_nm.ne h_row (by simp)
  have n_nm_tr : A 0 ≠ A 5 := h_nm.ne h_tr (by simp)
  have n_nm_rows : A 0 ≠ A 6 := h_nm.ne h_rows (by simp)
  have n_nm_goes : A 0 ≠ A 7 := h_nm.ne h_goes (by simp)
  have n_sl_d : A 1 ≠ A 3 := h_sl.ne h_d (by simp)
  have n_sl_row : A 1 ≠ A 4 := h_sl.ne h_row (by simp)
  have n_sl_tr : A 1 ≠ A 5 := h_sl.ne h_tr (by simp)
  have n_sl_rows : A 1 ≠ A 6 := h_sl.ne h_rows (by simp)
  have n_sl_goes : A 1 ≠ A 7 := h_sl.ne h_goes (by simp)
  have n_d_sl : A 3 ≠ A 1 := h_d.ne h_sl (by simp)
  have n_d_row : A 3 ≠ A 4 := h_d.ne h_row (by simp)
  have n_d_tr : A 3 ≠ A 5 := h_d.ne h_tr (by simp)
  have n_d_rows : A 3 ≠ A 6 := h_d.ne h_rows (by simp)
  have n_d_goes : A 3 ≠ A 7 := h_d.ne h_goes (by simp)
  have n_row_sl : A 4 ≠ A 1 := h_row.ne h_sl (by simp)
  have n_row_d : A 4 ≠ A 3 := h_row.ne h_d (by simp)
  have n_row_tr : A 4 ≠ A 5 := h_row.ne h_tr (by simp)
  have n_row_rows : A 4 ≠ A 6 := h_row.ne h_rows (by simp)
  have n_row_goes : A 4 ≠ A 7 := h_row.ne h_goes (by simp)
  have n_tr_sl : A 5 ≠ A 1 := h_tr.ne h_sl (by simp)
  have n_tr_d : A 5 ≠ A 3 := h_tr.ne h_d (by simp)
  have n_tr_row : A 5 ≠ A 4 := h_tr.ne h_row (by simp)
  have n_tr_rows : A 5 ≠ A 6 := h_tr.ne h_rows (by simp)
  have n_tr_goes : A 5 ≠ A 7 := h_tr.ne h_goes (by simp)
  have n_rows_sl : A 6 ≠ A 1 := h_rows.ne h_sl (by simp)
  have n_rows_d : A 6 ≠ A 3 := h_rows.ne h_d (by simp)
  have n_rows_row : A 6 ≠ A 4 := h_rows.ne h_row (by simp)
  have n_rows_tr : A 6 ≠ A 5 := h_rows.ne h_tr (by simp)
  have n_rows_goes : A 6 ≠ A 7 := h_rows.ne h_goes (by simp)
  have n_goes_sl : A 7 ≠ A 1 := h_goes.ne h_sl (by simp)
  have n_goes_d : A 7 ≠ A 3 := h_goes.ne h_d (by simp)
  have n_goes_row : A 7 ≠ A 4 := h_goes.ne h_row (by simp)
  have n_goes_tr : A 7 ≠ A 5 := h_goes.ne h_tr (by simp)
  have n_goes_rows : A 7 ≠ A 6 := h_goes.ne h_rows (by simp)
  refine lv_aload_n E.1.1 E.1.2.1 dX5_put_0 rfl (lv_at hl 0 rfl) ?_
  refine lv_iload_n E.1.1 E.1.2.1 dX5_put_1 rfl (lv_at hl 1 rfl) ?_
  refine k_ri (va_runV (As := [.int to]) (rest := []) E.1 (c_unknown l D cy L f H.size (A 0) (A 1) (A 2) (A 3) (A 5) base sa to h_nm h_sl) ⟨callB_of 1 E.1.2.2.2.2 (gd_own w2_18) rfl rfl rfl (E.1.2.2.2.2 _ w1_1) (E.1.2.2.2.2 _ w2_15) hd_X5_unknown (by rw [hR]; exact ⟨Nat.le_of_ble_eq_true rfl, Nat.le_of_ble_eq_true rfl⟩), E.1.2.2.2.2 _ w2_17, E.1.2.2.2.2 _ ws_9⟩ (pw_preV (q := (RX5, TX5, 5)) E.2 hw h_nm rfl) rfl rfl hl.1 rfl (lv_room (Nat.le_of_ble_eq_true rfl)) dX5_put_2 ⟨Nat.zero_le _, Nat.zero_le _⟩) ?_
  refine k_if0 (tgt := 10) E dX5_put_5 (by decide) (fun c5 => ?_) (fun c5 => ?_)
  · obtain ⟨j, hj, rfl⟩ := inS_ex c5
    refine lv_iload_n E.1.1 E.1.2.1 dX5_put_10 rfl (lv_at hl 2 rfl) ?_
    refine lv_iconst (v := nI 0) E.1.1 E.1.2.1 dX5_put_11 rfl ?_
    refine lv_iconst (v := nI 4) E.1.1 E.1.2.1 dX5_put_12 rfl ?_
    refine k_ri (va_runS (As := [.int (nI 0), .int (nI 0), .int (nI 4)]) (rest := []) E.1 (c_within l D cy L f H.size (nI 0) (nI 0) (nI 4)) ⟨callB_of 3 E.1.2.2.2.2 (gd_own w2_21) rfl rfl rfl (E.1.2.2.2.2 _ w1_1) (E.1.2.2.2.2 _ w2_19) hd_X5_within (by rw [hR]; exact ⟨Nat.le_of_ble_eq_true rfl, Nat.le_of_ble_eq_true rfl⟩), E.1.2.2.2.2 _ w2_20⟩ (pw_pre E.2 hw) rfl rfl hl.1 rfl (lv_room (Nat.le_of_ble_eq_true rfl)) dX5_put_13 ⟨Nat.zero_le _, Nat.zero_le _⟩) ?_
    refine k_if1 (tgt := 22) E dX5_put_16 (by decide) (fun c16 => ?_) (fun c16 => absurd (show i32in (nI 0) 0 (nI 4) = false from c16) (by rw [in_t (by decide) (by decide)]; decide))
    refine lv_iload_n E.1.1 E.1.2.1 dX5_put_22 rfl (lv_at hl 2 rfl) ?_
    refine lv_iconst (v := nI 3) E.1.1 E.1.2.1 dX5_put_23 rfl ?_
    refine k_eq (tgt := 45) E dX5_put_24 (by decide) (by omega) (by omega) (fun c24 => absurd c24 (by decide)) (fun c24 => ?_)
    refine lv_iload_n E.1.1 E.1.2.1 dX5_put_27 rfl (lv_at hl 2 rfl) ?_
    refine lv_iconst (v := nI 4) E.1.1 E.1.2.1 dX5_put_28 rfl ?_
    refine k_eq (tgt := 45) E dX5_put_29 (by decide) (by omega) (by omega) (fun c29 => absurd c29 (by decide)) (fun c29 => ?_)
    refine lv_iload_n E.1.1 E.1.2.1 dX5_put_32 rfl (lv_at hl 3 rfl) ?_
    refine lv_iconst (v := nI 0) E.1.1 E.1.2.1 dX5_put_33 rfl ?_
    refine lv_bipush (v := nI 100) E.1.1 E.1.2.1 dX5_put_34 rfl ?_
    refine k_ri (va_runS (As := [.int a, .int (nI 0), .int (nI 100)]) (rest := []) E.1 (c_within l D cy L f H.size a (nI 0) (nI 100)) ⟨callB_of 3 E.1.2.2.2.2 (gd_own w2_21) rfl rfl rfl (E.1.2.2.2.2 _ w1_1) (E.1.2.2.2.2 _ w2_19) hd_X5_within (by rw [hR]; exact ⟨Nat.le_of_ble_eq_true rfl, Nat.le_of_ble_eq_true rfl⟩), E.1.2.2.2.2 _ w2_20⟩ (pw_pre E.2 hw) rfl rfl hl.1 rfl (lv_room (Nat.le_of_ble_eq_true rfl)) dX5_put_36 ⟨Nat.zero_le _, Nat.zero_le _⟩) ?_
    refine k_if1 (tgt := 45) E dX5_put_39 (by decide) (fun c39 => ?_) (fun c39 => ?_)
    · obtain ⟨a1, ha1, rfl⟩ := in_ex (by decide) c39
      refine lv_iload_n E.1.1 E.1.2.1 dX5_put_45 rfl (lv_at hl 2 rfl) ?_
      refine lv_iconst (v := nI 2) E.1.1 E.1.2.1 dX5_put_46 rfl ?_
      refine k_ne (tgt := 64) E dX5_put_47 (by decide) (by omega) (by omega) (fun c47 => ?_) (fun c47 => absurd c47 (by decide))
      refine lv_aload_n E.1.1 E.1.2.1 dX5_put_64 rfl (lv_at hl 0 rfl) ?_
      refine lv_iload_n E.1.1 E.1.2.1 dX5_put_65 rfl (lv_at hl 2 rfl) ?_
      refine lv_iload_n E.1.1 E.1.2.1 dX5_put_66 rfl (lv_at hl 3 rfl) ?_
      refine lv_iload E.1.1 E.1.2.1 dX5_put_67 (lv_at hl 4 rfl) ?_
      refine k_mv hw (va_runV (As := [.int (nI 0), .int (nI a1), .int m0]) (rest := []) E.1 (c_draftKind0 l D cy L f H.size (A 0) (A 1) (A 2) (A 3) (A 5) base (A 4) a1 i1 i2 g (ix m0) m0 (by omega) h_nm h_d h_row) ⟨callB_of 3 E.1.2.2.2.2 (gd_own w2_25) rfl rfl rfl (E.1.2.2.2.2 _ w1_1) (E.1.2.2.2.2 _ w2_22) hd_X5_draftKind (by rw [hR]; exact ⟨Nat.le_of_ble_eq_true rfl, Nat.le_of_ble_eq_true rfl⟩), E.1.2.2.2.2 _ w2_24, E.1.2.2.2.2 _ ws_10⟩ (pw_preV (q := (RX5, TX5, 5)) E.2 hw h_nm rfl) rfl rfl hl.1 rfl (lv_room (Nat.le_of_ble_eq_true rfl)) dX5_put_69 (by rw [hR]; exact ⟨Nat.le_of_ble_eq_true rfl, Nat.le_of_ble_eq_true rfl⟩)) (fun L1 f H locs hp hw => ?_)
      obtain ⟨hL1, hfr, h_d, h_row⟩ := hp
      have hL1 : L = L1 := hL1
      subst hL1
      have h_d : cel L f (A 3) (.inr (0, [.ref (A 4), .int (nI (a1 + 1)), .int (nI (1))])) := h_d
      have h_row : cel L f (A 4) (.inl (cy 1, 59, .inr (.inl (wd (rb (kd 0 a1 (ix m0)) (a1 + 1 + 1)))))) := h_row
      have h_nm := h_nm.keep (fun _ h => h) (hfr _ h_nm.1 n_nm_d n_nm_row)
      have h_sl := h_sl.keep (fun _ h => h) (hfr _ h_sl.1 n_sl_d n_sl_row)
      have h_tr := h_tr.keep (fun _ h => h) (hfr _ h_tr.1 n_tr_d n_tr_row)
      have h_rows := h_rows.keep (fun _ h => h) (hfr _ h_rows.1 n_rows_d n_rows_row)
      have h_goes := h_goes.keep (fun _ h => h) (hfr _ h_goes.1 n_goes_d n_goes_row)
      have hF : ∀ b ∈ L, b ≠ (A 1) → b ≠ (A 3) → b ≠ (A 4) → b ≠ (A 5) → b ≠ (A 6) → b ≠ (A 7) → f b = f0 b := fun b hb h0 h1 h2 h3 h4 h5 => (hfr b (hLs b hb) h1 h2).trans (hF b hb h0 h1 h2 h3 h4 h5)
      refine lv_aload_n E.1.1 E.1.2.1 dX5_put_72 rfl (lv_at hl 0 rfl) ?_
      refine lv_iload_n E.1.1 E.1.2.1 dX5_put_73 rfl (lv_at hl 1 rfl) ?_
      refine k_mi hw (va_runV (As := [.int (nI j)]) (rest := []) E.1 (c_hold l D cy L f H.size (A 0) (A 1) (A 2) (A 3) (A 4) (A 5) (A 6) (A 7) base (a1 + 1) (1) j M j1 j2 j3 j4 (rb (kd 0 a1 (ix m0)) (a1 + 1 + 1)) B0 G0 sa (by omega) (by omega) (by omega) (by omega) hA.2.2 (by omega) (hA.1 1 (by decide)) h_nm h_sl h_d h_row h_tr h_rows h_goes) ⟨callB_of 1 E.1.2.2.2.2 (gd_own w2_36) rfl rfl rfl (E.1.2.2.2.2 _ w1_1) (E.1.2.2.2.2 _ w2_33) hd_X5_hold (by rw [hR]; exact ⟨Nat.le_of_ble_eq_true rfl, Nat.le_of_ble_eq_true rfl⟩), E.1.2.2.2.2 _ w2_35, E.1.2.2.2.2 _ ws_11⟩ (pw_preV (q := (RX5, TX5, 5)) E.2 hw h_nm rfl) rfl rfl hl.1 rfl (lv_room (Nat.le_of_ble_eq_true rfl)) dX5_put_74 (by rw [hR]; exact ⟨Nat.le_of_ble_eq_true rfl, Nat.le_of_ble_eq_true rfl⟩)) (fun r L77 f H locs hp hw => ?_)
      refine W.cs (cells' := 4) (slots' := 331) rfl rfl ?_
      obtain ⟨hLn, hfr, hScr, hcase⟩ := hp
      dsimp only at hLn hfr hScr hcase
      have h_nm := h_nm.keep hLn (hfr _ h_nm.1 n_nm_sl n_nm_d n_nm_row n_nm_tr n_nm_rows n_nm_goes)
      have hF : ∀ b ∈ L, b ≠ (A 1) → b ≠ (A 3) → b ≠ (A 4) → b ≠ (A 5) → b ≠ (A 6) → b ≠ (A 7) → f b = f0 b := fun b hb h0 h1 h2 h3 h4 h5 => (hfr b (hLs b hb) h0 h1 h2 h3 h4 h5).trans (hF b hb h0 h1 h2 h3 h4 h5)
      have hLs : ∀ b ∈ L, b ∈ L77 := fun b hb => hLn b (hLs b hb)
      exact k_miret E hQ hlk hr hw (Nat.le_of_ble_eq_true rfl) (Nat.le_of_ble_eq_true rfl) (⟨hLs, fun b hb h => hF b hb (h 1 (by decide)) (h 3 (by decide)) (h 4 (by decide)) (h 5 (by decide)) (h 6 (by decide)) (h 7 (by decide)), by
      obtain ⟨SS2, hW2, hH⟩ := fin_hold (X := kd 0 a1 (ix m0)) (by rw [den_rb (by omega) (kd0_ev a1 (ix m0))]) hA hB hSl hRm hLs hF h_nm hScr hcase
      exact ⟨SS2, hW2, sp_put_ok hj (by decide) (fun _ => c39) (fun h => absurd h (by decide)) (by rw [ix_nI (by omega)]; exact hH)⟩⟩) dX5_put_77
    · refine lv_bipush (v := -2) E.1.1 E.1.2.1 dX5_put_42 rfl ?_
      exact k_miret E hQ hlk hr hw (Nat.le_of_ble_eq_true rfl) (Nat.le_of_ble_eq_true rfl) (⟨hLs, fun b hb h => hF b hb (h 1 (by decide)) (h 3 (by decide)) (h 4 (by decide)) (h 5 (by decide)) (h 6 (by decide)) (h 7 (by decide)), SS, fin_keep hA hB hSl hRm hLs hF h_nm ⟨_, _, _, _, _, _, _, _, _, h_d, h_row, h_tr, h_rows, h_goes⟩ h_sl, sp_put_2 hj (Or.inr (Or.inl ⟨by decide, c39⟩))⟩) dX5_put_44
  · refine lv_iconst (v := -1) E.1.1 E.1.2.1 dX5_put_8 rfl ?_
    exact k_miret E hQ hlk hr hw (Nat.le_of_ble_eq_true rfl) (Nat.le_of_ble_eq_true rfl) (⟨hLs, fun b hb h => hF b hb (h 1 (by decide)) (h 3 (by decide)) (h 4 (by decide)) (h 5 (by decide)) (h 6 (by decide)) (h 7 (by decide)), SS, fin_keep hA hB hSl hRm hLs hF h_nm ⟨_, _, _, _, _, _, _, _, _, h_d, h_row, h_tr, h_rows, h_goes⟩ h_sl, sp_put_1 (nb c5)⟩) dX5_put_9

set_option maxHeartbeats 4000000 in
set_option maxRecDepth 100000 in
theorem p_put1 (l : Launch) (D : va_G) (cy : Nat → ClassId) (L : List Nat) (f0 : Nat → va_E) (sz : Nat) (M : List Nat) (A : Nat → Nat) (base : Nat) (SS : Nat → Nat → Bool) (kp : Nat → Bool) (kb : Nat → Nat) (KS : Nat → Nat → Nat → Bool) (hA : AdOK L M A) (hN : NmW cy L f0 M A base SS kp kb KS) (to : Int32) (a m0 : Int32) : Met l yX5_put (.code yX5_put cX5_put 5 (Option.some FieldType.int) :: wsL_law) { frames := 6, cells := 4, slots := 331, locals := 128 } (va_Pc [.ref (A 0), .int to, .int (nI 1), .int a, .int m0] (PW D cy L f0 sz)) (va_Qi (fun (r : Int32) (u : List Nat × (Nat → va_E)) => (∀ b ∈ L, b ∈ u.1) ∧ (∀ b ∈ L, (∀ i, i < 12 → b ≠ A i) → u.2 b = f0 b) ∧ ∃ SS2, NmW cy u.1 u.2 M A base SS2 kp kb KS ∧ sp_put base SS SS2 to (nI 1) a m0 r) (PB D (AW L sz)) (AW L sz)) 4 331 (AW L sz) := by
  refine m_start (by decide) (Nat.le_of_ble_eq_true rfl) ?_
  intro p e R Q s m args below meth c ls hsz hR hQ E hr hlk hnm hw hl
  have hl : lv_has ls 5 [(0, .ref (A 0)), (1, .int to), (2, .int (nI 1)), (3, .int a), (4, .int m0)] := hl
  obtain ⟨H, hH⟩ : ∃ X, X = s.heap := ⟨_, rfl⟩
  obtain ⟨locs, hlocs⟩ : ∃ X : List Loc, X = [] := ⟨_, rfl⟩
  have hw0 := hw
  obtain ⟨hB, h_nm, ⟨sa, h_sl, hSl⟩, ⟨i1, i2, j1, j2, j3, j4, g, B0, G0, h_d, h_row, h_tr, h_rows, h_goes⟩, hRm⟩ := hN
  have hb2 := hB.two
  obtain ⟨f, hf0⟩ : ∃ X, X = f0 := ⟨_, rfl⟩
  rw [← hf0] at h_nm h_sl h_d h_row h_tr h_rows h_goes
  have hw : WW D (AW L sz) s.heap L f H locs := by rw [hH, hlocs, hf0]; exact hw
  have hF : ∀ b ∈ L, b ≠ (A 1) → b ≠ (A 3) → b ≠ (A 4) → b ≠ (A 5) → b ≠ (A 6) → b ≠ (A 7) → f b = f0 b := fun b hb h0 h1 h2 h3 h4 h5 => by rw [hf0]
  suffices hgo : W p l e R s m args below meth c H locs 0 0 Q (F0 m 0 ls []) by rw [hH, hlocs] at hgo; exact hgo
  clear hH hlocs hw0 hf0
  have hLs : ∀ b ∈ L, b ∈ L := fun _ h => h
  have n_nm_sl : A 0 ≠ A 1 := h_nm.ne h_sl (by simp)
  have n_nm_d : A 0 ≠ A 3 := h_nm.ne h_d (by simp)
  have n_nm_row : A 0 ≠ A 4 := h_nm.ne h_row (by simp)
  have n_nm_tr : A 0 ≠ A 5 := h_nm.ne h_tr (by simp)
  have n_nm_rows : A 0 ≠ A 6 := h_nm.ne h_rows (by simp)
  have n_nm_goes : A 0 ≠ A 7 := h_nm.ne h_goes (by simp)
  have n_sl_d : A 1 ≠ A 3 := h_sl.ne h_d (by simp)
  have n_sl_row : A 1 ≠ A 4 := h_sl.ne h_row (by simp)
  have n_sl_tr : A 1 ≠ A 5 := h_sl.ne h_tr (by simp)
  have n_sl_rows : A 1 ≠ A 6 := h_sl.ne h_rows (by simp)
  have n_sl_goes : A 1 ≠ A 7 := h_sl.ne h_goes (by simp)
  have n_d_sl : A 3 ≠ A 1 := h_d.ne h_sl (by simp)
  have n_d_row : A 3 ≠ A 4 := h_d.ne h_row (by simp)
  have n_d_tr : A 3 ≠ A 5 := h_d.ne h_tr (by simp)
  have n_d_rows : A 3 ≠ A 6 := h_d.ne h_rows (by simp)
  have n_d_goes : A 3 ≠ A 7 := h_d.ne h_goes (by simp)
  have n_row_sl : A 4 ≠ A 1 := h_row.ne h_sl (by simp)
  have n_row_d : A 4 ≠ A 3 := h_row.ne h_d (by simp)
  have n_row_tr : A 4 ≠ A 5 := h_row.ne h_tr (by simp)
  have n_row_rows : A 4 ≠ A 6 := h_row.ne h_rows (by simp)
  have n_row_goes : A 4 ≠ A 7 := h_row.ne h_goes (by simp)
  have n_tr_sl : A 5 ≠ A 1 := h_tr.ne h_sl (by simp)
  have n_tr_d : A 5 ≠ A 3 := h_tr.ne h_d (by simp)
  have n_tr_row : A 5 ≠ A 4 := h_tr.ne h_row (by simp)
  have n_tr_rows : A 5 ≠ A 6 := h_tr.ne h_rows (by simp)
  have n_tr_goes : A 5 ≠ A 7 := h_tr.ne h_goes (by simp)
  have n_rows_sl : A 6 ≠ A 1 := h_rows.ne h_sl (by simp)
  have n_rows_d : A 6 ≠ A 3 := h_rows.ne h_d (by simp)
  have n_rows_row : A 6 ≠ A 4 := h_rows.ne h_row (by simp)
  have n_rows_tr : A 6 ≠ A 5 := h_rows.ne h_tr (by simp)
  have n_rows_goes : A 6 ≠ A 7 := h_rows.ne h_goes (by simp)
  have n_goes_sl : A 7 ≠ A 1 := h_goes.ne h_sl (by simp)
  have n_goes_d : A 7 ≠ A 3 := h_goes.ne h_d (by simp)
  have n_goes_row : A 7 ≠ A 4 := h_goes.ne h_row (by simp)
  have n_goes_tr : A 7 ≠ A 5 := h_goes.ne h_tr (by simp)
  have n_goes_rows : A 7 ≠ A 6 := h_goes.ne h_rows (by simp)
  refine lv_aload_n E.1.1 E.1.2.1 dX5_put_0 rfl (lv_at hl 0 rfl) ?_
  refine lv_iload_n E.1.1 E.1.2.1 dX5_put_1 rfl (lv_at hl 1 rfl) ?_
  refine k_ri (va_runV (As := [.int to]) (rest := []) E.1 (c_unknown l D cy L f H.size (A 0) (A 1) (A 2) (A 3) (A 5) base sa to h_nm h_sl) ⟨callB_of 1 E.1.2.2.2.2 (gd_own w2_18) rfl rfl rfl (E.1.2.2.2.2 _ w1_1) (E.1.2.2.2.2 _ w2_15) hd_X5_unknown (by rw [hR]; exact ⟨Nat.le_of_ble_eq_true rfl, Nat.le_of_ble_eq_true rfl⟩), E.1.2.2.2.2 _ w2_17, E.1.2.2.2.2 _ ws_9⟩ (pw_preV (q := (RX5, TX5, 5)) E.2 hw h_nm rfl) rfl rfl hl.1 rfl (lv_room (Nat.le_of_ble_eq_true rfl)) dX5_put_2 ⟨Nat.zero_le _, Nat.zero_le _⟩) ?_
  refine k_if0 (tgt := 10) E dX5_put_5 (by decide) (fun c5 => ?_) (fun c5 => ?_)
  · obtain ⟨j, hj, rfl⟩ := inS_ex c5
    refine lv_iload_n E.1.1 E.1.2.1 dX5_put_10 rfl (lv_at hl 2 rfl) ?_
    refine lv_iconst (v := nI 0) E.1.1 E.1.2.1 dX5_put_11 rfl ?_
    refine lv_iconst (v := nI 4) E.1.1 E.1.2.1 dX5_put_12 rfl ?_
    refine k_ri (va_runS (As := [.int (nI 1), .int (nI 0), .int (nI 4)]) (rest := []) E.1 (c_within l D cy L f H.size (nI 1) (nI 0) (nI 4)) ⟨callB_of 3 E.1.2.2.2.2 (gd_own w2_21) rfl rfl rfl (E.1.2.2.2.2 _ w1_1) (E.1.2.2.2.2 _ w2_19) hd_X5_within (by rw [hR]; exact ⟨Nat.le_of_ble_eq_true rfl, Nat.le_of_ble_eq_true rfl⟩), E.1.2.2.2.2 _ w2_20⟩ (pw_pre E.2 hw) rfl rfl hl.1 rfl (lv_room (Nat.le_of_ble_eq_true rfl)) dX5_put_13 ⟨Nat.zero_le _, Nat.zero_le _⟩) ?_
    refine k_if1 (tgt := 22) E dX5_put_16 (by decide) (fun c16 => ?_) (fun c16 => absurd (show i32in (nI 1) 0 (nI 4) = false from c16) (by rw [in_t (by decide) (by decide)]; decide))
    refine lv_iload_n E.1.1 E.1.2.1 dX5_put_22 rfl (lv_at hl 2 rfl) ?_
    refine lv_iconst (v := nI 3) E.1.1 E.1.2.1 dX5_put_23 rfl ?_
    refine k_eq (tgt := 45) E dX5_put_24 (by decide) (by omega) (by omega) (fun c24 => absurd c24 (by decide)) (fun c24 => ?_)
    refine lv_iload_n E.1.1 E.1.2.1 dX5_put_27 rfl (lv_at hl 2 rfl) ?_
    refine lv_iconst (v := nI 4) E.1.1 E.1.2.1 dX5_put_28 rfl ?_
    refine k_eq (tgt := 45) E dX5_put_29 (by decide) (by omega) (by omega) (fun c29 => absurd c29 (by decide)) (fun c29 => ?_)
    refine lv_iload_n E.1.1 E.1.2.1 dX5_put_32 rfl (lv_at hl 3 rfl) ?_
    refine lv_iconst (v := nI 0) E.1.1 E.1.2.1 dX5_put_33 rfl ?_
    refine lv_bipush (v := nI 100) E.1.1 E.1.2.1 dX5_put_34 rfl ?_
    refine k_ri (va_runS (As := [.int a, .int (nI 0), .int (nI 100)]) (rest := []) E.1 (c_within l D cy L f H.size a (nI 0) (nI 100)) ⟨callB_of 3 E.1.2.2.2.2 (gd_own w2_21) rfl rfl rfl (E.1.2.2.2.2 _ w1_1) (E.1.2.2.2.2 _ w2_19) hd_X5_within (by rw [hR]; exact ⟨Nat.le_of_ble_eq_true rfl, Nat.le_of_ble_eq_true rfl⟩), E.1.2.2.2.2 _ w2_20⟩ (pw_pre E.2 hw) rfl rfl hl.1 rfl (lv_room (Nat.le_of_ble_eq_true rfl)) dX5_put_36 ⟨Nat.zero_le _, Nat.zero_le _⟩) ?_
    refine k_if1 (tgt := 45) E dX5_put_39 (by decide) (fun c39 => ?_) (fun c39 => ?_)
    · obtain ⟨a1, ha1, rfl⟩ := in_ex (by decide) c39
      refine lv_iload_n E.1.1 E.1.2.1 dX5_put_45 rfl (lv_at hl 2 rfl) ?_
      refine lv_iconst (v := nI 2) E.1.1 E.1.2.1 dX5_put_46 rfl ?_
      refine k_ne (tgt := 64) E dX5_put_47 (by decide) (by omega) (by omega) (fun c47 => ?_) (fun c47 => absurd c47 (by decide))
      refine lv_aload_n E.1.1 E.1.2.1 dX5_put_64 rfl (lv_at hl 0 rfl) ?_
      refine lv_iload_n E.1.1 E.1.2.1 dX5_put_65 rfl (lv_at hl 2 rfl) ?_
      refine lv_iload_n E.1.1 E.1.2.1 dX5_put_66 rfl (lv_at hl 3 rfl) ?_
      refine lv_iload E.1.1 E.1.2.1 dX5_put_67 (lv_at hl 4 rfl) ?_
      refine k_mv hw (va_runV (As := [.int (nI 1), .int (nI a1), .int m0]) (rest := []) E.1 (c_draftKind1 l D cy L f H.size (A 0) (A 1) (A 2) (A 3) (A 5) base (A 4) a1 i1 i2 g (ix m0) m0 (by omega) h_nm h_d h_row) ⟨callB_of 3 E.1.2.2.2.2 (gd_own w2_25) rfl rfl rfl (E.1.2.2.2.2 _ w1_1) (E.1.2.2.2.2 _ w2_22) hd_X5_draftKind (by rw [hR]; exact ⟨Nat.le_of_ble_eq_true rfl, Nat.le_of_ble_eq_true rfl⟩), E.1.2.2.2.2 _ w2_24, E.1.2.2.2.2 _ ws_10⟩ (pw_preV (q := (RX5, TX5, 5)) E.2 hw h_nm rfl) rfl rfl hl.1 rfl (lv_room (Nat.le_of_ble_eq_true rfl)) dX5_put_69 (by rw [hR]; exact ⟨Nat.le_of_ble_eq_true rfl, Nat.le_of_ble_eq_true rfl⟩)) (fun L1 f H locs hp hw => ?_)
      obtain ⟨hL1, hfr, h_d, h_row⟩ := hp
      have hL1 : L = L1 := hL1
      subst hL1
      have h_d : cel L f (A 3) (.inr (0, [.ref (A 4), .int (nI (a1)), .int (nI (1))])) := h_d
      have h_row : cel L f (A 4) (.inl (cy 1, 59, .inr (.inl (wd (rb (kd 1 a1 (ix m0)) (a1 + 1)))))) := h_row
      have h_nm := h_nm.keep (fun _ h => h) (hfr _ h_nm.1 n_nm_d n_nm_row)
      have h_sl := h_sl.keep (fun _ h => h) (hfr _ h_sl.1 n_sl_d n_sl_row)
      have h_tr := h_tr.keep (fun _ h => h) (hfr _ h_tr.1 n_tr_d n_tr_row)
      have h_rows := h_rows.keep (fun _ h => h) (hfr _ h_rows.1 n_rows_d n_rows_row)
      have h_goes := h_goes.keep (fun _ h => h) (hfr _ h_goes.1 n_goes_d n_goes_row)
      have hF : ∀ b ∈ L, b ≠ (A 1) → b ≠ (A 3) → b ≠ (A 4) → b ≠ (A 5) → b ≠ (A 6) → b ≠ (A 7) → f b = f0 b := fun b hb h0 h1 h2 h3 h4 h5 => (hfr b (hLs b hb) h1 h2).trans (hF b hb h0 h1 h2 h3 h4 h5)
      refine lv_aload_n E.1.1 E.1.2.1 dX5_put_72 rfl (lv_at hl 0 rfl) ?_
      refine lv_iload_n E.1.1 E.1.2.1 dX5_put_73 rfl (lv_at hl 1 rfl) ?_
      refine k_mi hw (va_runV (As := [.int (nI j)]) (rest := []) E.1 (c_hold l D cy L f H.size (A 0) (A 1) (A 2) (A 3) (A 4) (A 5) (A 6) (A 7) base (a1) (1) j M j1 j2 j3 j4 (rb (kd 1 a1 (ix m0)) (a1 + 1)) B0 G0 sa (by omega) (by omega) (by omega) (by omega) hA.2.2 (by omega) (hA.1 1 (by decide)) h_nm h_sl h_d h_row h_tr h_rows h_goes) ⟨callB_of 1 E.1.2.2.2.2 (gd_own w2_36) rfl rfl rfl (E.1.2.2.2.2 _ w1_1) (E.1.2.2.2.2 _ w2_33) hd_X5_hold (by rw [hR]; exact ⟨Nat.le_of_ble_eq_true rfl, Nat.le_of_ble_eq_true rfl⟩), E.1.2.2.2.2 _ w2_35, E.1.2.2.2.2 _ ws_11⟩ (pw_preV (q := (RX5, TX5, 5)) E.2 hw h_nm rfl) rfl rfl hl.1 rfl (lv_room (Nat.le_of_ble_eq_true rfl)) dX5_put_74 (by rw [hR]; exact ⟨Nat.le_of_ble_eq_true rfl, Nat.le_of_ble_eq_true rfl⟩)) (fun r L77 f H locs hp hw => ?_)
      refine W.cs (cells' := 4) (slots' := 331) rfl rfl ?_
      obtain ⟨hLn, hfr, hScr, hcase⟩ := hp
      dsimp only at hLn hfr hScr hcase
      have h_nm := h_nm.keep hLn (hfr _ h_nm.1 n_nm_sl n_nm_d n_nm_row n_nm_tr n_nm_rows n_nm_goes)
      have hF : ∀ b ∈ L, b ≠ (A 1) → b ≠ (A 3) → b ≠ (A 4) → b ≠ (A 5) → b ≠ (A 6) → b ≠ (A 7) → f b = f0 b := fun b hb h0 h1 h2 h3 h4 h5 => (hfr b (hLs b hb) h0 h1 h2 h3 h4 h5).trans (hF b hb h0 h1 h2 h3 h4 h5)
      have hLs : ∀ b ∈ L, b ∈ L77 := fun b hb => hLn b (hLs b hb)
      exact k_miret E hQ hlk hr hw (Nat.le_of_ble_eq_true rfl) (Nat.le_of_ble_eq_true rfl) (⟨hLs, fun b hb h => hF b hb (h 1 (by decide)) (h 3 (by decide)) (h 4 (by decide)) (h 5 (by decide)) (h 6 (by decide)) (h 7 (by decide)), by
      obtain ⟨SS2, hW2, hH⟩ := fin_hold (X := kd 1 a1 (ix m0)) (by rw [den_rb (by omega) (kd1_ev a1 (ix m0))]) hA hB hSl hRm hLs hF h_nm hScr hcase
      exact ⟨SS2, hW2, sp_put_ok hj (by decide) (fun _ => c39) (fun h => absurd h (by decide)) (by rw [ix_nI (by omega)]; exact hH)⟩⟩) dX5_put_77
    · refine lv_bipush (v := -2) E.1.1 E.1.2.1 dX5_put_42 rfl ?_
      exact k_miret E hQ hlk hr hw (Nat.le_of_ble_eq_true rfl) (Nat.le_of_ble_eq_true rfl) (⟨hLs, fun b hb h => hF b hb (h 1 (by decide)) (h 3 (by decide)) (h 4 (by decide)) (h 5 (by decide)) (h 6 (by decide)) (h 7 (by decide)), SS, fin_keep hA hB hSl hRm hLs hF h_nm ⟨_, _, _, _, _, _, _, _, _, h_d, h_row, h_tr, h_rows, h_goes⟩ h_sl, sp_put_2 hj (Or.inr (Or.inl ⟨by decide, c39⟩))⟩) dX5_put_44
  · refine lv_iconst (v := -1) E.1.1 E.1.2.1 dX5_put_8 rfl ?_
    exact k_miret E hQ hlk hr hw (Nat.le_of_ble_eq_true rfl) (Nat.le_of_ble_eq_true rfl) (⟨hLs, fun b hb h => hF b hb (h 1 (by decide)) (h 3 (by decide)) (h 4 (by decide)) (h 5 (by decide)) (h 6 (by decide)) (h 7 (by decide)), SS, fin_keep hA hB hSl hRm hLs hF h_nm ⟨_, _, _, _, _, _, _, _, _, h_d, h_row, h_tr, h_rows, h_goes⟩ h_sl, sp_put_1 (nb c5)⟩) dX5_put_9

set_option maxHeartbeats 4000000 in
set_option maxRecDepth 100000 in
theorem p_put2 (l : Launch) (D : va_G) (cy : Nat → ClassId) (L : List Nat) (f0 : Nat → va_E) (sz : Nat) (M : List Nat) (A : Nat → Nat) (base : Nat) (SS : Nat → Nat → Bool) (kp : Nat → Bool) (kb : Nat → Nat) (KS : Nat → Nat → Nat → Bool) (hA : AdOK L M A) (hN : NmW cy L f0 M A base SS kp kb KS) (to : Int32) (a m0 : Int32) : Met l yX5_put (.code yX5_put cX5_put 5 (Option.some FieldType.int) :: wsL_law) { frames := 6, cells := 4, slots := 331, locals := 128 } (va_Pc [.ref (A 0), .int to, .int (nI 2), .int a, .int m0] (PW D cy L f0 sz)) (va_Qi (fun (r : Int32) (u : List Nat × (Nat → va_E)) => (∀ b ∈ L, b ∈ u.1) ∧ (∀ b ∈ L, (∀ i, i < 12 → b ≠ A i) → u.2 b = f0 b) ∧ ∃ SS2, NmW cy u.1 u.2 M A base SS2 kp kb KS ∧ sp_put base SS SS2 to (nI 2) a m0 r) (PB D (AW L sz)) (AW L sz)) 4 331 (AW L sz) := by
  refine m_start (by decide) (Nat.le_of_ble_eq_true rfl) ?_
  intro p e R Q s m args below meth c ls hsz hR hQ E hr hlk hnm hw hl
  have hl : lv_has ls 5 [(0, .ref (A 0)), (1, .int to), (2, .int (nI 2)), (3, .int a), (4, .int m0)] := hl
  obtain ⟨H, hH⟩ : ∃ X, X = s.heap := ⟨_, rfl⟩
  obtain ⟨locs, hlocs⟩ : ∃ X : List Loc, X = [] := ⟨_, rfl⟩
  have hw0 := hw
  obtain ⟨hB, h_nm, ⟨sa, h_sl, hSl⟩, ⟨i1, i2, j1, j2, j3, j4, g, B0, G0, h_d, h_row, h_tr, h_rows, h_goes⟩, hRm⟩ := hN
  have hb2 := hB.two
  obtain ⟨f, hf0⟩ : ∃ X, X = f0 := ⟨_, rfl⟩
  rw [← hf0] at h_nm h_sl h_d h_row h_tr h_rows h_goes
  have hw : WW D (AW L sz) s.heap L f H locs := by rw [hH, hlocs, hf0]; exact hw
  have hF : ∀ b ∈ L, b ≠ (A 1) → b ≠ (A 3) → b ≠ (A 4) → b ≠ (A 5) → b ≠ (A 6) → b ≠ (A 7) → f b = f0 b := fun b hb h0 h1 h2 h3 h4 h5 => by rw [hf0]
  suffices hgo : W p l e R s m args below meth c H locs 0 0 Q (F0 m 0 ls []) by rw [hH, hlocs] at hgo; exact hgo
  clear hH hlocs hw0 hf0
  have hLs : ∀ b ∈ L, b ∈ L := fun _ h => h
  have n_nm_sl : A 0 ≠ A 1 := h_nm.ne h_sl (by simp)
  have n_nm_d : A 0 ≠ A 3 := h_nm.ne h_d (by simp)
  have n_nm_row : A 0 ≠ A 4 := h_nm.ne h_row (by simp)
  have n_nm_tr : A 0 ≠ A 5 := h_nm.ne h_tr (by simp)
  have n_nm_rows : A 0 ≠ A 6 := h_nm.ne h_rows (by simp)
  have n_nm_goes : A 0 ≠ A 7 := h_nm.ne h_goes (by simp)
  have n_sl_d : A 1 ≠ A 3 := h_sl.ne h_d (by simp)
  have n_sl_row : A 1 ≠ A 4 := h_sl.ne h_row (by simp)
  have n_sl_tr : A 1 ≠ A 5 := h_sl.ne h_tr (by simp)
  have n_sl_rows : A 1 ≠ A 6 := h_sl.ne h_rows (by simp)
  have n_sl_goes : A 1 ≠ A 7 := h_sl.ne h_goes (by simp)
  have n_d_sl : A 3 ≠ A 1 := h_d.ne h_sl (by simp)
  have n_d_row : A 3 ≠ A 4 := h_d.ne h_row (by simp)
  have n_d_tr : A 3 ≠ A 5 := h_d.ne h_tr (by simp)
  have n_d_rows : A 3 ≠ A 6 := h_d.ne h_rows (by simp)
  have n_d_goes : A 3 ≠ A 7 := h_d.ne h_goes (by simp)
  have n_row_sl : A 4 ≠ A 1 := h_row.ne h_sl (by simp)
  have n_row_d : A 4 ≠ A 3 := h_row.ne h_d (by simp)
  have n_row_tr : A 4 ≠ A 5 := h_row.ne h_tr (by simp)
  have n_row_rows : A 4 ≠ A 6 := h_row.ne h_rows (by simp)
  have n_row_goes : A 4 ≠ A 7 := h_row.ne h_goes (by simp)
  have n_tr_sl : A 5 ≠ A 1 := h_tr.ne h_sl (by simp)
  have n_tr_d : A 5 ≠ A 3 := h_tr.ne h_d (by simp)
  have n_tr_row : A 5 ≠ A 4 := h_tr.ne h_row (by simp)
  have n_tr_rows : A 5 ≠ A 6 := h_tr.ne h_rows (by simp)
  have n_tr_goes : A 5 ≠ A 7 := h_tr.ne h_goes (by simp)
  have n_rows_sl : A 6 ≠ A 1 := h_rows.ne h_sl (by simp)
  have n_rows_d : A 6 ≠ A 3 := h_rows.ne h_d (by simp)
  have n_rows_row : A 6 ≠ A 4 := h_rows.ne h_row (by simp)
  have n_rows_tr : A 6 ≠ A 5 := h_rows.ne h_tr (by simp)
  have n_rows_goes : A 6 ≠ A 7 := h_rows.ne h_goes (by simp)
  have n_goes_sl : A 7 ≠ A 1 := h_goes.ne h_sl (by simp)
  have n_goes_d : A 7 ≠ A 3 := h_goes.ne h_d (by simp)
  have n_goes_row : A 7 ≠ A 4 := h_goes.ne h_row (by simp)
  have n_goes_tr : A 7 ≠ A 5 := h_goes.ne h_tr (by simp)
  have n_goes_rows : A 7 ≠ A 6 := h_goes.ne h_rows (by simp)
  refine lv_aload_n E.1.1 E.1.2.1 dX5_put_0 rfl (lv_at hl 0 rfl) ?_
  refine lv_iload_n E.1.1 E.1.2.1 dX5_put_1 rfl (lv_at hl 1 rfl) ?_
  refine k_ri (va_runV (As := [.int to]) (rest := []) E.1 (c_unknown l D cy L f H.size (A 0) (A 1) (A 2) (A 3) (A 5) base sa to h_nm h_sl) ⟨callB_of 1 E.1.2.2.2.2 (gd_own w2_18) rfl rfl rfl (E.1.2.2.2.2 _ w1_1) (E.1.2.2.2.2 _ w2_15) hd_X5_unknown (by rw [hR]; exact ⟨Nat.le_of_ble_eq_true rfl, Nat.le_of_ble_eq_true rfl⟩), E.1.2.2.2.2 _ w2_17, E.1.2.2.2.2 _ ws_9⟩ (pw_preV (q := (RX5, TX5, 5)) E.2 hw h_nm rfl) rfl rfl hl.1 rfl (lv_room (Nat.le_of_ble_eq_true rfl)) dX5_put_2 ⟨Nat.zero_le _, Nat.zero_le _⟩) ?_
  refine k_if0 (tgt := 10) E dX5_put_5 (by decide) (fun c5 => ?_) (fun c5 => ?_)
  · obtain ⟨j, hj, rfl⟩ := inS_ex c5
    refine lv_iload_n E.1.1 E.1.2.1 dX5_put_10 rfl (lv_at hl 2 rfl) ?_
    refine lv_iconst (v := nI 0) E.1.1 E.1.2.1 dX5_put_11 rfl ?_
    refine lv_iconst (v := nI 4) E.1.1 E.1.2.1 dX5_put_12 rfl ?_
    refine k_ri (va_runS (As := [.int (nI 2), .int (nI 0), .int (nI 4)]) (rest := []) E.1 (c_within l D cy L f H.size (nI 2) (nI 0) (nI 4)) ⟨callB_of 3 E.1.2.2.2.2 (gd_own w2_21) rfl rfl rfl (E.1.2.2.2.2 _ w1_1) (E.1.2.2.2.2 _ w2_19) hd_X5_within (by rw [hR]; exact ⟨Nat.le_of_ble_eq_true rfl, Nat.le_of_ble_eq_true rfl⟩), E.1.2.2.2.2 _ w2_20⟩ (pw_pre E.2 hw) rfl rfl hl.1 rfl (lv_room (Nat.le_of_ble_eq_true rfl)) dX5_put_13 ⟨Nat.zero_le _, Nat.zero_le _⟩) ?_
    refine k_if1 (tgt := 22) E dX5_put_16 (by decide) (fun c16 => ?_) (fun c16 => absurd (show i32in (nI 2) 0 (nI 4) = false from c16) (by rw [in_t (by decide) (by decide)]; decide))
    refine lv_iload_n E.1.1 E.1.2.1 dX5_put_22 rfl (lv_at hl 2 rfl) ?_
    refine lv_iconst (v := nI 3) E.1.1 E.1.2.1 dX5_put_23 rfl ?_
    refine k_eq (tgt := 45) E dX5_put_24 (by decide) (by omega) (by omega) (fun c24 => absurd c24 (by decide)) (fun c24 => ?_)
    refine lv_iload_n E.1.1 E.1.2.1 dX5_put_27 rfl (lv_at hl 2 rfl) ?_
    refine lv_iconst (v := nI 4) E.1.1 E.1.2.1 dX5_put_28 rfl ?_
    refine k_eq (tgt := 45) E dX5_put_29 (by decide) (by omega) (by omega) (fun c29 => absurd c29 (by decide)) (fun c29 => ?_)
    refine lv_iload_n E.1.1 E.1.2.1 dX5_put_32 rfl (lv_at hl 3 rfl) ?_
    refine lv_iconst (v := nI 0) E.1.1 E.1.2.1 dX5_put_33 rfl ?_
    refine lv_bipush (v := nI 100) E.1.1 E.1.2.1 dX5_put_34 rfl ?_
    refine k_ri (va_runS (As := [.int a, .int (nI 0), .int (nI 100)]) (rest := []) E.1 (c_within l D cy L f H.size a (nI 0) (nI 100)) ⟨callB_of 3 E.1.2.2.2.2 (gd_own w2_21) rfl rfl rfl (E.1.2.2.2.2 _ w1_1) (E.1.2.2.2.2 _ w2_19) hd_X5_within (by rw [hR]; exact ⟨Nat.le_of_ble_eq_true rfl, Nat.le_of_ble_eq_true rfl⟩), E.1.2.2.2.2 _ w2_20⟩ (pw_pre E.2 hw) rfl rfl hl.1 rfl (lv_room (Nat.le_of_ble_eq_true rfl)) dX5_put_36 ⟨Nat.zero_le _, Nat.zero_le _⟩) ?_
    refine k_if1 (tgt := 45) E dX5_put_39 (by decide) (fun c39 => ?_) (fun c39 => ?_)
    · obtain ⟨a1, ha1, rfl⟩ := in_ex (by decide) c39
      refine lv_iload_n E.1.1 E.1.2.1 dX5_put_45 rfl (lv_at hl 2 rfl) ?_
      refine lv_iconst (v := nI 2) E.1.1 E.1.2.1 dX5_put_46 rfl ?_
      refine k_ne (tgt := 64) E dX5_put_47 (by decide) (by omega) (by omega) (fun c47 => absurd c47 (by decide)) (fun c47 => ?_)
      refine lv_iload E.1.1 E.1.2.1 dX5_put_50 (lv_at hl 4 rfl) ?_
      refine lv_iconst (v := nI 1) E.1.1 E.1.2.1 dX5_put_52 rfl ?_
      refine lv_bipush (v := nI 60) E.1.1 E.1.2.1 dX5_put_53 rfl ?_
      refine k_ri (va_runS (As := [.int m0, .int (nI 1), .int (nI 60)]) (rest := []) E.1 (c_within l D cy L f H.size m0 (nI 1) (nI 60)) ⟨callB_of 3 E.1.2.2.2.2 (gd_own w2_21) rfl rfl rfl (E.1.2.2.2.2 _ w1_1) (E.1.2.2.2.2 _ w2_19) hd_X5_within (by rw [hR]; exact ⟨Nat.le_of_ble_eq_true rfl, Nat.le_of_ble_eq_true rfl⟩), E.1.2.2.2.2 _ w2_20⟩ (pw_pre E.2 hw) rfl rfl hl.1 rfl (lv_room (Nat.le_of_ble_eq_true rfl)) dX5_put_55 ⟨Nat.zero_le _, Nat.zero_le _⟩) ?_
      refine k_if1 (tgt := 64) E dX5_put_58 (by decide) (fun c58 => ?_) (fun c58 => ?_)
      · obtain ⟨w1, hw1, hw2, rfl⟩ := in_ex1 (by decide) c58 (by decide)
        refine lv_aload_n E.1.1 E.1.2.1 dX5_put_64 rfl (lv_at hl 0 rfl) ?_
        refine lv_iload_n E.1.1 E.1.2.1 dX5_put_65 rfl (lv_at hl 2 rfl) ?_
        refine lv_iload_n E.1.1 E.1.2.1 dX5_put_66 rfl (lv_at hl 3 rfl) ?_
        refine lv_iload E.1.1 E.1.2.1 dX5_put_67 (lv_at hl 4 rfl) ?_
        refine k_mv hw (va_runV (As := [.int (nI 2), .int (nI a1), .int (nI w1)]) (rest := []) E.1 (c_draftKind2 l D cy L f H.size (A 0) (A 1) (A 2) (A 3) (A 5) base (A 4) a1 w1 i1 i2 g (by omega) (by omega) (by omega) h_nm h_d h_row) ⟨callB_of 3 E.1.2.2.2.2 (gd_own w2_25) rfl rfl rfl (E.1.2.2.2.2 _ w1_1) (E.1.2.2.2.2 _ w2_22) hd_X5_draftKind (by rw [hR]; exact ⟨Nat.le_of_ble_eq_true rfl, Nat.le_of_ble_eq_true rfl⟩), E.1.2.2.2.2 _ w2_24, E.1.2.2.2.2 _ ws_10⟩ (pw_preV (q := (RX5, TX5, 5)) E.2 hw h_nm rfl) rfl rfl hl.1 rfl (lv_room (Nat.le_of_ble_eq_true rfl)) dX5_put_69 (by rw [hR]; exact ⟨Nat.le_of_ble_eq_true rfl, Nat.le_of_ble_eq_true rfl⟩)) (fun L1 f H locs hp hw => ?_)
        obtain ⟨hL1, hfr, h_d, h_row⟩ := hp
        have hL1 : L = L1 := hL1
        subst hL1
        have h_d : cel L f (A 3) (.inr (0, [.ref (A 4), .int (nI (0)), .int (nI (w1))])) := h_d
        have h_row : cel L f (A 4) (.inl (cy 1, 59, .inr (.inl (wd (rb (kd 2 a1 w1) (0 + w1)))))) := h_row
        have h_nm := h_nm.keep (fun _ h => h) (hfr _ h_nm.1 n_nm_d n_nm_row)
        have h_sl := h_sl.keep (fun _ h => h) (hfr _ h_sl.1 n_sl_d n_sl_row)
        have h_tr := h_tr.keep (fun _ h => h) (hfr _ h_tr.1 n_tr_d n_tr_row)
        have h_rows := h_rows.keep (fun _ h => h) (hfr _ h_rows.1 n_rows_d n_rows_row)
        have h_goes := h_goes.keep (fun _ h => h) (hfr _ h_goes.1 n_goes_d n_goes_row)
        have hF : ∀ b ∈ L, b ≠ (A 1) → b ≠ (A 3) → b ≠ (A 4) → b ≠ (A 5) → b ≠ (A 6) → b ≠ (A 7) → f b = f0 b := fun b hb h0 h1 h2 h3 h4 h5 => (hfr b (hLs b hb) h1 h2).trans (hF b hb h0 h1 h2 h3 h4 h5)
        refine lv_aload_n E.1.1 E.1.2.1 dX5_put_72 rfl (lv_at hl 0 rfl) ?_
        refine lv_iload_n E.1.1 E.1.2.1 dX5_put_73 rfl (lv_at hl 1 rfl) ?_
        refine k_mi hw (va_runV (As := [.int (nI j)]) (rest := []) E.1 (c_hold l D cy L f H.size (A 0) (A 1) (A 2) (A 3) (A 4) (A 5) (A 6) (A 7) base (0) (w1) j M j1 j2 j3 j4 (rb (kd 2 a1 w1) (0 + w1)) B0 G0 sa (by omega) (by omega) (by omega) (by omega) hA.2.2 (by omega) (hA.1 1 (by decide)) h_nm h_sl h_d h_row h_tr h_rows h_goes) ⟨callB_of 1 E.1.2.2.2.2 (gd_own w2_36) rfl rfl rfl (E.1.2.2.2.2 _ w1_1) (E.1.2.2.2.2 _ w2_33) hd_X5_hold (by rw [hR]; exact ⟨Nat.le_of_ble_eq_true rfl, Nat.le_of_ble_eq_true rfl⟩), E.1.2.2.2.2 _ w2_35, E.1.2.2.2.2 _ ws_11⟩ (pw_preV (q := (RX5, TX5, 5)) E.2 hw h_nm rfl) rfl rfl hl.1 rfl (lv_room (Nat.le_of_ble_eq_true rfl)) dX5_put_74 (by rw [hR]; exact ⟨Nat.le_of_ble_eq_true rfl, Nat.le_of_ble_eq_true rfl⟩)) (fun r L77 f H locs hp hw => ?_)
        refine W.cs (cells' := 4) (slots' := 331) rfl rfl ?_
        obtain ⟨hLn, hfr, hScr, hcase⟩ := hp
        dsimp only at hLn hfr hScr hcase
        have h_nm := h_nm.keep hLn (hfr _ h_nm.1 n_nm_sl n_nm_d n_nm_row n_nm_tr n_nm_rows n_nm_goes)
        have hF : ∀ b ∈ L, b ≠ (A 1) → b ≠ (A 3) → b ≠ (A 4) → b ≠ (A 5) → b ≠ (A 6) → b ≠ (A 7) → f b = f0 b := fun b hb h0 h1 h2 h3 h4 h5 => (hfr b (hLs b hb) h0 h1 h2 h3 h4 h5).trans (hF b hb h0 h1 h2 h3 h4 h5)
        have hLs : ∀ b ∈ L, b ∈ L77 := fun b hb => hLn b (hLs b hb)
        exact k_miret E hQ hlk hr hw (Nat.le_of_ble_eq_true rfl) (Nat.le_of_ble_eq_true rfl) (⟨hLs, fun b hb h => hF b hb (h 1 (by decide)) (h 3 (by decide)) (h 4 (by decide)) (h 5 (by decide)) (h 6 (by decide)) (h 7 (by decide)), by
      obtain ⟨SS2, hW2, hH⟩ := fin_hold (X := kd 2 a1 w1) (by rw [den_rb (by omega) (kd2_ev a1 w1)]) hA hB hSl hRm hLs hF h_nm hScr hcase
      exact ⟨SS2, hW2, sp_put_ok hj (by decide) (fun _ => c39) (fun _ => c58) (by rw [ix_nI (by omega), ix_nI (by omega)]; exact hH)⟩⟩) dX5_put_77
      · refine lv_bipush (v := -2) E.1.1 E.1.2.1 dX5_put_61 rfl ?_
        exact k_miret E hQ hlk hr hw (Nat.le_of_ble_eq_true rfl) (Nat.le_of_ble_eq_true rfl) (⟨hLs, fun b hb h => hF b hb (h 1 (by decide)) (h 3 (by decide)) (h 4 (by decide)) (h 5 (by decide)) (h 6 (by decide)) (h 7 (by decide)), SS, fin_keep hA hB hSl hRm hLs hF h_nm ⟨_, _, _, _, _, _, _, _, _, h_d, h_row, h_tr, h_rows, h_goes⟩ h_sl, sp_put_2 hj (Or.inr (Or.inr ⟨rfl, c58⟩))⟩) dX5_put_63
    · refine lv_bipush (v := -2) E.1.1 E.1.2.1 dX5_put_42 rfl ?_
      exact k_miret E hQ hlk hr hw (Nat.le_of_ble_eq_true rfl) (Nat.le_of_ble_eq_true rfl) (⟨hLs, fun b hb h => hF b hb (h 1 (by decide)) (h 3 (by decide)) (h 4 (by decide)) (h 5 (by decide)) (h 6 (by decide)) (h 7 (by decide)), SS, fin_keep hA hB hSl hRm hLs hF h_nm ⟨_, _, _, _, _, _, _, _, _, h_d, h_row, h_tr, h_rows, h_goes⟩ h_sl, sp_put_2 hj (Or.inr (Or.inl ⟨by decide, c39⟩))⟩) dX5_put_44
  · refine lv_iconst (v := -1) E.1.1 E.1.2.1 dX5_put_8 rfl ?_
    exact k_miret E hQ hlk hr hw (Nat.le_of_ble_eq_true rfl) (Nat.le_of_ble_eq_true rfl) (⟨hLs, fun b hb h => hF b hb (h 1 (by decide)) (h 3 (by decide)) (h 4 (by decide)) (h 5 (by decide)) (h 6 (by decide)) (h 7 (by decide)), SS, fin_keep hA hB hSl hRm hLs hF h_nm ⟨_, _, _, _, _, _, _, _, _, h_d, h_row, h_tr, h_rows, h_goes⟩ h_sl, sp_put_1 (nb c5)⟩) dX5_put_9

set_option maxHeartbeats 4000000 in
set_option maxRecDepth 100000 in
theorem p_put3 (l : Launch) (D : va_G) (cy : Nat → ClassId) (L : List Nat) (f0 : Nat → va_E) (sz : Nat) (M : List Nat) (A : Nat → Nat) (base : Nat) (SS : Nat → Nat → Bool) (kp : Nat → Bool) (kb : Nat → Nat) (KS : Nat → Nat → Nat → Bool) (hA : AdOK L M A) (hN : NmW cy L f0 M A base SS kp kb KS) (to : Int32) (a m0 : Int32) : Met l yX5_put (.code yX5_put cX5_put 5 (Option.some FieldType.int) :: wsL_law) { frames := 6, cells := 4, slots := 331, locals := 128 } (va_Pc [.ref (A 0), .int to, .int (nI 3), .int a, .int m0] (PW D cy L f0 sz)) (va_Qi (fun (r : Int32) (u : List Nat × (Nat → va_E)) => (∀ b ∈ L, b ∈ u.1) ∧ (∀ b ∈ L, (∀ i, i < 12 → b ≠ A i) → u.2 b = f0 b) ∧ ∃ SS2, NmW cy u.1 u.2 M A base SS2 kp kb KS ∧ sp_put base SS SS2 to (nI 3) a m0 r) (PB D (AW L sz)) (AW L sz)) 4 331 (AW L sz) := by
  refine m_start (by decide) (Nat.le_of_ble_eq_true rfl) ?_
  intro p e R Q s m args below meth c ls hsz hR hQ E hr hlk hnm hw hl
  have hl : lv_has ls 5 [(0, .ref (A 0)), (1, .int to), (2, .int (nI 3)), (3, .int a), (4, .int m0)] := hl
  obtain ⟨H, hH⟩ : ∃ X, X = s.heap := ⟨_, rfl⟩
  obtain ⟨locs, hlocs⟩ : ∃ X : List Loc, X = [] := ⟨_, rfl⟩
  have hw0 := hw
  obtain ⟨hB, h_nm, ⟨sa, h_sl, hSl⟩, ⟨i1, i2, j1, j2, j3, j4, g, B0, G0, h_d, h_row, h_tr, h_rows, h_goes⟩, hRm⟩ := hN
  have hb2 := hB.two
  obtain ⟨f, hf0⟩ : ∃ X, X = f0 := ⟨_, rfl⟩
  rw [← hf0] at h_nm h_sl h_d h_row h_tr h_rows h_goes
  have hw : WW D (AW L sz) s.heap L f H locs := by rw [hH, hlocs, hf0]; exact hw
  have hF : ∀ b ∈ L, b ≠ (A 1) → b ≠ (A 3) → b ≠ (A 4) → b ≠ (A 5) → b ≠ (A 6) → b ≠ (A 7) → f b = f0 b := fun b hb h0 h1 h2 h3 h4 h5 => by rw [hf0]
  suffices hgo : W p l e R s m args below meth c H locs 0 0 Q (F0 m 0 ls []) by rw [hH, hlocs] at hgo; exact hgo
  clear hH hlocs hw0 hf0
  have hLs : ∀ b ∈ L, b ∈ L := fun _ h => h
  have n_nm_sl : A 0 ≠ A 1 := h_nm.ne h_sl (by simp)
  have n_nm_d : A 0 ≠ A 3 := h_nm.ne h_d (by simp)
  have n_nm_row : A 0 ≠ A 4 := h_nm.ne h_row (by simp)
  have n_nm_tr : A 0 ≠ A 5 := h_nm.ne h_tr (by simp)
  have n_nm_rows : A 0 ≠ A 6 := h_nm.ne h_rows (by simp)
  have n_nm_goes : A 0 ≠ A 7 := h_nm.ne h_goes (by simp)
  have n_sl_d : A 1 ≠ A 3 := h_sl.ne h_d (by simp)
  have n_sl_row : A 1 ≠ A 4 := h_sl.ne h_row (by simp)
  have n_sl_tr : A 1 ≠ A 5 := h_sl.ne h_tr (by simp)
  have n_sl_rows : A 1 ≠ A 6 := h_sl.ne h_rows (by simp)
  have n_sl_goes : A 1 ≠ A 7 := h_sl.ne h_goes (by simp)
  have n_d_sl : A 3 ≠ A 1 := h_d.ne h_sl (by simp)
  have n_d_row : A 3 ≠ A 4 := h_d.ne h_row (by simp)
  have n_d_tr : A 3 ≠ A 5 := h_d.ne h_tr (by simp)
  have n_d_rows : A 3 ≠ A 6 := h_d.ne h_rows (by simp)
  have n_d_goes : A 3 ≠ A 7 := h_d.ne h_goes (by simp)
  have n_row_sl : A 4 ≠ A 1 := h_row.ne h_sl (by simp)
  have n_row_d : A 4 ≠ A 3 := h_row.ne h_d (by simp)
  have n_row_tr : A 4 ≠ A 5 := h_row.ne h_tr (by simp)
  have n_row_rows : A 4 ≠ A 6 := h_row.ne h_rows (by simp)
  have n_row_goes : A 4 ≠ A 7 := h_row.ne h_goes (by simp)
  have n_tr_sl : A 5 ≠ A 1 := h_tr.ne h_sl (by simp)
  have n_tr_d : A 5 ≠ A 3 := h_tr.ne h_d (by simp)
  have n_tr_row : A 5 ≠ A 4 := h_tr.ne h_row (by simp)
  have n_tr_rows : A 5 ≠ A 6 := h_tr.ne h_rows (by simp)
  have n_tr_goes : A 5 ≠ A 7 := h_tr.ne h_goes (by simp)
  have n_rows_sl : A 6 ≠ A 1 := h_rows.ne h_sl (by simp)
  have n_rows_d : A 6 ≠ A 3 := h_rows.ne h_d (by simp)
  have n_rows_row : A 6 ≠ A 4 := h_rows.ne h_row (by simp)
  have n_rows_tr : A 6 ≠ A 5 := h_rows.ne h_tr (by simp)
  have n_rows_goes : A 6 ≠ A 7 := h_rows.ne h_goes (by simp)
  have n_goes_sl : A 7 ≠ A 1 := h_goes.ne h_sl (by simp)
  have n_goes_d : A 7 ≠ A 3 := h_goes.ne h_d (by simp)
  have n_goes_row : A 7 ≠ A 4 := h_goes.ne h_row (by simp)
  have n_goes_tr : A 7 ≠ A 5 := h_goes.ne h_tr (by simp)
  have n_goes_rows : A 7 ≠ A 6 := h_goes.ne h_rows (by simp)
  refine lv_aload_n E.1.1 E.1.2.1 dX5_put_0 rfl (lv_at hl 0 rfl) ?_
  refine lv_iload_n E.1.1 E.1.2.1 dX5_put_1 rfl (lv_at hl 1 rfl) ?_
  refine k_ri (va_runV (As := [.int to]) (rest := []) E.1 (c_unknown l D cy L f H.size (A 0) (A 1) (A 2) (A 3) (A 5) base sa to h_nm h_sl) ⟨callB_of 1 E.1.2.2.2.2 (gd_own w2_18) rfl rfl rfl (E.1.2.2.2.2 _ w1_1) (E.1.2.2.2.2 _ w2_15) hd_X5_unknown (by rw [hR]; exact ⟨Nat.le_of_ble_eq_true rfl, Nat.le_of_ble_eq_true rfl⟩), E.1.2.2.2.2 _ w2_17, E.1.2.2.2.2 _ ws_9⟩ (pw_preV (q := (RX5, TX5, 5)) E.2 hw h_nm rfl) rfl rfl hl.1 rfl (lv_room (Nat.le_of_ble_eq_true rfl)) dX5_put_2 ⟨Nat.zero_le _, Nat.zero_le _⟩) ?_
  refine k_if0 (tgt := 10) E dX5_put_5 (by decide) (fun c5 => ?_) (fun c5 => ?_)
  · obtain ⟨j, hj, rfl⟩ := inS_ex c5
    refine lv_iload_n E.1.1 E.1.2.1 dX5_put_10 rfl (lv_at hl 2 rfl) ?_
    refine lv_iconst (v := nI 0) E.1.1 E.1.2.1 dX5_put_11 rfl ?_
    refine lv_iconst (v := nI 4) E.1.1 E.1.2.1 dX5_put_12 rfl ?_
    refine k_ri (va_runS (As := [.int (nI 3), .int (nI 0), .int (nI 4)]) (rest := []) E.1 (c_within l D cy L f H.size (nI 3) (nI 0) (nI 4)) ⟨callB_of 3 E.1.2.2.2.2 (gd_own w2_21) rfl rfl rfl (E.1.2.2.2.2 _ w1_1) (E.1.2.2.2.2 _ w2_19) hd_X5_within (by rw [hR]; exact ⟨Nat.le_of_ble_eq_true rfl, Nat.le_of_ble_eq_true rfl⟩), E.1.2.2.2.2 _ w2_20⟩ (pw_pre E.2 hw) rfl rfl hl.1 rfl (lv_room (Nat.le_of_ble_eq_true rfl)) dX5_put_13 ⟨Nat.zero_le _, Nat.zero_le _⟩) ?_
    refine k_if1 (tgt := 22) E dX5_put_16 (by decide) (fun c16 => ?_) (fun c16 => absurd (show i32in (nI 3) 0 (nI 4) = false from c16) (by rw [in_t (by decide) (by decide)]; decide))
    refine lv_iload_n E.1.1 E.1.2.1 dX5_put_22 rfl (lv_at hl 2 rfl) ?_
    refine lv_iconst (v := nI 3) E.1.1 E.1.2.1 dX5_put_23 rfl ?_
    refine k_eq (tgt := 45) E dX5_put_24 (by decide) (by omega) (by omega) (fun c24 => ?_) (fun c24 => absurd c24 (by decide))
    refine lv_iload_n E.1.1 E.1.2.1 dX5_put_45 rfl (lv_at hl 2 rfl) ?_
    refine lv_iconst (v := nI 2) E.1.1 E.1.2.1 dX5_put_46 rfl ?_
    refine k_ne (tgt := 64) E dX5_put_47 (by decide) (by omega) (by omega) (fun c47 => ?_) (fun c47 => absurd c47 (by decide))
    refine lv_aload_n E.1.1 E.1.2.1 dX5_put_64 rfl (lv_at hl 0 rfl) ?_
    refine lv_iload_n E.1.1 E.1.2.1 dX5_put_65 rfl (lv_at hl 2 rfl) ?_
    refine lv_iload_n E.1.1 E.1.2.1 dX5_put_66 rfl (lv_at hl 3 rfl) ?_
    refine lv_iload E.1.1 E.1.2.1 dX5_put_67 (lv_at hl 4 rfl) ?_
    refine k_mv hw (va_runV (As := [.int (nI 3), .int a, .int m0]) (rest := []) E.1 (c_draftKind3 l D cy L f H.size (A 0) (A 1) (A 2) (A 3) (A 5) base (A 4) (ix a) (ix m0) i1 i2 g a m0 h_nm h_d h_row) ⟨callB_of 3 E.1.2.2.2.2 (gd_own w2_25) rfl rfl rfl (E.1.2.2.2.2 _ w1_1) (E.1.2.2.2.2 _ w2_22) hd_X5_draftKind (by rw [hR]; exact ⟨Nat.le_of_ble_eq_true rfl, Nat.le_of_ble_eq_true rfl⟩), E.1.2.2.2.2 _ w2_24, E.1.2.2.2.2 _ ws_10⟩ (pw_preV (q := (RX5, TX5, 5)) E.2 hw h_nm rfl) rfl rfl hl.1 rfl (lv_room (Nat.le_of_ble_eq_true rfl)) dX5_put_69 (by rw [hR]; exact ⟨Nat.le_of_ble_eq_true rfl, Nat.le_of_ble_eq_true rfl⟩)) (fun L1 f H locs hp hw => ?_)
    obtain ⟨hL1, hfr, h_d, h_row⟩ := hp
    have hL1 : L = L1 := hL1
    subst hL1
    have h_d : cel L f (A 3) (.inr (0, [.ref (A 4), .int (nI (0)), .int (nI (1))])) := h_d
    have h_row : cel L f (A 4) (.inl (cy 1, 59, .inr (.inl (wd (rb (kd 3 (ix a) (ix m0)) (0 + 1)))))) := h_row
    have h_nm := h_nm.keep (fun _ h => h) (hfr _ h_nm.1 n_nm_d n_nm_row)
    have h_sl := h_sl.keep (fun _ h => h) (hfr _ h_sl.1 n_sl_d n_sl_row)
    have h_tr := h_tr.keep (fun _ h => h) (hfr _ h_tr.1 n_tr_d n_tr_row)
    have h_rows := h_rows.keep (fun _ h => h) (hfr _ h_rows.1 n_rows_d n_rows_row)
    have h_goes := h_goes.keep (fun _ h => h) (hfr _ h_goes.1 n_goes_d n_goes_row)
    have hF : ∀ b ∈ L, b ≠ (A 1) → b ≠ (A 3) → b ≠ (A 4) → b ≠ (A 5) → b ≠ (A 6) → b ≠ (A 7) → f b = f0 b := fun b hb h0 h1 h2 h3 h4 h5 => (hfr b (hLs b hb) h1 h2).trans (hF b hb h0 h1 h2 h3 h4 h5)
    refine lv_aload_n E.1.1 E.1.2.1 dX5_put_72 rfl (lv_at hl 0 rfl) ?_
    refine lv_iload_n E.1.1 E.1.2.1 dX5_put_73 rfl (lv_at hl 1 rfl) ?_
    refine k_mi hw (va_runV (As := [.int (nI j)]) (rest := []) E.1 (c_hold l D cy L f H.size (A 0) (A 1) (A 2) (A 3) (A 4) (A 5) (A 6) (A 7) base (0) (1) j M j1 j2 j3 j4 (rb (kd 3 (ix a) (ix m0)) (0 + 1)) B0 G0 sa (by omega) (by omega) (by omega) (by omega) hA.2.2 (by omega) (hA.1 1 (by decide)) h_nm h_sl h_d h_row h_tr h_rows h_goes) ⟨callB_of 1 E.1.2.2.2.2 (gd_own w2_36) rfl rfl rfl (E.1.2.2.2.2 _ w1_1) (E.1.2.2.2.2 _ w2_33) hd_X5_hold (by rw [hR]; exact ⟨Nat.le_of_ble_eq_true rfl, Nat.le_of_ble_eq_true rfl⟩), E.1.2.2.2.2 _ w2_35, E.1.2.2.2.2 _ ws_11⟩ (pw_preV (q := (RX5, TX5, 5)) E.2 hw h_nm rfl) rfl rfl hl.1 rfl (lv_room (Nat.le_of_ble_eq_true rfl)) dX5_put_74 (by rw [hR]; exact ⟨Nat.le_of_ble_eq_true rfl, Nat.le_of_ble_eq_true rfl⟩)) (fun r L77 f H locs hp hw => ?_)
    refine W.cs (cells' := 4) (slots' := 331) rfl rfl ?_
    obtain ⟨hLn, hfr, hScr, hcase⟩ := hp
    dsimp only at hLn hfr hScr hcase
    have h_nm := h_nm.keep hLn (hfr _ h_nm.1 n_nm_sl n_nm_d n_nm_row n_nm_tr n_nm_rows n_nm_goes)
    have hF : ∀ b ∈ L, b ≠ (A 1) → b ≠ (A 3) → b ≠ (A 4) → b ≠ (A 5) → b ≠ (A 6) → b ≠ (A 7) → f b = f0 b := fun b hb h0 h1 h2 h3 h4 h5 => (hfr b (hLs b hb) h0 h1 h2 h3 h4 h5).trans (hF b hb h0 h1 h2 h3 h4 h5)
    have hLs : ∀ b ∈ L, b ∈ L77 := fun b hb => hLn b (hLs b hb)
    exact k_miret E hQ hlk hr hw (Nat.le_of_ble_eq_true rfl) (Nat.le_of_ble_eq_true rfl) (⟨hLs, fun b hb h => hF b hb (h 1 (by decide)) (h 3 (by decide)) (h 4 (by decide)) (h 5 (by decide)) (h 6 (by decide)) (h 7 (by decide)), by
      obtain ⟨SS2, hW2, hH⟩ := fin_hold (X := kd 3 (ix a) (ix m0)) (by rw [den_rb (by omega) (kd34_ev (by decide) (ix a) (ix m0))]) hA hB hSl hRm hLs hF h_nm hScr hcase
      exact ⟨SS2, hW2, sp_put_ok hj (by decide) (fun h => absurd h (by decide)) (fun h => absurd h (by decide)) hH⟩⟩) dX5_put_77
  · refine lv_iconst (v := -1) E.1.1 E.1.2.1 dX5_put_8 rfl ?_
    exact k_miret E hQ hlk hr hw (Nat.le_of_ble_eq_true rfl) (Nat.le_of_ble_eq_true rfl) (⟨hLs, fun b hb h => hF b hb (h 1 (by decide)) (h 3 (by decide)) (h 4 (by decide)) (h 5 (by decide)) (h 6 (by decide)) (h 7 (by decide)), SS, fin_keep hA hB hSl hRm hLs hF h_nm ⟨_, _, _, _, _, _, _, _, _, h_d, h_row, h_tr, h_rows, h_goes⟩ h_sl, sp_put_1 (nb c5)⟩) dX5_put_9

set_option maxHeartbeats 4000000 in
set_option maxRecDepth 100000 in
theorem p_put4 (l : Launch) (D : va_G) (cy : Nat → ClassId) (L : List Nat) (f0 : Nat → va_E) (sz : Nat) (M : List Nat) (A : Nat → Nat) (base : Nat) (SS : Nat → Nat → Bool) (kp : Nat → Bool) (kb : Nat → Nat) (KS : Nat → Nat → Nat → Bool) (hA : AdOK L M A) (hN : NmW cy L f0 M A base SS kp kb KS) (to : Int32) (a m0 : Int32) : Met l yX5_put (.code yX5_put cX5_put 5 (Option.some FieldType.int) :: wsL_law) { frames := 6, cells := 4, slots := 331, locals := 128 } (va_Pc [.ref (A 0), .int to, .int (nI 4), .int a, .int m0] (PW D cy L f0 sz)) (va_Qi (fun (r : Int32) (u : List Nat × (Nat → va_E)) => (∀ b ∈ L, b ∈ u.1) ∧ (∀ b ∈ L, (∀ i, i < 12 → b ≠ A i) → u.2 b = f0 b) ∧ ∃ SS2, NmW cy u.1 u.2 M A base SS2 kp kb KS ∧ sp_put base SS SS2 to (nI 4) a m0 r) (PB D (AW L sz)) (AW L sz)) 4 331 (AW L sz) := by
  refine m_start (by decide) (Nat.le_of_ble_eq_true rfl) ?_
  intro p e R Q s m args below meth c ls hsz hR hQ E hr hlk hnm hw hl
  have hl : lv_has ls 5 [(0, .ref (A 0)), (1, .int to), (2, .int (nI 4)), (3, .int a), (4, .int m0)] := hl
  obtain ⟨H, hH⟩ : ∃ X, X = s.heap := ⟨_, rfl⟩
  obtain ⟨locs, hlocs⟩ : ∃ X : List Loc, X = [] := ⟨_, rfl⟩
  have hw0 := hw
  obtain ⟨hB, h_nm, ⟨sa, h_sl, hSl⟩, ⟨i1, i2, j1, j2, j3, j4, g, B0, G0, h_d, h_row, h_tr, h_rows, h_goes⟩, hRm⟩ := hN
  have hb2 := hB.two
  obtain ⟨f, hf0⟩ : ∃ X, X = f0 := ⟨_, rfl⟩
  rw [← hf0] at h_nm h_sl h_d h_row h_tr h_rows h_goes
  have hw : WW D (AW L sz) s.heap L f H locs := by rw [hH, hlocs, hf0]; exact hw
  have hF : ∀ b ∈ L, b ≠ (A 1) → b ≠ (A 3) → b ≠ (A 4) → b ≠ (A 5) → b ≠ (A 6) → b ≠ (A 7) → f b = f0 b := fun b hb h0 h1 h2 h3 h4 h5 => by rw [hf0]
  suffices hgo : W p l e R s m args below meth c H locs 0 0 Q (F0 m 0 ls []) by rw [hH, hlocs] at hgo; exact hgo
  clear hH hlocs hw0 hf0
  have hLs : ∀ b ∈ L, b ∈ L := fun _ h => h
  have n_nm_sl : A 0 ≠ A 1 := h_nm.ne h_sl (by simp)
  have n_nm_d : A 0 ≠ A 3 := h_nm.ne h_d (by simp)
  have n_nm_row : A 0 ≠ A 4 := h_nm.ne h_row (by simp)
  have n_nm_tr : A 0 ≠ A 5 := h_nm.ne h_tr (by simp)
  have n_nm_rows : A 0 ≠ A 6 := h_nm.ne h_rows (by simp)
  have n_nm_goes : A 0 ≠ A 7 := h_nm.ne h_goes (by simp)
  have n_sl_d : A 1 ≠ A 3 := h_sl.ne h_d (by simp)
  have n_sl_row : A 1 ≠ A 4 := h_sl.ne h_row (by simp)
  have n_sl_tr : A 1 ≠ A 5 := h_sl.ne h_tr (by simp)
  have n_sl_rows : A 1 ≠ A 6 := h_sl.ne h_rows (by simp)
  have n_sl_goes : A 1 ≠ A 7 := h_sl.ne h_goes (by simp)
  have n_d_sl : A 3 ≠ A 1 := h_d.ne h_sl (by simp)
  have n_d_row : A 3 ≠ A 4 := h_d.ne h_row (by simp)
  have n_d_tr : A 3 ≠ A 5 := h_d.ne h_tr (by simp)
  have n_d_rows : A 3 ≠ A 6 := h_d.ne h_rows (by simp)
  have n_d_goes : A 3 ≠ A 7 := h_d.ne h_goes (by simp)
  have n_row_sl : A 4 ≠ A 1 := h_row.ne h_sl (by simp)
  have n_row_d : A 4 ≠ A 3 := h_row.ne h_d (by simp)
  have n_row_tr : A 4 ≠ A 5 := h_row.ne h_tr (by simp)
  have n_row_rows : A 4 ≠ A 6 := h_row.ne h_rows (by simp)
  have n_row_goes : A 4 ≠ A 7 := h_row.ne h_goes (by simp)
  have n_tr_sl : A 5 ≠ A 1 := h_tr.ne h_sl (by simp)
  have n_tr_d : A 5 ≠ A 3 := h_tr.ne h_d (by simp)
  have n_tr_row : A 5 ≠ A 4 := h_tr.ne h_row (by simp)
  have n_tr_rows : A 5 ≠ A 6 := h_tr.ne h_rows (by simp)
  have n_tr_goes : A 5 ≠ A 7 := h_tr.ne h_goes (by simp)
  have n_rows_sl : A 6 ≠ A 1 := h_rows.ne h_sl (by simp)
  have n_rows_d : A 6 ≠ A 3 := h_rows.ne h_d (by simp)
  have n_rows_row : A 6 ≠ A 4 := h_rows.ne h_row (by simp)
  have n_rows_tr : A 6 ≠ A 5 := h_rows.ne h_tr (by simp)
  have n_rows_goes : A 6 ≠ A 7 := h_rows.ne h_goes (by simp)
  have n_goes_sl : A 7 ≠ A 1 := h_goes.ne h_sl (by simp)
  have n_goes_d : A 7 ≠ A 3 := h_goes.ne h_d (by simp)
  have n_goes_row : A 7 ≠ A 4 := h_goes.ne h_row (by simp)
  have n_goes_tr : A 7 ≠ A 5 := h_goes.ne h_tr (by simp)
  have n_goes_rows : A 7 ≠ A 6 := h_goes.ne h_rows (by simp)
  refine lv_aload_n E.1.1 E.1.2.1 dX5_put_0 rfl (lv_at hl 0 rfl) ?_
  refine lv_iload_n E.1.1 E.1.2.1 dX5_put_1 rfl (lv_at hl 1 rfl) ?_
  refine k_ri (va_runV (As := [.int to]) (rest := []) E.1 (c_unknown l D cy L f H.size (A 0) (A 1) (A 2) (A 3) (A 5) base sa to h_nm h_sl) ⟨callB_of 1 E.1.2.2.2.2 (gd_own w2_18) rfl rfl rfl (E.1.2.2.2.2 _ w1_1) (E.1.2.2.2.2 _ w2_15) hd_X5_unknown (by rw [hR]; exact ⟨Nat.le_of_ble_eq_true rfl, Nat.le_of_ble_eq_true rfl⟩), E.1.2.2.2.2 _ w2_17, E.1.2.2.2.2 _ ws_9⟩ (pw_preV (q := (RX5, TX5, 5)) E.2 hw h_nm rfl) rfl rfl hl.1 rfl (lv_room (Nat.le_of_ble_eq_true rfl)) dX5_put_2 ⟨Nat.zero_le _, Nat.zero_le _⟩) ?_
  refine k_if0 (tgt := 10) E dX5_put_5 (by decide) (fun c5 => ?_) (fun c5 => ?_)
  · obtain ⟨j, hj, rfl⟩ := inS_ex c5
    refine lv_iload_n E.1.1 E.1.2.1 dX5_put_10 rfl (lv_at hl 2 rfl) ?_
    refine lv_iconst (v := nI 0) E.1.1 E.1.2.1 dX5_put_11 rfl ?_
    refine lv_iconst (v := nI 4) E.1.1 E.1.2.1 dX5_put_12 rfl ?_
    refine k_ri (va_runS (As := [.int (nI 4), .int (nI 0), .int (nI 4)]) (rest := []) E.1 (c_within l D cy L f H.size (nI 4) (nI 0) (nI 4)) ⟨callB_of 3 E.1.2.2.2.2 (gd_own w2_21) rfl rfl rfl (E.1.2.2.2.2 _ w1_1) (E.1.2.2.2.2 _ w2_19) hd_X5_within (by rw [hR]; exact ⟨Nat.le_of_ble_eq_true rfl, Nat.le_of_ble_eq_true rfl⟩), E.1.2.2.2.2 _ w2_20⟩ (pw_pre E.2 hw) rfl rfl hl.1 rfl (lv_room (Nat.le_of_ble_eq_true rfl)) dX5_put_13 ⟨Nat.zero_le _, Nat.zero_le _⟩) ?_
    refine k_if1 (tgt := 22) E dX5_put_16 (by decide) (fun c16 => ?_) (fun c16 => absurd (show i32in (nI 4) 0 (nI 4) = false from c16) (by rw [in_t (by decide) (by decide)]; decide))
    refine lv_iload_n E.1.1 E.1.2.1 dX5_put_22 rfl (lv_at hl 2 rfl) ?_
    refine lv_iconst (v := nI 3) E.1.1 E.1.2.1 dX5_put_23 rfl ?_
    refine k_eq (tgt := 45) E dX5_put_24 (by decide) (by omega) (by omega) (fun c24 => absurd c24 (by decide)) (fun c24 => ?_)
    refine lv_iload_n E.1.1 E.1.2.1 dX5_put_27 rfl (lv_at hl 2 rfl) ?_
    refine lv_iconst (v := nI 4) E.1.1 E.1.2.1 dX5_put_28 rfl ?_
    refine k_eq (tgt := 45) E dX5_put_29 (by decide) (by omega) (by omega) (fun c29 => ?_) (fun c29 => absurd c29 (by decide))
    refine lv_iload_n E.1.1 E.1.2.1 dX5_put_45 rfl (lv_at hl 2 rfl) ?_
    refine lv_iconst (v := nI 2) E.1.1 E.1.2.1 dX5_put_46 rfl ?_
    refine k_ne (tgt := 64) E dX5_put_47 (by decide) (by omega) (by omega) (fun c47 => ?_) (fun c47 => absurd c47 (by decide))
    refine lv_aload_n E.1.1 E.1.2.1 dX5_put_64 rfl (lv_at hl 0 rfl) ?_
    refine lv_iload_n E.1.1 E.1.2.1 dX5_put_65 rfl (lv_at hl 2 rfl) ?_
    refine lv_iload_n E.1.1 E.1.2.1 dX5_put_66 rfl (lv_at hl 3 rfl) ?_
    refine lv_iload E.1.1 E.1.2.1 dX5_put_67 (lv_at hl 4 rfl) ?_
    refine k_mv hw (va_runV (As := [.int (nI 4), .int a, .int m0]) (rest := []) E.1 (c_draftKind4 l D cy L f H.size (A 0) (A 1) (A 2) (A 3) (A 5) base (A 4) (ix a) (ix m0) i1 i2 g a m0 h_nm h_d h_row) ⟨callB_of 3 E.1.2.2.2.2 (gd_own w2_25) rfl rfl rfl (E.1.2.2.2.2 _ w1_1) (E.1.2.2.2.2 _ w2_22) hd_X5_draftKind (by rw [hR]; exact ⟨Nat.le_of_ble_eq_true rfl, Nat.le_of_ble_eq_true rfl⟩), E.1.2.2.2.2 _ w2_24, E.1.2.2.2.2 _ ws_10⟩ (pw_preV (q := (RX5, TX5, 5)) E.2 hw h_nm rfl) rfl rfl hl.1 rfl (lv_room (Nat.le_of_ble_eq_true rfl)) dX5_put_69 (by rw [hR]; exact ⟨Nat.le_of_ble_eq_true rfl, Nat.le_of_ble_eq_true rfl⟩)) (fun L1 f H locs hp hw => ?_)
    obtain ⟨hL1, hfr, h_d, h_row⟩ := hp
    have hL1 : L = L1 := hL1
    subst hL1
    have h_d : cel L f (A 3) (.inr (0, [.ref (A 4), .int (nI (0)), .int (nI (1))])) := h_d
    have h_row : cel L f (A 4) (.inl (cy 1, 59, .inr (.inl (wd (rb (kd 4 (ix a) (ix m0)) (0 + 1)))))) := h_row
    have h_nm := h_nm.keep (fun _ h => h) (hfr _ h_nm.1 n_nm_d n_nm_row)
    have h_sl := h_sl.keep (fun _ h => h) (hfr _ h_sl.1 n_sl_d n_sl_row)
    have h_tr := h_tr.keep (fun _ h => h) (hfr _ h_tr.1 n_tr_d n_tr_row)
    have h_rows := h_rows.keep (fun _ h => h) (hfr _ h_rows.1 n_rows_d n_rows_row)
    have h_goes := h_goes.keep (fun _ h => h) (hfr _ h_goes.1 n_goes_d n_goes_row)
    have hF : ∀ b ∈ L, b ≠ (A 1) → b ≠ (A 3) → b ≠ (A 4) → b ≠ (A 5) → b ≠ (A 6) → b ≠ (A 7) → f b = f0 b := fun b hb h0 h1 h2 h3 h4 h5 => (hfr b (hLs b hb) h1 h2).trans (hF b hb h0 h1 h2 h3 h4 h5)
    refine lv_aload_n E.1.1 E.1.2.1 dX5_put_72 rfl (lv_at hl 0 rfl) ?_
    refine lv_iload_n E.1.1 E.1.2.1 dX5_put_73 rfl (lv_at hl 1 rfl) ?_
    refine k_mi hw (va_runV (As := [.int (nI j)]) (rest := []) E.1 (c_hold l D cy L f H.size (A 0) (A 1) (A 2) (A 3) (A 4) (A 5) (A 6) (A 7) base (0) (1) j M j1 j2 j3 j4 (rb (kd 4 (ix a) (ix m0)) (0 + 1)) B0 G0 sa (by omega) (by omega) (by omega) (by omega) hA.2.2 (by omega) (hA.1 1 (by decide)) h_nm h_sl h_d h_row h_tr h_rows h_goes) ⟨callB_of 1 E.1.2.2.2.2 (gd_own w2_36) rfl rfl rfl (E.1.2.2.2.2 _ w1_1) (E.1.2.2.2.2 _ w2_33) hd_X5_hold (by rw [hR]; exact ⟨Nat.le_of_ble_eq_true rfl, Nat.le_of_ble_eq_true rfl⟩), E.1.2.2.2.2 _ w2_35, E.1.2.2.2.2 _ ws_11⟩ (pw_preV (q := (RX5, TX5, 5)) E.2 hw h_nm rfl) rfl rfl hl.1 rfl (lv_room (Nat.le_of_ble_eq_true rfl)) dX5_put_74 (by rw [hR]; exact ⟨Nat.le_of_ble_eq_true rfl, Nat.le_of_ble_eq_true rfl⟩)) (fun r L77 f H locs hp hw => ?_)
    refine W.cs (cells' := 4) (slots' := 331) rfl rfl ?_
    obtain ⟨hLn, hfr, hScr, hcase⟩ := hp
    dsimp only at hLn hfr hScr hcase
    have h_nm := h_nm.keep hLn (hfr _ h_nm.1 n_nm_sl n_nm_d n_nm_row n_nm_tr n_nm_rows n_nm_goes)
    have hF : ∀ b ∈ L, b ≠ (A 1) → b ≠ (A 3) → b ≠ (A 4) → b ≠ (A 5) → b ≠ (A 6) → b ≠ (A 7) → f b = f0 b := fun b hb h0 h1 h2 h3 h4 h5 => (hfr b (hLs b hb) h0 h1 h2 h3 h4 h5).trans (hF b hb h0 h1 h2 h3 h4 h5)
    have hLs : ∀ b ∈ L, b ∈ L77 := fun b hb => hLn b (hLs b hb)
    exact k_miret E hQ hlk hr hw (Nat.le_of_ble_eq_true rfl) (Nat.le_of_ble_eq_true rfl) (⟨hLs, fun b hb h => hF b hb (h 1 (by decide)) (h 3 (by decide)) (h 4 (by decide)) (h 5 (by decide)) (h 6 (by decide)) (h 7 (by decide)), by
      obtain ⟨SS2, hW2, hH⟩ := fin_hold (X := kd 4 (ix a) (ix m0)) (by rw [den_rb (by omega) (kd34_ev (by decide) (ix a) (ix m0))]) hA hB hSl hRm hLs hF h_nm hScr hcase
      exact ⟨SS2, hW2, sp_put_ok hj (by decide) (fun h => absurd h (by decide)) (fun h => absurd h (by decide)) hH⟩⟩) dX5_put_77
  · refine lv_iconst (v := -1) E.1.1 E.1.2.1 dX5_put_8 rfl ?_
    exact k_miret E hQ hlk hr hw (Nat.le_of_ble_eq_true rfl) (Nat.le_of_ble_eq_true rfl) (⟨hLs, fun b hb h => hF b hb (h 1 (by decide)) (h 3 (by decide)) (h 4 (by decide)) (h 5 (by decide)) (h 6 (by decide)) (h 7 (by decide)), SS, fin_keep hA hB hSl hRm hLs hF h_nm ⟨_, _, _, _, _, _, _, _, _, h_d, h_row, h_tr, h_rows, h_goes⟩ h_sl, sp_put_1 (nb c5)⟩) dX5_put_9

set_option maxHeartbeats 4000000 in
set_option maxRecDepth 100000 in
theorem p_putx (l : Launch) (D : va_G) (cy : Nat → ClassId) (L : List Nat) (f0 : Nat → va_E) (sz : Nat) (M : List Nat) (A : Nat → Nat) (base : Nat) (SS : Nat → Nat → Bool) (kp : Nat → Bool) (kb : Nat → Nat) (KS : Nat → Nat → Nat → Bool) (hA : AdOK L M A) (hN : NmW cy L f0 M A base SS kp kb KS) (to kind a m0 : Int32) (hin : i32in kind 0 (nI 4) = false) : Met l yX5_put (.code yX5_put cX5_put 5 (Option.some FieldType.int) :: wsL_law) { frames := 1, cells := 4, slots := 331, locals := 22 } (va_Pc [.ref (A 0), .int to, .int kind, .int a, .int m0] (PW D cy L f0 sz)) (va_Qi (fun (r : Int32) (u : List Nat × (Nat → va_E)) => (∀ b ∈ L, b ∈ u.1) ∧ (∀ b ∈ L, (∀ i, i < 12 → b ≠ A i) → u.2 b = f0 b) ∧ ∃ SS2, NmW cy u.1 u.2 M A base SS2 kp kb KS ∧ sp_put base SS SS2 to kind a m0 r) (PB D (AW L sz)) (AW L sz)) 4 331 (AW L sz) := by
  refine m_start (by decide) (Nat.le_of_ble_eq_true rfl) ?_
  intro p e R Q s m args below meth c ls hsz hR hQ E hr hlk hnm hw hl
  have hl : lv_has ls 5 [(0, .ref (A 0)), (1, .int to), (2, .int kind), (3, .int a), (4, .int m0)] := hl
  obtain ⟨H, hH⟩ : ∃ X, X = s.heap := ⟨_, rfl⟩
  obtain ⟨locs, hlocs⟩ : ∃ X : List Loc, X = [] := ⟨_, rfl⟩
  have hw0 := hw
  obtain ⟨hB, h_nm, ⟨sa, h_sl, hSl⟩, ⟨i1, i2, j1, j2, j3, j4, g, B0, G0, h_d, h_row, h_tr, h_rows, h_goes⟩, hRm⟩ := hN
  have hb2 := hB.two
  obtain ⟨f, hf0⟩ : ∃ X, X = f0 := ⟨_, rfl⟩
  rw [← hf0] at h_nm h_sl h_d h_row h_tr h_rows h_goes
  have hw : WW D (AW L sz) s.heap L f H locs := by rw [hH, hlocs, hf0]; exact hw
  have hF : ∀ b ∈ L, b ≠ (A 1) → b ≠ (A 3) → b ≠ (A 4) → b ≠ (A 5) → b ≠ (A 6) → b ≠ (A 7) → f b = f0 b := fun b hb h0 h1 h2 h3 h4 h5 => by rw [hf0]
  suffices hgo : W p l e R s m args below meth c H locs 0 0 Q (F0 m 0 ls []) by rw [hH, hlocs] at hgo; exact hgo
  clear hH hlocs hw0 hf0
  have hLs : ∀ b ∈ L, b ∈ L := fun _ h => h
  have n_nm_sl : A 0 ≠ A 1 := h_nm.ne h_sl (by simp)
  have n_nm_d : A 0 ≠ A 3 := h_nm.ne h_d (by simp)
  have n_nm_row : A 0 ≠ A 4 := h_nm.ne h_row (by simp)
  have n_nm_tr : A 0 ≠ A 5 := h_nm.ne h_tr (by simp)
  have n_nm_rows : A 0 ≠ A 6 := h_nm.ne h_rows (by simp)
  have n_nm_goes : A 0 ≠ A 7 := h_nm.ne h_goes (by simp)
  have n_sl_d : A 1 ≠ A 3 := h_sl.ne h_d (by simp)
  have n_sl_row : A 1 ≠ A 4 := h_sl.ne h_row (by simp)
  have n_sl_tr : A 1 ≠ A 5 := h_sl.ne h_tr (by simp)
  have n_sl_rows : A 1 ≠ A 6 := h_sl.ne h_rows (by simp)
  have n_sl_goes : A 1 ≠ A 7 := h_sl.ne h_goes (by simp)
  have n_d_sl : A 3 ≠ A 1 := h_d.ne h_sl (by simp)
  have n_d_row : A 3 ≠ A 4 := h_d.ne h_row (by simp)
  have n_d_tr : A 3 ≠ A 5 := h_d.ne h_tr (by simp)
  have n_d_rows : A 3 ≠ A 6 := h_d.ne h_rows (by simp)
  have n_d_goes : A 3 ≠ A 7 := h_d.ne h_goes (by simp)
  have n_row_sl : A 4 ≠ A 1 := h_row.ne h_sl (by simp)
  have n_row_d : A 4 ≠ A 3 := h_row.ne h_d (by simp)
  have n_row_tr : A 4 ≠ A 5 := h_row.ne h_tr (by simp)
  have n_row_rows : A 4 ≠ A 6 := h_row.ne h_rows (by simp)
  have n_row_goes : A 4 ≠ A 7 := h_row.ne h_goes (by simp)
  have n_tr_sl : A 5 ≠ A 1 := h_tr.ne h_sl (by simp)
  have n_tr_d : A 5 ≠ A 3 := h_tr.ne h_d (by simp)
  have n_tr_row : A 5 ≠ A 4 := h_tr.ne h_row (by simp)
  have n_tr_rows : A 5 ≠ A 6 := h_tr.ne h_rows (by simp)
  have n_tr_goes : A 5 ≠ A 7 := h_tr.ne h_goes (by simp)
  have n_rows_sl : A 6 ≠ A 1 := h_rows.ne h_sl (by simp)
  have n_rows_d : A 6 ≠ A 3 := h_rows.ne h_d (by simp)
  have n_rows_row : A 6 ≠ A 4 := h_rows.ne h_row (by simp)
  have n_rows_tr : A 6 ≠ A 5 := h_rows.ne h_tr (by simp)
  have n_rows_goes : A 6 ≠ A 7 := h_rows.ne h_goes (by simp)
  have n_goes_sl : A 7 ≠ A 1 := h_goes.ne h_sl (by simp)
  have n_goes_d : A 7 ≠ A 3 := h_goes.ne h_d (by simp)
  have n_goes_row : A 7 ≠ A 4 := h_goes.ne h_row (by simp)
  have n_goes_tr : A 7 ≠ A 5 := h_goes.ne h_tr (by simp)
  have n_goes_rows : A 7 ≠ A 6 := h_goes.ne h_rows (by simp)
  refine lv_aload_n E.1.1 E.1.2.1 dX5_put_0 rfl (lv_at hl 0 rfl) ?_
  refine lv_iload_n E.1.1 E.1.2.1 dX5_put_1 rfl (lv_at hl 1 rfl) ?_
  refine k_ri (va_runV (As := [.int to]) (rest := []) E.1 (c_unknown l D cy L f H.size (A 0) (A 1) (A 2) (A 3) (A 5) base sa to h_nm h_sl) ⟨callB_of 1 E.1.2.2.2.2 (gd_own w2_18) rfl rfl rfl (E.1.2.2.2.2 _ w1_1) (E.1.2.2.2.2 _ w2_15) hd_X5_unknown (by rw [hR]; exact ⟨Nat.le_of_ble_eq_true rfl, Nat.le_of_ble_eq_true rfl⟩), E.1.2.2.2.2 _ w2_17, E.1.2.2.2.2 _ ws_9⟩ (pw_preV (q := (RX5, TX5, 5)) E.2 hw h_nm rfl) rfl rfl hl.1 rfl (lv_room (Nat.le_of_ble_eq_true rfl)) dX5_put_2 ⟨Nat.zero_le _, Nat.zero_le _⟩) ?_
  refine k_if0 (tgt := 10) E dX5_put_5 (by decide) (fun c5 => ?_) (fun c5 => ?_)
  · obtain ⟨j, hj, rfl⟩ := inS_ex c5
    refine lv_iload_n E.1.1 E.1.2.1 dX5_put_10 rfl (lv_at hl 2 rfl) ?_
    refine lv_iconst (v := nI 0) E.1.1 E.1.2.1 dX5_put_11 rfl ?_
    refine lv_iconst (v := nI 4) E.1.1 E.1.2.1 dX5_put_12 rfl ?_
    refine k_ri (va_runS (As := [.int kind, .int (nI 0), .int (nI 4)]) (rest := []) E.1 (c_within l D cy L f H.size kind (nI 0) (nI 4)) ⟨callB_of 3 E.1.2.2.2.2 (gd_own w2_21) rfl rfl rfl (E.1.2.2.2.2 _ w1_1) (E.1.2.2.2.2 _ w2_19) hd_X5_within (by rw [hR]; exact ⟨Nat.le_of_ble_eq_true rfl, Nat.le_of_ble_eq_true rfl⟩), E.1.2.2.2.2 _ w2_20⟩ (pw_pre E.2 hw) rfl rfl hl.1 rfl (lv_room (Nat.le_of_ble_eq_true rfl)) dX5_put_13 ⟨Nat.zero_le _, Nat.zero_le _⟩) ?_
    refine k_if1 (tgt := 22) E dX5_put_16 (by decide) (fun c16 => absurd (show i32in kind 0 (nI 4) = true from c16) (by rw [hin]; decide)) (fun c16 => ?_)
    refine lv_bipush (v := -2) E.1.1 E.1.2.1 dX5_put_19 rfl ?_
    exact k_miret E hQ hlk hr hw (Nat.le_of_ble_eq_true rfl) (Nat.le_of_ble_eq_true rfl) (⟨hLs, fun b hb h => hF b hb (h 1 (by decide)) (h 3 (by decide)) (h 4 (by decide)) (h 5 (by decide)) (h 6 (by decide)) (h 7 (by decide)), SS, fin_keep hA hB hSl hRm hLs hF h_nm ⟨_, _, _, _, _, _, _, _, _, h_d, h_row, h_tr, h_rows, h_goes⟩ h_sl, sp_put_2 hj (Or.inl hin)⟩) dX5_put_21
  · refine lv_iconst (v := -1) E.1.1 E.1.2.1 dX5_put_8 rfl ?_
    exact k_miret E hQ hlk hr hw (Nat.le_of_ble_eq_true rfl) (Nat.le_of_ble_eq_true rfl) (⟨hLs, fun b hb h => hF b hb (h 1 (by decide)) (h 3 (by decide)) (h 4 (by decide)) (h 5 (by decide)) (h 6 (by decide)) (h 7 (by decide)), SS, fin_keep hA hB hSl hRm hLs hF h_nm ⟨_, _, _, _, _, _, _, _, _, h_d, h_row, h_tr, h_rows, h_goes⟩ h_sl, sp_put_1 (nb c5)⟩) dX5_put_9
