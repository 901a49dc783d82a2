def sp_base (base : Nat) (SS : Nat → Nat → Bool) (base2 : Nat) (SS2 : Nat → Nat → Bool) (n r : Int32) : Prop := if n = 2 ∨ n = 3 ∨ n = 5 then r = nI base ∧ base2 = ix n ∧ SS2 = fun _ _ => false else r = -2 ∧ base2 = base ∧ SS2 = SS
def sp_image (base : Nat) (SS : Nat → Nat → Bool) (kp kp2 : Nat → Bool) (kb kb2 : Nat → Nat) (KS KS2 : Nat → Nat → Nat → Bool) (x r : Int32) : Prop := if i32in x 0 (nI 1) = false then r = -2 ∧ kp2 = kp ∧ kb2 = kb ∧ KS2 = KS else r = 1 ∧ kp2 = va_up kp (ix x) true ∧ kb2 = va_up kb (ix x) base ∧ KS2 = va_up KS (ix x) SS
def sp_restore (base : Nat) (SS : Nat → Nat → Bool) (base2 : Nat) (SS2 : Nat → Nat → Bool) (kp : Nat → Bool) (kb : Nat → Nat) (KS : Nat → Nat → Nat → Bool) (x r : Int32) : Prop := if i32in x 0 (nI 1) = false then r = -2 ∧ base2 = base ∧ SS2 = SS else if kp (ix x) = false then r = -3 ∧ base2 = base ∧ SS2 = SS else r = 1 ∧ base2 = kb (ix x) ∧ SS2 = KS (ix x)
theorem fin_base {cy : Nat → ClassId} {L L1 : List Nat} {f0 f : Nat → va_E} {M : List Nat} {A : Nat → Nat} {nb : Nat} {kp : Nat → Bool} {kb : Nat → Nat} {KS : Nat → Nat → Nat → Bool} {q : Nat} (hA : AdOK L M A) (hB : B235 nb) (hR : NmR cy L f0 M A kp kb KS) (hLs : ∀ b ∈ L, b ∈ L1) (hF : ∀ b ∈ L, b ≠ A 0 → b ≠ A 1 → b ≠ A 3 → b ≠ A 4 → b ≠ A 5 → b ≠ A 6 → b ≠ A 7 → f b = f0 b) (h_nm : cel L1 f (A 0) (.inr (5, [.ref (A 1), .ref (A 2), .ref (A 3), .ref (A 5), .int (nI nb)]))) (hs : Scr cy L1 f (A 3) (A 4) (A 5) (A 6) (A 7)) (hq : Rnd cy L1 f M q (fun _ => false) nb) (h_sl : cel L1 f (A 1) (.inl (cy 4, 6, .inr (.inr (.inr (.inr (fun _ => some q))))))) : NmW cy L1 f M A nb (fun _ _ => false) kp kb KS :=
  ⟨hB, h_nm, ⟨fun _ => q, h_sl, fun _ _ => hq⟩, hs, hR.keep hA hLs hF⟩
theorem Rnd.obj {cy : Nat → ClassId} {L : List Nat} {f : Nat → va_E} {M : List Nat} {a : Nat} {S : Nat → Bool} {base : Nat} (h : Rnd cy L f M a S base) : (∃ vs, cel L f a (.inr (3, vs))) ∧ a ∉ M := by
  obtain ⟨t, q, b, n, _, _, rw, mc, gs, m1, _, _, _, h1, _⟩ := h
  exact ⟨⟨_, h1⟩, m1⟩
theorem Scr.keep {cy : Nat → ClassId} {L L1 : List Nat} {f f1 : Nat → va_E} {d r0 tr ro go : Nat} (h : Scr cy L f d r0 tr ro go) (hL : ∀ b ∈ L, b ∈ L1) (h1 : f1 d = f d) (h2 : f1 r0 = f r0) (h3 : f1 tr = f tr) (h4 : f1 ro = f ro) (h5 : f1 go = f go) : Scr cy L1 f1 d r0 tr ro go := by
  obtain ⟨i1, i2, j1, j2, j3, j4, g, B, G, a1, a2, a3, a4, a5⟩ := h
  exact ⟨i1, i2, j1, j2, j3, j4, g, B, G, a1.keep hL h1, a2.keep hL h2, a3.keep hL h3, a4.keep hL h4, a5.keep hL h5⟩
theorem NmW.keep {cy : Nat → ClassId} {L L1 : List Nat} {f f1 : Nat → va_E} {M : List Nat} {A : Nat → Nat} {base : Nat} {SS : Nat → Nat → Bool} {kp : Nat → Bool} {kb : Nat → Nat} {KS : Nat → Nat → Nat → Bool} (h : NmW cy L f M A base SS kp kb KS) (hL : ∀ b ∈ L, b ∈ L1) (hf : ∀ b ∈ L, f1 b = f b) : NmW cy L1 f1 M A base SS kp kb KS := by
  obtain ⟨hB, h_nm, ⟨sa, h_sl, hSl⟩, ⟨i1, i2, j1, j2, j3, j4, g, B, G, a1, a2, a3, a4, a5⟩, hi, ⟨ia, g1, g2, g3⟩, ⟨ib, k1, k2, k3⟩⟩ := h
  refine ⟨hB, h_nm.keep hL (hf _ h_nm.1), ⟨sa, h_sl.keep hL (hf _ h_sl.1), fun j hj => (hSl j hj).keep hL (fun b hb _ => hf b hb)⟩, ⟨i1, i2, j1, j2, j3, j4, g, B, G, a1.keep hL (hf _ a1.1), a2.keep hL (hf _ a2.1), a3.keep hL (hf _ a3.1), a4.keep hL (hf _ a4.1), a5.keep hL (hf _ a5.1)⟩, hi.keep hL (hf _ hi.1), ⟨ia, g1.keep hL (hf _ g1.1), g2.keep hL (hf _ g2.1), fun q => ⟨(g3 q).1, ?_⟩⟩, ⟨ib, k1.keep hL (hf _ k1.1), k2.keep hL (hf _ k2.1), fun q => ⟨(k3 q).1, ?_⟩⟩⟩
  · obtain ⟨ga, e, hq⟩ := (g3 q).2
    exact ⟨ga, e, fun j hj => (hq j hj).keep hL (fun b hb _ => hf b hb)⟩
  · obtain ⟨ga, e, hq⟩ := (k3 q).2
    exact ⟨ga, e, fun j hj => (hq j hj).keep hL (fun b hb _ => hf b hb)⟩
set_option maxHeartbeats 4000000 in
set_option maxRecDepth 100000 in
theorem p_base (l : Launch) (D : va_G) (cy : Nat → ClassId) (L : List Nat) (f0 : Nat → va_E) (sz : Nat) (M : List Nat) (A : Nat → Nat) (base : Nat) (SS : Nat → Nat → Bool) (kp : Nat → Bool) (kb : Nat → Nat) (KS : Nat → Nat → Nat → Bool) (hA : AdOK L M A) (hN : NmW cy L f0 M A base SS kp kb KS) (n : Int32) : Met l yX5_base (.code yX5_base cX5_base 3 (Option.some FieldType.int) :: wsL_law) { frames := 6, cells := 4, slots := 331, locals := 129 } (va_Pc [.ref (A 0), .int n] (PW D cy L f0 sz)) (va_Qi (fun (r : Int32) (u : List Nat × (Nat → va_E)) => (∀ b ∈ L, b ∈ u.1) ∧ (∀ b ∈ L, (∀ i, i < 12 → b ≠ A i) → u.2 b = f0 b) ∧ ∃ base2 SS2, NmW cy u.1 u.2 M A base2 SS2 kp kb KS ∧ sp_base base SS base2 SS2 n r) (PB D (AW L sz)) (AW L sz)) 4 331 (AW L sz) := by
  refine m_start (by decide) (Nat.le_of_ble_eq_true rfl) ?_
  intro p e R Q s m args below meth c ls hsz hR hQ E hr hlk hnm hw hl
  have hl : lv_has ls 3 [(0, .ref (A 0)), (1, .int n)] := hl
  obtain ⟨H, hH⟩ : ∃ X, X = s.heap := ⟨_, rfl⟩
  obtain ⟨locs, hlocs⟩ : ∃ X : List Loc, X = [] := ⟨_, rfl⟩
  have hw0 := hw
  obtain ⟨hB, h_nm, ⟨sa, h_sl, hSl⟩, ⟨i1, i2, j1, j2, j3, j4, g, B0, G0, h_d, h_row, h_tr, h_rows, h_goes⟩, hRm⟩ := hN
  have hb2 := hB.two
  obtain ⟨f, hf0⟩ : ∃ X, X = f0 := ⟨_, rfl⟩
  rw [← hf0] at h_nm h_sl h_d h_row h_tr h_rows h_goes
  have hw : WW D (AW L sz) s.heap L f H locs := by rw [hH, hlocs, hf0]; exact hw
  have hF : ∀ b ∈ L, b ≠ (A 0) → b ≠ (A 1) → b ≠ (A 3) → b ≠ (A 4) → b ≠ (A 5) → b ≠ (A 6) → b ≠ (A 7) → f b = f0 b := fun b hb h0 h1 h2 h3 h4 h5 h6 => by rw [hf0]
  suffices hgo : W p l e R s m args below meth c H locs 0 0 Q (F0 m 0 ls []) by rw [hH, hlocs] at hgo; exact hgo
  clear hH hlocs hw0 hf0
  have hLs : ∀ b ∈ L, b ∈ L := fun _ h => h
  have n_nm_sl : A 0 ≠ A 1 := h_nm.ne h_sl (by simp)
  have n_nm_d : A 0 ≠ A 3 := h_nm.ne h_d (by simp)
  have n_nm_row : A 0 ≠ A 4 := h_nm.ne h_row (by simp)
  have n_nm_tr : A 0 ≠ A 5 := h_nm.ne h_tr (by simp)
  have n_nm_rows : A 0 ≠ A 6 := h_nm.ne h_rows (by simp)
  have n_nm_goes : A 0 ≠ A 7 := h_nm.ne h_goes (by simp)
  have n_sl_nm : A 1 ≠ A 0 := h_sl.ne h_nm (by simp)
  have n_sl_d : A 1 ≠ A 3 := h_sl.ne h_d (by simp)
  have n_sl_row : A 1 ≠ A 4 := h_sl.ne h_row (by simp)
  have n_sl_tr : A 1 ≠ A 5 := h_sl.ne h_tr (by simp)
  have n_sl_rows : A 1 ≠ A 6 := h_sl.ne h_rows (by simp)
  have n_sl_goes : A 1 ≠ A 7 := h_sl.ne h_goes (by simp)
  have n_d_nm : A 3 ≠ A 0 := h_d.ne h_nm (by simp)
  have n_d_sl : A 3 ≠ A 1 := h_d.ne h_sl (by simp)
  have n_d_row : A 3 ≠ A 4 := h_d.ne h_row (by simp)
  have n_d_tr : A 3 ≠ A 5 := h_d.ne h_tr (by simp)
  have n_d_rows : A 3 ≠ A 6 := h_d.ne h_rows (by simp)
  have n_d_goes : A 3 ≠ A 7 := h_d.ne h_goes (by simp)
  have n_row_nm : A 4 ≠ A 0 := h_row.ne h_nm (by simp)
  have n_row_sl : A 4 ≠ A 1 := h_row.ne h_sl (by simp)
  have n_row_d : A 4 ≠ A 3 := h_row.ne h_d (by simp)
  have n_row_tr : A 4 ≠ A 5 := h_row.ne h_tr (by simp)
  have n_row_rows : A 4 ≠ A 6 := h_row.ne h_rows (by simp)
  have n_row_goes : A 4 ≠ A 7 := h_row.ne h_goes (by simp)
  have n_tr_nm : A 5 ≠ A 0 := h_tr.ne h_nm (by simp)
  have n_tr_sl : A 5 ≠ A 1 := h_tr.ne h_sl (by simp)
  have n_tr_d : A 5 ≠ A 3 := h_tr.ne h_d (by simp)
  have n_tr_row : A 5 ≠ A 4 := h_tr.ne h_row (by simp)
  have n_tr_rows : A 5 ≠ A 6 := h_tr.ne h_rows (by simp)
  have n_tr_goes : A 5 ≠ A 7 := h_tr.ne h_goes (by simp)
  have n_rows_nm : A 6 ≠ A 0 := h_rows.ne h_nm (by simp)
  have n_rows_sl : A 6 ≠ A 1 := h_rows.ne h_sl (by simp)
  have n_rows_d : A 6 ≠ A 3 := h_rows.ne h_d (by simp)
  have n_rows_row : A 6 ≠ A 4 := h_rows.ne h_row (by simp)
  have n_rows_tr : A 6 ≠ A 5 := h_rows.ne h_tr (by simp)
  have n_rows_goes : A 6 ≠ A 7 := h_rows.ne h_goes (by simp)
  have n_goes_nm : A 7 ≠ A 0 := h_goes.ne h_nm (by simp)
  have n_goes_sl : A 7 ≠ A 1 := h_goes.ne h_sl (by simp)
  have n_goes_d : A 7 ≠ A 3 := h_goes.ne h_d (by simp)
  have n_goes_row : A 7 ≠ A 4 := h_goes.ne h_row (by simp)
  have n_goes_tr : A 7 ≠ A 5 := h_goes.ne h_tr (by simp)
  have n_goes_rows : A 7 ≠ A 6 := h_goes.ne h_rows (by simp)
  refine lv_iload_n E.1.1 E.1.2.1 dX5_base_0 rfl (lv_at hl 1 rfl) ?_
  refine lv_iconst (v := nI 2) E.1.1 E.1.2.1 dX5_base_1 rfl ?_
  refine lv_icmp_eq (tgt := 18) E.1.1 E.1.2.1 dX5_base_2 (by decide) (fun c2 => ?_) (fun c2 => ?_)
  · subst c2
    refine lv_aload_n E.1.1 E.1.2.1 dX5_base_18 rfl (lv_at hl 0 rfl) ?_
    refine k_get (v := .int (nI base)) E inlX5 rfl 4 (by decide) w1_235 rfl hw h_nm rfl dX5_base_19 ?_
    refine lv_istore_n (lv' := [(2, .int (nI base)), (0, .ref (A 0)), (1, .int (nI 2))]) E.1.1 E.1.2.1 dX5_base_22 rfl hl (by decide) rfl (fun ls hl => ?_)
    refine lv_aload_n E.1.1 E.1.2.1 dX5_base_23 rfl (lv_at hl 1 rfl) ?_
    refine lv_iload_n E.1.1 E.1.2.1 dX5_base_24 rfl (lv_at hl 2 rfl) ?_
    refine k_mv hw (va_runV (As := [.int (nI 2)]) (rest := []) E.1 (c_emptyAll l D cy L f H.size (A 0) (A 1) (A 2) (A 3) (A 4) (A 5) (A 6) (A 7) 2 M (nI base) i1 i2 j1 j2 j3 j4 g B0 G0 (fun k => some (sa k)) (by decide) (by decide) hA.2.2 (hA.1 1 (by decide)) h_nm h_sl h_d h_row h_tr h_rows h_goes) ⟨callB_of 1 E.1.2.2.2.2 (gd_own w1_93) rfl rfl rfl (E.1.2.2.2.2 _ w1_1) (E.1.2.2.2.2 _ w1_90) hd_X5_emptyAll (by rw [hR]; exact ⟨Nat.le_of_ble_eq_true rfl, Nat.le_of_ble_eq_true rfl⟩), E.1.2.2.2.2 _ w1_92, E.1.2.2.2.2 _ ws_0⟩ (pw_preV (q := (RX5, TX5, 5)) E.2 hw h_nm rfl) rfl rfl hl.1 rfl (lv_room (Nat.le_of_ble_eq_true rfl)) dX5_base_25 (by rw [hR]; exact ⟨Nat.le_of_ble_eq_true rfl, Nat.le_of_ble_eq_true rfl⟩)) (fun L77 f H locs hp hw => ?_)
    refine W.cs (cells' := 4) (slots' := 331) rfl rfl ?_
    obtain ⟨hLn, hfr, hScr, h_nm, q, hq, h_sl⟩ := hp
    dsimp only at hLn hfr hScr h_nm hq h_sl
    have hF : ∀ b ∈ L, b ≠ (A 0) → b ≠ (A 1) → b ≠ (A 3) → b ≠ (A 4) → b ≠ (A 5) → b ≠ (A 6) → b ≠ (A 7) → f b = f0 b := fun b hb h0 h1 h2 h3 h4 h5 h6 => (hfr b (hLs b hb) h0 h1 h2 h3 h4 h5 h6).trans (hF b hb h0 h1 h2 h3 h4 h5 h6)
    have hLs : ∀ b ∈ L, b ∈ L77 := fun b hb => hLn b (hLs b hb)
    refine lv_iload_n E.1.1 E.1.2.1 dX5_base_28 rfl (lv_at hl 0 rfl) ?_
    exact k_miret E hQ hlk hr hw (Nat.le_of_ble_eq_true rfl) (Nat.le_of_ble_eq_true rfl) (⟨hLs, fun b hb h => hF b hb (h 0 (by decide)) (h 1 (by decide)) (h 3 (by decide)) (h 4 (by decide)) (h 5 (by decide)) (h 6 (by decide)) (h 7 (by decide)), 2, fun _ _ => false, fin_base hA (by unfold B235; decide) hRm hLs hF h_nm hScr hq h_sl, by unfold sp_base; rw [if_pos (show nI 2 = 2 ∨ nI 2 = 3 ∨ nI 2 = 5 from Or.inl rfl)]; exact ⟨rfl, rfl, rfl⟩⟩) dX5_base_29
  · refine lv_iload_n E.1.1 E.1.2.1 dX5_base_5 rfl (lv_at hl 1 rfl) ?_
    refine lv_iconst (v := nI 3) E.1.1 E.1.2.1 dX5_base_6 rfl ?_
    refine lv_icmp_eq (tgt := 18) E.1.1 E.1.2.1 dX5_base_7 (by decide) (fun c7 => ?_) (fun c7 => ?_)
    · subst c7
      refine lv_aload_n E.1.1 E.1.2.1 dX5_base_18 rfl (lv_at hl 0 rfl) ?_
      refine k_get (v := .int (nI base)) E inlX5 rfl 4 (by decide) w1_235 rfl hw h_nm rfl dX5_base_19 ?_
      refine lv_istore_n (lv' := [(2, .int (nI base)), (0, .ref (A 0)), (1, .int (nI 3))]) E.1.1 E.1.2.1 dX5_base_22 rfl hl (by decide) rfl (fun ls hl => ?_)
      refine lv_aload_n E.1.1 E.1.2.1 dX5_base_23 rfl (lv_at hl 1 rfl) ?_
      refine lv_iload_n E.1.1 E.1.2.1 dX5_base_24 rfl (lv_at hl 2 rfl) ?_
      refine k_mv hw (va_runV (As := [.int (nI 3)]) (rest := []) E.1 (c_emptyAll l D cy L f H.size (A 0) (A 1) (A 2) (A 3) (A 4) (A 5) (A 6) (A 7) 3 M (nI base) i1 i2 j1 j2 j3 j4 g B0 G0 (fun k => some (sa k)) (by decide) (by decide) hA.2.2 (hA.1 1 (by decide)) h_nm h_sl h_d h_row h_tr h_rows h_goes) ⟨callB_of 1 E.1.2.2.2.2 (gd_own w1_93) rfl rfl rfl (E.1.2.2.2.2 _ w1_1) (E.1.2.2.2.2 _ w1_90) hd_X5_emptyAll (by rw [hR]; exact ⟨Nat.le_of_ble_eq_true rfl, Nat.le_of_ble_eq_true rfl⟩), E.1.2.2.2.2 _ w1_92, E.1.2.2.2.2 _ ws_0⟩ (pw_preV (q := (RX5, TX5, 5)) E.2 hw h_nm rfl) rfl rfl hl.1 rfl (lv_room (Nat.le_of_ble_eq_true rfl)) dX5_base_25 (by rw [hR]; exact ⟨Nat.le_of_ble_eq_true rfl, Nat.le_of_ble_eq_true rfl⟩)) (fun L77 f H locs hp hw => ?_)
      refine W.cs (cells' := 4) (slots' := 331) rfl rfl ?_
      obtain ⟨hLn, hfr, hScr, h_nm, q, hq, h_sl⟩ := hp
      dsimp only at hLn hfr hScr h_nm hq h_sl
      have hF : ∀ b ∈ L, b ≠ (A 0) → b ≠ (A 1) → b ≠ (A 3) → b ≠ (A 4) → b ≠ (A 5) → b ≠ (A 6) → b ≠ (A 7) → f b = f0 b := fun b hb h0 h1 h2 h3 h4 h5 h6 => (hfr b (hLs b hb) h0 h1 h2 h3 h4 h5 h6).trans (hF b hb h0 h1 h2 h3 h4 h5 h6)
      have hLs : ∀ b ∈ L, b ∈ L77 := fun b hb => hLn b (hLs b hb)
      refine lv_iload_n E.1.1 E.1.2.1 dX5_base_28 rfl (lv_at hl 0 rfl) ?_
      exact k_miret E hQ hlk hr hw (Nat.le_of_ble_eq_true rfl) (Nat.le_of_ble_eq_true rfl) (⟨hLs, fun b hb h => hF b hb (h 0 (by decide)) (h 1 (by decide)) (h 3 (by decide)) (h 4 (by decide)) (h 5 (by decide)) (h 6 (by decide)) (h 7 (by decide)), 3, fun _ _ => false, fin_base hA (by unfold B235; decide) hRm hLs hF h_nm hScr hq h_sl, by unfold sp_base; rw [if_pos (show nI 3 = 2 ∨ nI 3 = 3 ∨ nI 3 = 5 from Or.inr (Or.inl rfl))]; exact ⟨rfl, rfl, rfl⟩⟩) dX5_base_29
    · refine lv_iload_n E.1.1 E.1.2.1 dX5_base_10 rfl (lv_at hl 1 rfl) ?_
      refine lv_iconst (v := nI 5) E.1.1 E.1.2.1 dX5_base_11 rfl ?_
      refine lv_icmp_eq (tgt := 18) E.1.1 E.1.2.1 dX5_base_12 (by decide) (fun c12 => ?_) (fun c12 => ?_)
      · subst c12
        refine lv_aload_n E.1.1 E.1.2.1 dX5_base_18 rfl (lv_at hl 0 rfl) ?_
        refine k_get (v := .int (nI base)) E inlX5 rfl 4 (by decide) w1_235 rfl hw h_nm rfl dX5_base_19 ?_
        refine lv_istore_n (lv' := [(2, .int (nI base)), (0, .ref (A 0)), (1, .int (nI 5))]) E.1.1 E.1.2.1 dX5_base_22 rfl hl (by decide) rfl (fun ls hl => ?_)
        refine lv_aload_n E.1.1 E.1.2.1 dX5_base_23 rfl (lv_at hl 1 rfl) ?_
        refine lv_iload_n E.1.1 E.1.2.1 dX5_base_24 rfl (lv_at hl 2 rfl) ?_
        refine k_mv hw (va_runV (As := [.int (nI 5)]) (rest := []) E.1 (c_emptyAll l D cy L f H.size (A 0) (A 1) (A 2) (A 3) (A 4) (A 5) (A 6) (A 7) 5 M (nI base) i1 i2 j1 j2 j3 j4 g B0 G0 (fun k => some (sa k)) (by decide) (by decide) hA.2.2 (hA.1 1 (by decide)) h_nm h_sl h_d h_row h_tr h_rows h_goes) ⟨callB_of 1 E.1.2.2.2.2 (gd_own w1_93) rfl rfl rfl (E.1.2.2.2.2 _ w1_1) (E.1.2.2.2.2 _ w1_90) hd_X5_emptyAll (by rw [hR]; exact ⟨Nat.le_of_ble_eq_true rfl, Nat.le_of_ble_eq_true rfl⟩), E.1.2.2.2.2 _ w1_92, E.1.2.2.2.2 _ ws_0⟩ (pw_preV (q := (RX5, TX5, 5)) E.2 hw h_nm rfl) rfl rfl hl.1 rfl (lv_room (Nat.le_of_ble_eq_true rfl)) dX5_base_25 (by rw [hR]; exact ⟨Nat.le_of_ble_eq_true rfl, Nat.le_of_ble_eq_true rfl⟩)) (fun L77 f H locs hp hw => ?_)
        refine W.cs (cells' := 4) (slots' := 331) rfl rfl ?_
        obtain ⟨hLn, hfr, hScr, h_nm, q, hq, h_sl⟩ := hp
        dsimp only at hLn hfr hScr h_nm hq h_sl
        have hF : ∀ b ∈ L, b ≠ (A 0) → b ≠ (A 1) → b ≠ (A 3) → b ≠ (A 4) → b ≠ (A 5) → b ≠ (A 6) → b ≠ (A 7) → f b = f0 b := fun b hb h0 h1 h2 h3 h4 h5 h6 => (hfr b (hLs b hb) h0 h1 h2 h3 h4 h5 h6).trans (hF b hb h0 h1 h2 h3 h4 h5 h6)
        have hLs : ∀ b ∈ L, b ∈ L77 := fun b hb => hLn b (hLs b hb)
        refine lv_iload_n E.1.1 E.1.2.1 dX5_base_28 rfl (lv_at hl 0 rfl) ?_
        exact k_miret E hQ hlk hr hw (Nat.le_of_ble_eq_true rfl) (Nat.le_of_ble_eq_true rfl) (⟨hLs, fun b hb h => hF b hb (h 0 (by decide)) (h 1 (by decide)) (h 3 (by decide)) (h 4 (by decide)) (h 5 (by decide)) (h 6 (by decide)) (h 7 (by decide)), 5, fun _ _ => false, fin_base hA (by unfold B235; decide) hRm hLs hF h_nm hScr hq h_sl, by unfold sp_base; rw [if_pos (show nI 5 = 2 ∨ nI 5 = 3 ∨ nI 5 = 5 from Or.inr (Or.inr rfl))]; exact ⟨rfl, rfl, rfl⟩⟩) dX5_base_29
      · refine lv_bipush (v := -2) E.1.1 E.1.2.1 dX5_base_15 rfl ?_
        exact k_miret E hQ hlk hr hw (Nat.le_of_ble_eq_true rfl) (Nat.le_of_ble_eq_true rfl) (⟨hLs, fun b hb h => hF b hb (h 0 (by decide)) (h 1 (by decide)) (h 3 (by decide)) (h 4 (by decide)) (h 5 (by decide)) (h 6 (by decide)) (h 7 (by decide)), base, SS, ⟨hB, h_nm, ⟨sa, h_sl, fun j hj => (hSl j hj).keep hLs (fun b hb hn => hF b hb (hA.out hn (by decide)) (hA.out hn (by decide)) (hA.out hn (by decide)) (hA.out hn (by decide)) (hA.out hn (by decide)) (hA.out hn (by decide)) (hA.out hn (by decide)))⟩, ⟨_, _, _, _, _, _, _, _, _, h_d, h_row, h_tr, h_rows, h_goes⟩, hRm.keep hA hLs hF⟩, by unfold sp_base; rw [if_neg (by rintro (q | q | q); exact c2 q; exact c7 q; exact c12 q)]; exact ⟨rfl, rfl, rfl⟩⟩) dX5_base_17

set_option maxHeartbeats 4000000 in
set_option maxRecDepth 100000 in
theorem c_copySets (l : Launch) (D : va_G) (cy : Nat → ClassId) (L : List Nat) (f0 : Nat → va_E) (sz : Nat) (fa ta : Nat) (sa : Nat → Nat) (ra : Nat → Option Nat) (hft : fa ≠ ta) (hne : ∀ k, k < 6 → sa k ≠ ta) (hv0 : ∀ k, k < 6 → ∃ vs, cel L f0 (sa k) (.inr (3, vs))) (h_fr : cel L f0 fa (.inl (cy 4, 6, .inr (.inr (.inr (.inr (fun k => some (sa k)))))))) (h_to : cel L f0 ta (.inl (cy 4, 6, .inr (.inr (.inr (.inr ra)))))) : Met l yX1_copySets (.code yX1_copySets cX1_copySets 3 none :: wsL_law) { frames := 0, cells := 0, slots := 0, locals := 0 } (va_Pc [.ref fa, .ref ta] (PW D cy L f0 sz)) (va_Qv (fun u : List Nat × (Nat → va_E) => L = u.1 ∧ (∀ b ∈ L, b ≠ ta → u.2 b = f0 b) ∧ cel L u.2 ta (.inl (cy 4, 6, .inr (.inr (.inr (.inr (fun k => some (sa k)))))))) (PB D (AW L sz)) (AW L sz)) 0 0 (AW L sz) := by
  refine m_start (by decide) (Nat.le_of_ble_eq_true rfl) ?_
  intro p e R Q s m args below meth c ls hsz hR hQ E hr hlk hnm hw hl
  have hl : lv_has ls 3 [(0, .ref fa), (1, .ref ta)] := hl
  obtain ⟨H, hH⟩ : ∃ X, X = s.heap := ⟨_, rfl⟩
  obtain ⟨locs, hlocs⟩ : ∃ X : List Loc, X = [] := ⟨_, rfl⟩
  have hw0 := hw
  have hv := hv0
  obtain ⟨f, hf0⟩ : ∃ X, X = f0 := ⟨_, rfl⟩
  rw [← hf0] at h_fr h_to
  have hw : WW D (AW L sz) s.heap L f H locs := by rw [hH, hlocs, hf0]; exact hw
  have hF : ∀ b ∈ L, b ≠ ta → f b = f0 b := fun b hb h0 => by rw [hf0]
  suffices hgo : W p l e R s m args below meth c H locs 0 0 Q (F0 m 0 ls []) by rw [hH, hlocs] at hgo; exact hgo
  clear hH hlocs hw0 hf0
  have hLs : ∀ b ∈ L, b ∈ L := fun _ h => h
  refine lv_iconst (v := nI 0) E.1.1 E.1.2.1 dX1_copySets_0 rfl ?_
  obtain ⟨f, h_to, hfr, hw⟩ := k_swr (fun k => if k < 0 then some (sa k) else ra k) hw h_to (fun k hk => by rw [if_neg (by omega)])
  have h_fr := h_fr.kp hfr hft
  have hF : ∀ b ∈ L, b ≠ ta → f b = f0 b := fun b hb h0 => (hfr b h0).trans (hF b hb h0)
  refine lv_istore_n (lv' := [(2, .int (nI 0)), (0, .ref fa), (1, .ref ta)]) E.1.1 E.1.2.1 dX1_copySets_1 rfl hl (by decide) rfl (fun ls hl => ?_)
  have lp2 : ∀ (k : Nat) (i : Nat) (f : Nat → va_E) (H : Heap) (locs : List Loc) (ls : Array Slot), (6 - i < k) → (i ≤ 6) → (∀ k, k < 6 → ∃ vs, cel L f (sa k) (.inr (3, vs))) → (cel L f fa (.inl (cy 4, 6, .inr (.inr (.inr (.inr (fun k => some (sa k)))))))) → (cel L f ta (.inl (cy 4, 6, .inr (.inr (.inr (.inr (fun k => if k < i then some (sa k) else ra k))))))) → (∀ b ∈ L, b ≠ ta → f b = f0 b) → (WW D (AW L sz) s.heap L f H locs) → (lv_has ls 3 [(2, .int (nI i)), (0, .ref fa), (1, .ref ta)]) → W p l e R s m args below meth c H locs 0 0 Q (F0 m 2 ls []) := by
    intro k
    induction k with
    | zero => intro _ _ _ _ _ hk; exact absurd hk (Nat.not_lt_zero _)
    | succ k ih2 =>
      intro i f H locs ls hk hi hv h_fr h_to hF hw hl
      refine lv_iload_n E.1.1 E.1.2.1 dX1_copySets_2 rfl (lv_at hl 0 rfl) ?_
      refine lv_aload_n E.1.1 E.1.2.1 dX1_copySets_3 rfl (lv_at hl 1 rfl) ?_
      refine k_alen E hw 4 h_fr rfl (n := 6) rfl dX1_copySets_4 ?_
      refine k_ge (tgt := 26) E dX1_copySets_5 (by decide) (by omega) (by omega) (fun c5 => ?_) (fun c5 => ?_)
      · obtain ⟨f, h_to, hfr, hw⟩ := k_swr (fun k => some (sa k)) hw h_to (fun k hk => by rw [if_pos (by omega)])
        have h_fr := h_fr.kp hfr hft
        have hF : ∀ b ∈ L, b ≠ ta → f b = f0 b := fun b hb h0 => (hfr b h0).trans (hF b hb h0)
        exact k_mvret E hQ hlk hr hw (Nat.le_of_ble_eq_true rfl) (Nat.le_of_ble_eq_true rfl) (⟨rfl, hF, h_to⟩) dX1_copySets_26
      · refine lv_iload_n E.1.1 E.1.2.1 dX1_copySets_8 rfl (lv_at hl 0 rfl) ?_
        refine lv_aload_n E.1.1 E.1.2.1 dX1_copySets_9 rfl (lv_at hl 2 rfl) ?_
        refine k_alen E hw 4 h_to rfl (n := 6) rfl dX1_copySets_10 ?_
        refine k_ge (tgt := 26) E dX1_copySets_11 (by decide) (by omega) (by omega) (fun c11 => absurd c11 (by omega)) (fun c11 => ?_)
        refine lv_aload_n E.1.1 E.1.2.1 dX1_copySets_14 rfl (lv_at hl 2 rfl) ?_
        refine lv_iload_n E.1.1 E.1.2.1 dX1_copySets_15 rfl (lv_at hl 0 rfl) ?_
        refine lv_aload_n E.1.1 E.1.2.1 dX1_copySets_16 rfl (lv_at hl 1 rfl) ?_
        refine lv_iload_n E.1.1 E.1.2.1 dX1_copySets_17 rfl (lv_at hl 0 rfl) ?_
        refine k_aald E hw 4 (r := sa i) h_fr rfl (by omega) (by omega) (rfl) dX1_copySets_18 ?_
        obtain ⟨vs, h_v⟩ := hv i (by omega)
        have n_v_to := hne i (by omega)
        refine k_aast E hw 4 3 (fun k => if k < i + 1 then some (sa k) else ra k) h_to rfl h_v rfl (by omega) (by omega) (fun k hk => by
      by_cases h : k = i
      · rw [if_pos h, if_pos (by omega), h]
      · rw [if_neg h]
        by_cases h2 : k < i
        · rw [if_pos h2, if_pos (by omega)]
        · rw [if_neg h2, if_neg (by omega)]) dX1_copySets_19 (fun f H locs h_to hfr hw => ?_)
        have h_fr := h_fr.kp hfr hft
        have h_v := h_v.kp hfr n_v_to
        have hF : ∀ b ∈ L, b ≠ ta → f b = f0 b := fun b hb h0 => (hfr b h0).trans (hF b hb h0)
        refine lv_iinc (v := nI (i + 1)) (lv' := [(2, .int (nI (i + 1))), (0, .ref fa), (1, .ref ta)]) E.1.1 E.1.2.1 dX1_copySets_20 hl (k := 0) rfl (nI_1 _) (by decide) rfl (fun ls hl => ?_)
        refine lv_goto (tgt := 2) E.1.1 E.1.2.1 dX1_copySets_23 (by decide) ?_
        exact ih2  (i + 1) f H locs ls (by omega) (by omega) (fun k hk => by obtain ⟨vs, h⟩ := hv k hk; exact ⟨vs, h.kp hfr (hne k hk)⟩) h_fr h_to hF hw (lv_sub hl [0, 1, 2] rfl)
  exact lp2 (6 - 0 + 1) 0 f H locs ls (Nat.lt_succ_self _) (by omega) (fun k hk => by obtain ⟨vs, h⟩ := hv0 k hk; exact ⟨vs, h.1, (hF _ h.1 (hne k hk)).trans h.2⟩) h_fr h_to hF hw (lv_sub hl [0, 1, 2] rfl)

set_option maxHeartbeats 4000000 in
set_option maxRecDepth 100000 in
theorem c_keep (l : Launch) (D : va_G) (cy : Nat → ClassId) (L : List Nat) (f0 : Nat → va_E) (sz : Nat) (ga ta fa nb : Nat) (ib : Int32) (kb : Bool) (sa : Nat → Nat) (ra : Nat → Option Nat) (hft : fa ≠ ta) (hne : ∀ k, k < 6 → sa k ≠ ta) (hne2 : ∀ k, k < 6 → sa k ≠ ga) (hv0 : ∀ k, k < 6 → ∃ vs, cel L f0 (sa k) (.inr (3, vs))) (h_g : cel L f0 ga (.inr (1, [.ref ta, .int ib, .int (b2i kb)]))) (h_to : cel L f0 ta (.inl (cy 4, 6, .inr (.inr (.inr (.inr ra)))))) (h_fr : cel L f0 fa (.inl (cy 4, 6, .inr (.inr (.inr (.inr (fun k => some (sa k)))))))) : Met l yX1_keep (.code yX1_keep cX1_keep 3 none :: wsL_law) { frames := 1, cells := 0, slots := 0, locals := 22 } (va_Pc [.ref ga, .ref fa, .int (nI nb)] (PW D cy L f0 sz)) (va_Qv (fun u : List Nat × (Nat → va_E) => L = u.1 ∧ (∀ b ∈ L, b ≠ ga → b ≠ ta → u.2 b = f0 b) ∧ cel L u.2 ga (.inr (1, [.ref ta, .int (nI nb), .int (b2i true)])) ∧ cel L u.2 ta (.inl (cy 4, 6, .inr (.inr (.inr (.inr (fun k => some (sa k)))))))) (PB D (AW L sz)) (AW L sz)) 0 0 (AW L sz) := by
  refine m_start (by decide) (Nat.le_of_ble_eq_true rfl) ?_
  intro p e R Q s m args below meth c ls hsz hR hQ E hr hlk hnm hw hl
  have hl : lv_has ls 3 [(0, .ref ga), (1, .ref fa), (2, .int (nI nb))] := hl
  obtain ⟨H, hH⟩ : ∃ X, X = s.heap := ⟨_, rfl⟩
  obtain ⟨locs, hlocs⟩ : ∃ X : List Loc, X = [] := ⟨_, rfl⟩
  have hw0 := hw
  obtain ⟨f, hf0⟩ : ∃ X, X = f0 := ⟨_, rfl⟩
  rw [← hf0] at h_g h_to h_fr
  have hw : WW D (AW L sz) s.heap L f H locs := by rw [hH, hlocs, hf0]; exact hw
  have hF : ∀ b ∈ L, b ≠ ga → b ≠ ta → f b = f0 b := fun b hb h0 h1 => by rw [hf0]
  suffices hgo : W p l e R s m args below meth c H locs 0 0 Q (F0 m 0 ls []) by rw [hH, hlocs] at hgo; exact hgo
  clear hH hlocs hw0 hf0
  have hLs : ∀ b ∈ L, b ∈ L := fun _ h => h
  have n_g_to : ga ≠ ta := h_g.ne h_to (by simp)
  have n_to_g : ta ≠ ga := h_to.ne h_g (by simp)
  have n_fr_g : fa ≠ ga := h_fr.ne h_g (by simp)
  refine lv_aload_n E.1.1 E.1.2.1 dX1_keep_0 rfl (lv_at hl 1 rfl) ?_
  refine lv_aload_n E.1.1 E.1.2.1 dX1_keep_1 rfl (lv_at hl 0 rfl) ?_
  refine k_get (v := .ref ta) E inlX1 rfl 0 (by decide) w1_79 rfl hw h_g rfl dX1_keep_2 ?_
  refine k_mv hw (va_runS (As := [.ref fa, .ref ta]) (rest := []) E.1 (c_copySets l D cy L f H.size fa ta sa ra hft hne (fun k hk => by obtain ⟨vs, h⟩ := hv0 k hk; exact ⟨vs, h.1, (hF _ h.1 (hne2 k hk) (hne k hk)).trans h.2⟩) h_fr h_to) ⟨callB_of 2 E.1.2.2.2.2 (gd_own w2_193) rfl rfl rfl (E.1.2.2.2.2 _ w1_4) (E.1.2.2.2.2 _ w2_191) hd_X1_copySets (by rw [hR]; exact ⟨Nat.le_of_ble_eq_true rfl, Nat.le_of_ble_eq_true rfl⟩), E.1.2.2.2.2 _ w2_192⟩ (pw_pre E.2 hw) rfl rfl hl.1 rfl (lv_room (Nat.le_of_ble_eq_true rfl)) dX1_keep_5 (by rw [hR]; exact ⟨Nat.le_of_ble_eq_true rfl, Nat.le_of_ble_eq_true rfl⟩)) (fun L1 f H locs hp hw => ?_)
  obtain ⟨hL1, hfr, h_to⟩ := hp
  have hL1 : L = L1 := hL1
  subst hL1
  have h_to : cel L f ta (.inl (cy 4, 6, .inr (.inr (.inr (.inr (fun k => some (sa k))))))) := h_to
  have h_g := h_g.keep (fun _ h => h) (hfr _ h_g.1 n_g_to)
  have h_fr := h_fr.keep (fun _ h => h) (hfr _ h_fr.1 hft)
  have hF : ∀ b ∈ L, b ≠ ga → b ≠ ta → f b = f0 b := fun b hb h0 h1 => (hfr b (hLs b hb) h1).trans (hF b hb h0 h1)
  refine lv_aload_n E.1.1 E.1.2.1 dX1_keep_8 rfl (lv_at hl 0 rfl) ?_
  refine lv_iload_n E.1.1 E.1.2.1 dX1_keep_9 rfl (lv_at hl 2 rfl) ?_
  refine k_put (ty0 := tyX1) E inlX1 rfl tyX1_ok nmX1 1 (by decide) w1_80 rfl rfl hw [.ref ta, .int (nI nb), .int (b2i kb)] h_g (rfl) (rfl) (Nat.le_of_ble_eq_true rfl) rfl dX1_keep_10 (fun f H locs h_g hfr hw => ?_)
  have h_to := h_to.kp hfr n_to_g
  have h_fr := h_fr.kp hfr n_fr_g
  have hF : ∀ b ∈ L, b ≠ ga → b ≠ ta → f b = f0 b := fun b hb h0 h1 => (hfr b h0).trans (hF b hb h0 h1)
  refine lv_aload_n E.1.1 E.1.2.1 dX1_keep_13 rfl (lv_at hl 0 rfl) ?_
  refine lv_iconst (v := nI 1) E.1.1 E.1.2.1 dX1_keep_14 rfl ?_
  refine W.eq (g2 := F0 m 15 ls (.int (b2i true) :: .ref ga :: [])) rfl ?_
  refine k_put (ty0 := tyX1) E inlX1 rfl tyX1_ok nmX1 2 (by decide) w1_81 rfl rfl hw [.ref ta, .int (nI nb), .int (b2i true)] h_g (by decide +kernel) (by decide +kernel) (Nat.le_of_ble_eq_true rfl) rfl dX1_keep_15 (fun f H locs h_g hfr hw => ?_)
  have h_to := h_to.kp hfr n_to_g
  have h_fr := h_fr.kp hfr n_fr_g
  have hF : ∀ b ∈ L, b ≠ ga → b ≠ ta → f b = f0 b := fun b hb h0 h1 => (hfr b h0).trans (hF b hb h0 h1)
  exact k_mvret E hQ hlk hr hw (Nat.le_of_ble_eq_true rfl) (Nat.le_of_ble_eq_true rfl) (⟨rfl, hF, h_g, h_to⟩) dX1_keep_18

set_option maxHeartbeats 4000000 in
set_option maxRecDepth 100000 in
theorem c_giveBack (l : Launch) (D : va_G) (cy : Nat → ClassId) (L : List Nat) (f0 : Nat → va_E) (sz : Nat) (ga fa ta nb : Nat) (kb : Bool) (sa : Nat → Nat) (ra : Nat → Option Nat) (hft : fa ≠ ta) (hne : ∀ k, k < 6 → sa k ≠ ta) (hv0 : ∀ k, k < 6 → ∃ vs, cel L f0 (sa k) (.inr (3, vs))) (h_g : cel L f0 ga (.inr (1, [.ref fa, .int (nI nb), .int (b2i kb)]))) (h_to : cel L f0 ta (.inl (cy 4, 6, .inr (.inr (.inr (.inr ra)))))) (h_fr : cel L f0 fa (.inl (cy 4, 6, .inr (.inr (.inr (.inr (fun k => some (sa k)))))))) : Met l yX1_giveBack (.code yX1_giveBack cX1_giveBack 2 (Option.some FieldType.int) :: wsL_law) { frames := 1, cells := 0, slots := 0, locals := 22 } (va_Pc [.ref ga, .ref ta] (PW D cy L f0 sz)) (va_Qi (fun (r : Int32) (u : List Nat × (Nat → va_E)) => r = nI nb ∧ L = u.1 ∧ (∀ b ∈ L, b ≠ ta → u.2 b = f0 b) ∧ cel L u.2 ta (.inl (cy 4, 6, .inr (.inr (.inr (.inr (fun k => some (sa k)))))))) (PB D (AW L sz)) (AW L sz)) 0 0 (AW L sz) := by
  refine m_start (by decide) (Nat.le_of_ble_eq_true rfl) ?_
  intro p e R Q s m args below meth c ls hsz hR hQ E hr hlk hnm hw hl
  have hl : lv_has ls 2 [(0, .ref ga), (1, .ref ta)] := hl
  obtain ⟨H, hH⟩ : ∃ X, X = s.heap := ⟨_, rfl⟩
  obtain ⟨locs, hlocs⟩ : ∃ X : List Loc, X = [] := ⟨_, rfl⟩
  have hw0 := hw
  obtain ⟨f, hf0⟩ : ∃ X, X = f0 := ⟨_, rfl⟩
  rw [← hf0] at h_g h_to h_fr
  have hw : WW D (AW L sz) s.heap L f H locs := by rw [hH, hlocs, hf0]; exact hw
  have hF : ∀ b ∈ L, b ≠ ta → f b = f0 b := fun b hb h0 => by rw [hf0]
  suffices hgo : W p l e R s m args below meth c H locs 0 0 Q (F0 m 0 ls []) by rw [hH, hlocs] at hgo; exact hgo
  clear hH hlocs hw0 hf0
  have hLs : ∀ b ∈ L, b ∈ L := fun _ h => h
  have n_g_to : ga ≠ ta := h_g.ne h_to (by simp)
  refine lv_aload_n E.1.1 E.1.2.1 dX1_giveBack_0 rfl (lv_at hl 0 rfl) ?_
  refine k_get (v := .ref fa) E inlX1 rfl 0 (by decide) w1_79 rfl hw h_g rfl dX1_giveBack_1 ?_
  refine lv_aload_n E.1.1 E.1.2.1 dX1_giveBack_4 rfl (lv_at hl 1 rfl) ?_
  refine k_mv hw (va_runS (As := [.ref fa, .ref ta]) (rest := []) E.1 (c_copySets l D cy L f H.size fa ta sa ra hft hne (fun k hk => by obtain ⟨vs, h⟩ := hv0 k hk; exact ⟨vs, h.1, (hF _ h.1 (hne k hk)).trans h.2⟩) h_fr h_to) ⟨callB_of 2 E.1.2.2.2.2 (gd_own w2_193) rfl rfl rfl (E.1.2.2.2.2 _ w1_4) (E.1.2.2.2.2 _ w2_191) hd_X1_copySets (by rw [hR]; exact ⟨Nat.le_of_ble_eq_true rfl, Nat.le_of_ble_eq_true rfl⟩), E.1.2.2.2.2 _ w2_192⟩ (pw_pre E.2 hw) rfl rfl hl.1 rfl (lv_room (Nat.le_of_ble_eq_true rfl)) dX1_giveBack_5 (by rw [hR]; exact ⟨Nat.le_of_ble_eq_true rfl, Nat.le_of_ble_eq_true rfl⟩)) (fun L1 f H locs hp hw => ?_)
  obtain ⟨hL1, hfr, h_to⟩ := hp
  have hL1 : L = L1 := hL1
  subst hL1
  have h_to : cel L f ta (.inl (cy 4, 6, .inr (.inr (.inr (.inr (fun k => some (sa k))))))) := h_to
  have h_g := h_g.keep (fun _ h => h) (hfr _ h_g.1 n_g_to)
  have h_fr := h_fr.keep (fun _ h => h) (hfr _ h_fr.1 hft)
  have hF : ∀ b ∈ L, b ≠ ta → f b = f0 b := fun b hb h0 => (hfr b (hLs b hb) h0).trans (hF b hb h0)
  refine lv_aload_n E.1.1 E.1.2.1 dX1_giveBack_8 rfl (lv_at hl 0 rfl) ?_
  refine k_get (v := .int (nI nb)) E inlX1 rfl 1 (by decide) w1_80 rfl hw h_g rfl dX1_giveBack_9 ?_
  exact k_miret E hQ hlk hr hw (Nat.le_of_ble_eq_true rfl) (Nat.le_of_ble_eq_true rfl) (⟨rfl, rfl, hF, h_to⟩) dX1_giveBack_12

set_option maxHeartbeats 4000000 in
set_option maxRecDepth 100000 in
theorem p_image0 (l : Launch) (D : va_G) (cy : Nat → ClassId) (L : List Nat) (f0 : Nat → va_E) (sz : Nat) (M : List Nat) (A : Nat → Nat) (base : Nat) (SS : Nat → Nat → Bool) (kp : Nat → Bool) (kb : Nat → Nat) (KS : Nat → Nat → Nat → Bool) (hA : AdOK L M A) (hN : NmW cy L f0 M A base SS kp kb KS)  : Met l yX5_image (.code yX5_image cX5_image 2 (Option.some FieldType.int) :: wsL_law) { frames := 2, cells := 0, slots := 0, locals := 44 } (va_Pc [.ref (A 0), .int (nI 0)] (PW D cy L f0 sz)) (va_Qi (fun (r : Int32) (u : List Nat × (Nat → va_E)) => (∀ b ∈ L, b ∈ u.1) ∧ (∀ b ∈ L, (∀ i, i < 12 → b ≠ A i) → u.2 b = f0 b) ∧ ∃ kp2 kb2 KS2, NmW cy u.1 u.2 M A base SS kp2 kb2 KS2 ∧ sp_image base SS kp kp2 kb kb2 KS KS2 (nI 0) r) (PB D (AW L sz)) (AW L sz)) 0 0 (AW L sz) := by
  refine m_start (by decide) (Nat.le_of_ble_eq_true rfl) ?_
  intro p e R Q s m args below meth c ls hsz hR hQ E hr hlk hnm hw hl
  have hl : lv_has ls 2 [(0, .ref (A 0)), (1, .int (nI 0))] := hl
  obtain ⟨H, hH⟩ : ∃ X, X = s.heap := ⟨_, rfl⟩
  obtain ⟨locs, hlocs⟩ : ∃ X : List Loc, X = [] := ⟨_, rfl⟩
  have hw0 := hw
  obtain ⟨hB, h_nm, ⟨sa, h_sl, hSl⟩, hScr, hRm⟩ := hN
  have hb2 := hB.two
  have hRm2 := hRm
  obtain ⟨h_im, ⟨ia, h_g, h_s, hI⟩, hIo⟩ := hRm
  obtain ⟨f, hf0⟩ : ∃ X, X = f0 := ⟨_, rfl⟩
  rw [← hf0] at h_nm h_sl h_im h_g h_s
  have hw : WW D (AW L sz) s.heap L f H locs := by rw [hH, hlocs, hf0]; exact hw
  have hF : ∀ b ∈ L, b ≠ (A (8 + 0)) → b ≠ (A 10) → f b = f0 b := fun b hb h0 h1 => by rw [hf0]
  suffices hgo : W p l e R s m args below meth c H locs 0 0 Q (F0 m 0 ls []) by rw [hH, hlocs] at hgo; exact hgo
  clear hH hlocs hw0 hf0
  have hLs : ∀ b ∈ L, b ∈ L := fun _ h => h
  have n_nm_g : A 0 ≠ A (8 + 0) := h_nm.ne h_g (by simp)
  have n_nm_s : A 0 ≠ A 10 := h_nm.ne h_s (by simp)
  have n_sl_g : A 1 ≠ A (8 + 0) := h_sl.ne h_g (by simp)
  have n_im_g : A 2 ≠ A (8 + 0) := h_im.ne h_g (by simp)
  have n_im_s : A 2 ≠ A 10 := h_im.ne h_s (by simp)
  have n_g_s : A (8 + 0) ≠ A 10 := h_g.ne h_s (by simp)
  have n_s_g : A 10 ≠ A (8 + 0) := h_s.ne h_g (by simp)
  refine lv_aload_n E.1.1 E.1.2.1 dX5_image_0 rfl (lv_at hl 0 rfl) ?_
  refine lv_iload_n E.1.1 E.1.2.1 dX5_image_1 rfl (lv_at hl 1 rfl) ?_
  refine k_ri (va_runV (As := [.int (nI 0)]) (rest := []) E.1 (c_noImage l D cy L f H.size (A 0) (A 1) (A 2) (A 3) (A 5) base (fun k => A (8 + k)) (nI 0) h_nm h_im) ⟨callB_of 1 E.1.2.2.2.2 (gd_own w2_186) rfl rfl rfl (E.1.2.2.2.2 _ w1_1) (E.1.2.2.2.2 _ w2_183) hd_X5_noImage (by rw [hR]; exact ⟨Nat.le_of_ble_eq_true rfl, Nat.le_of_ble_eq_true rfl⟩), E.1.2.2.2.2 _ w2_185, E.1.2.2.2.2 _ ws_19⟩ (pw_preV (q := (RX5, TX5, 5)) E.2 hw h_nm rfl) rfl rfl hl.1 rfl (lv_room (Nat.le_of_ble_eq_true rfl)) dX5_image_2 ⟨Nat.zero_le _, Nat.zero_le _⟩) ?_
  refine k_if0 (tgt := 11) E dX5_image_5 (by decide) (fun c5 => ?_) (fun c5 => absurd c5 (by rw [in_t (by decide) (by decide)]; decide))
  refine lv_aload_n E.1.1 E.1.2.1 dX5_image_11 rfl (lv_at hl 0 rfl) ?_
  refine k_get (v := .ref (A 2)) E inlX5 rfl 1 (by decide) w1_232 rfl hw h_nm rfl dX5_image_12 ?_
  refine lv_iload_n E.1.1 E.1.2.1 dX5_image_15 rfl (lv_at hl 1 rfl) ?_
  refine k_aald E hw 3 (r := A (8 + 0)) h_im rfl (by omega) (by omega) (rfl) dX5_image_16 ?_
  refine lv_aload_n E.1.1 E.1.2.1 dX5_image_17 rfl (lv_at hl 0 rfl) ?_
  refine k_get (v := .ref (A 1)) E inlX5 rfl 0 (by decide) w1_231 rfl hw h_nm rfl dX5_image_18 ?_
  refine lv_aload_n E.1.1 E.1.2.1 dX5_image_21 rfl (lv_at hl 0 rfl) ?_
  refine k_get (v := .int (nI base)) E inlX5 rfl 4 (by decide) w1_235 rfl hw h_nm rfl dX5_image_22 ?_
  refine k_mv hw (va_runV (As := [.ref (A 1), .int (nI base)]) (rest := []) E.1 (c_keep l D cy L f H.size (A 8) (A 10) (A 1) base (nI (kb 0)) (kp 0) sa ia (hA.ne (i := 1) (j := 10) (by decide) (by decide) (by decide)) (fun k hk => hA.out (hSl k hk).obj.2 (by decide)) (fun k hk => hA.out (hSl k hk).obj.2 (by decide)) (fun k hk => by obtain ⟨vs, h⟩ := (hSl k hk).obj.1; exact ⟨vs, h.1, (hF _ h.1 (hA.out (hSl k hk).obj.2 (by decide)) (hA.out (hSl k hk).obj.2 (by decide))).trans h.2⟩) h_g h_s h_sl) ⟨callB_of 2 E.1.2.2.2.2 (gd_own w2_190) rfl rfl rfl (E.1.2.2.2.2 _ w1_4) (E.1.2.2.2.2 _ w2_187) hd_X1_keep (by rw [hR]; exact ⟨Nat.le_of_ble_eq_true rfl, Nat.le_of_ble_eq_true rfl⟩), E.1.2.2.2.2 _ w2_188, E.1.2.2.2.2 _ w2_189⟩ (pw_preV (q := (RX1, TX1, 3)) E.2 hw h_g rfl) rfl rfl hl.1 rfl (lv_room (Nat.le_of_ble_eq_true rfl)) dX5_image_25 (by rw [hR]; exact ⟨Nat.le_of_ble_eq_true rfl, Nat.le_of_ble_eq_true rfl⟩)) (fun L1 f H locs hp hw => ?_)
  obtain ⟨hL1, hfr, h_g, h_s⟩ := hp
  have hL1 : L = L1 := hL1
  subst hL1
  have h_g : cel L f (A (8 + 0)) (.inr (1, [.ref (A 10), .int (nI base), .int (b2i true)])) := h_g
  have h_s : cel L f (A 10) (.inl (cy 4, 6, .inr (.inr (.inr (.inr (fun k => some (sa k))))))) := h_s
  have h_nm := h_nm.keep (fun _ h => h) (hfr _ h_nm.1 n_nm_g n_nm_s)
  have h_sl := h_sl.keep (fun _ h => h) (hfr _ h_sl.1 n_sl_g (hA.ne (i := 1) (j := 10) (by decide) (by decide) (by decide)))
  have h_im := h_im.keep (fun _ h => h) (hfr _ h_im.1 n_im_g n_im_s)
  have hF : ∀ b ∈ L, b ≠ (A (8 + 0)) → b ≠ (A 10) → f b = f0 b := fun b hb h0 h1 => (hfr b (hLs b hb) h0 h1).trans (hF b hb h0 h1)
  refine lv_iconst (v := nI 1) E.1.1 E.1.2.1 dX5_image_28 rfl ?_
  exact k_miret E hQ hlk hr hw (Nat.le_of_ble_eq_true rfl) (Nat.le_of_ble_eq_true rfl) (⟨hLs, fun b hb h => hF b hb (h 8 (by decide)) (h 10 (by decide)), va_up kp 0 true, va_up kb 0 base, va_up KS 0 SS, ⟨hB, h_nm, ⟨sa, h_sl, fun j hj => (hSl j hj).keep hLs (fun b hb hn => hF b hb (hA.out hn (by decide)) (hA.out hn (by decide)))⟩, hScr.keep hLs (hF _ (hA.2.2 _ (hA.1 3 (by decide))) (hA.ne (i := 3) (j := 8) (by decide) (by decide) (by decide)) (hA.ne (i := 3) (j := 10) (by decide) (by decide) (by decide))) (hF _ (hA.2.2 _ (hA.1 4 (by decide))) (hA.ne (i := 4) (j := 8) (by decide) (by decide) (by decide)) (hA.ne (i := 4) (j := 10) (by decide) (by decide) (by decide))) (hF _ (hA.2.2 _ (hA.1 5 (by decide))) (hA.ne (i := 5) (j := 8) (by decide) (by decide) (by decide)) (hA.ne (i := 5) (j := 10) (by decide) (by decide) (by decide))) (hF _ (hA.2.2 _ (hA.1 6 (by decide))) (hA.ne (i := 6) (j := 8) (by decide) (by decide) (by decide)) (hA.ne (i := 6) (j := 10) (by decide) (by decide) (by decide))) (hF _ (hA.2.2 _ (hA.1 7 (by decide))) (hA.ne (i := 7) (j := 8) (by decide) (by decide) (by decide)) (hA.ne (i := 7) (j := 10) (by decide) (by decide) (by decide))), ⟨h_im, ⟨_, h_g, h_s, fun _ => ⟨hB, sa, rfl, fun j hj => (hSl j hj).keep hLs (fun b hb hn => hF b hb (hA.out hn (by decide)) (hA.out hn (by decide)))⟩⟩, hIo.keep hLs (hF _ (hA.2.2 _ (hA.1 9 (by decide))) (hA.ne (i := 9) (j := 8) (by decide) (by decide) (by decide)) (hA.ne (i := 9) (j := 10) (by decide) (by decide) (by decide))) (hF _ (hA.2.2 _ (hA.1 11 (by decide))) (hA.ne (i := 11) (j := 8) (by decide) (by decide) (by decide)) (hA.ne (i := 11) (j := 10) (by decide) (by decide) (by decide))) (fun b hb hn => hF b hb (hA.out hn (by decide)) (hA.out hn (by decide)))⟩⟩, by unfold sp_image; rw [if_neg (by rw [in_t (by decide) (by decide)]; decide), ix_nI (by decide)]; exact ⟨rfl, rfl, rfl, rfl⟩⟩) dX5_image_29

set_option maxHeartbeats 4000000 in
set_option maxRecDepth 100000 in
theorem p_image1 (l : Launch) (D : va_G) (cy : Nat → ClassId) (L : List Nat) (f0 : Nat → va_E) (sz : Nat) (M : List Nat) (A : Nat → Nat) (base : Nat) (SS : Nat → Nat → Bool) (kp : Nat → Bool) (kb : Nat → Nat) (KS : Nat → Nat → Nat → Bool) (hA : AdOK L M A) (hN : NmW cy L f0 M A base SS kp kb KS)  : Met l yX5_image (.code yX5_image cX5_image 2 (Option.some FieldType.int) :: wsL_law) { frames := 2, cells := 0, slots := 0, locals := 44 } (va_Pc [.ref (A 0), .int (nI 1)] (PW D cy L f0 sz)) (va_Qi (fun (r : Int32) (u : List Nat × (Nat → va_E)) => (∀ b ∈ L, b ∈ u.1) ∧ (∀ b ∈ L, (∀ i, i < 12 → b ≠ A i) → u.2 b = f0 b) ∧ ∃ kp2 kb2 KS2, NmW cy u.1 u.2 M A base SS kp2 kb2 KS2 ∧ sp_image base SS kp kp2 kb kb2 KS KS2 (nI 1) r) (PB D (AW L sz)) (AW L sz)) 0 0 (AW L sz) := by
  refine m_start (by decide) (Nat.le_of_ble_eq_true rfl) ?_
  intro p e R Q s m args below meth c ls hsz hR hQ E hr hlk hnm hw hl
  have hl : lv_has ls 2 [(0, .ref (A 0)), (1, .int (nI 1))] := hl
  obtain ⟨H, hH⟩ : ∃ X, X = s.heap := ⟨_, rfl⟩
  obtain ⟨locs, hlocs⟩ : ∃ X : List Loc, X = [] := ⟨_, rfl⟩
  have hw0 := hw
  obtain ⟨hB, h_nm, ⟨sa, h_sl, hSl⟩, hScr, hRm⟩ := hN
  have hb2 := hB.two
  have hRm2 := hRm
  obtain ⟨h_im, hIo, ⟨ia, h_g, h_s, hI⟩⟩ := hRm
  obtain ⟨f, hf0⟩ : ∃ X, X = f0 := ⟨_, rfl⟩
  rw [← hf0] at h_nm h_sl h_im h_g h_s
  have hw : WW D (AW L sz) s.heap L f H locs := by rw [hH, hlocs, hf0]; exact hw
  have hF : ∀ b ∈ L, b ≠ (A (8 + 1)) → b ≠ (A 11) → f b = f0 b := fun b hb h0 h1 => by rw [hf0]
  suffices hgo : W p l e R s m args below meth c H locs 0 0 Q (F0 m 0 ls []) by rw [hH, hlocs] at hgo; exact hgo
  clear hH hlocs hw0 hf0
  have hLs : ∀ b ∈ L, b ∈ L := fun _ h => h
  have n_nm_g : A 0 ≠ A (8 + 1) := h_nm.ne h_g (by simp)
  have n_nm_s : A 0 ≠ A 11 := h_nm.ne h_s (by simp)
  have n_sl_g : A 1 ≠ A (8 + 1) := h_sl.ne h_g (by simp)
  have n_im_g : A 2 ≠ A (8 + 1) := h_im.ne h_g (by simp)
  have n_im_s : A 2 ≠ A 11 := h_im.ne h_s (by simp)
  have n_g_s : A (8 + 1) ≠ A 11 := h_g.ne h_s (by simp)
  have n_s_g : A 11 ≠ A (8 + 1) := h_s.ne h_g (by simp)
  refine lv_aload_n E.1.1 E.1.2.1 dX5_image_0 rfl (lv_at hl 0 rfl) ?_
  refine lv_iload_n E.1.1 E.1.2.1 dX5_image_1 rfl (lv_at hl 1 rfl) ?_
  refine k_ri (va_runV (As := [.int (nI 1)]) (rest := []) E.1 (c_noImage l D cy L f H.size (A 0) (A 1) (A 2) (A 3) (A 5) base (fun k => A (8 + k)) (nI 1) h_nm h_im) ⟨callB_of 1 E.1.2.2.2.2 (gd_own w2_186) rfl rfl rfl (E.1.2.2.2.2 _ w1_1) (E.1.2.2.2.2 _ w2_183) hd_X5_noImage (by rw [hR]; exact ⟨Nat.le_of_ble_eq_true rfl, Nat.le_of_ble_eq_true rfl⟩), E.1.2.2.2.2 _ w2_185, E.1.2.2.2.2 _ ws_19⟩ (pw_preV (q := (RX5, TX5, 5)) E.2 hw h_nm rfl) rfl rfl hl.1 rfl (lv_room (Nat.le_of_ble_eq_true rfl)) dX5_image_2 ⟨Nat.zero_le _, Nat.zero_le _⟩) ?_
  refine k_if0 (tgt := 11) E dX5_image_5 (by decide) (fun c5 => ?_) (fun c5 => absurd c5 (by rw [in_t (by decide) (by decide)]; decide))
  refine lv_aload_n E.1.1 E.1.2.1 dX5_image_11 rfl (lv_at hl 0 rfl) ?_
  refine k_get (v := .ref (A 2)) E inlX5 rfl 1 (by decide) w1_232 rfl hw h_nm rfl dX5_image_12 ?_
  refine lv_iload_n E.1.1 E.1.2.1 dX5_image_15 rfl (lv_at hl 1 rfl) ?_
  refine k_aald E hw 3 (r := A (8 + 1)) h_im rfl (by omega) (by omega) (rfl) dX5_image_16 ?_
  refine lv_aload_n E.1.1 E.1.2.1 dX5_image_17 rfl (lv_at hl 0 rfl) ?_
  refine k_get (v := .ref (A 1)) E inlX5 rfl 0 (by decide) w1_231 rfl hw h_nm rfl dX5_image_18 ?_
  refine lv_aload_n E.1.1 E.1.2.1 dX5_image_21 rfl (lv_at hl 0 rfl) ?_
  refine k_get (v := .int (nI base)) E inlX5 rfl 4 (by decide) w1_235 rfl hw h_nm rfl dX5_image_22 ?_
  refine k_mv hw (va_runV (As := [.ref (A 1), .int (nI base)]) (rest := []) E.1 (c_keep l D cy L f H.size (A 9) (A 11) (A 1) base (nI (kb 1)) (kp 1) sa ia (hA.ne (i := 1) (j := 11) (by decide) (by decide) (by decide)) (fun k hk => hA.out (hSl k hk).obj.2 (by decide)) (fun k hk => hA.out (hSl k hk).obj.2 (by decide)) (fun k hk => by obtain ⟨vs, h⟩ := (hSl k hk).obj.1; exact ⟨vs, h.1, (hF _ h.1 (hA.out (hSl k hk).obj.2 (by decide)) (hA.out (hSl k hk).obj.2 (by decide))).trans h.2⟩) h_g h_s h_sl) ⟨callB_of 2 E.1.2.2.2.2 (gd_own w2_190) rfl rfl rfl (E.1.2.2.2.2 _ w1_4) (E.1.2.2.2.2 _ w2_187) hd_X1_keep (by rw [hR]; exact ⟨Nat.le_of_ble_eq_true rfl, Nat.le_of_ble_eq_true rfl⟩), E.1.2.2.2.2 _ w2_188, E.1.2.2.2.2 _ w2_189⟩ (pw_preV (q := (RX1, TX1, 3)) E.2 hw h_g rfl) rfl rfl hl.1 rfl (lv_room (Nat.le_of_ble_eq_true rfl)) dX5_image_25 (by rw [hR]; exact ⟨Nat.le_of_ble_eq_true rfl, Nat.le_of_ble_eq_true rfl⟩)) (fun L1 f H locs hp hw => ?_)
  obtain ⟨hL1, hfr, h_g, h_s⟩ := hp
  have hL1 : L = L1 := hL1
  subst hL1
  have h_g : cel L f (A (8 + 1)) (.inr (1, [.ref (A 11), .int (nI base), .int (b2i true)])) := h_g
  have h_s : cel L f (A 11) (.inl (cy 4, 6, .inr (.inr (.inr (.inr (fun k => some (sa k))))))) := h_s
  have h_nm := h_nm.keep (fun _ h => h) (hfr _ h_nm.1 n_nm_g n_nm_s)
  have h_sl := h_sl.keep (fun _ h => h) (hfr _ h_sl.1 n_sl_g (hA.ne (i := 1) (j := 11) (by decide) (by decide) (by decide)))
  have h_im := h_im.keep (fun _ h => h) (hfr _ h_im.1 n_im_g n_im_s)
  have hF : ∀ b ∈ L, b ≠ (A (8 + 1)) → b ≠ (A 11) → f b = f0 b := fun b hb h0 h1 => (hfr b (hLs b hb) h0 h1).trans (hF b hb h0 h1)
  refine lv_iconst (v := nI 1) E.1.1 E.1.2.1 dX5_image_28 rfl ?_
  exact k_miret E hQ hlk hr hw (Nat.le_of_ble_eq_true rfl) (Nat.le_of_ble_eq_true rfl) (⟨hLs, fun b hb h => hF b hb (h 9 (by decide)) (h 11 (by decide)), va_up kp 1 true, va_up kb 1 base, va_up KS 1 SS, ⟨hB, h_nm, ⟨sa, h_sl, fun j hj => (hSl j hj).keep hLs (fun b hb hn => hF b hb (hA.out hn (by decide)) (hA.out hn (by decide)))⟩, hScr.keep hLs (hF _ (hA.2.2 _ (hA.1 3 (by decide))) (hA.ne (i := 3) (j := 9) (by decide) (by decide) (by decide)) (hA.ne (i := 3) (j := 11) (by decide) (by decide) (by decide))) (hF _ (hA.2.2 _ (hA.1 4 (by decide))) (hA.ne (i := 4) (j := 9) (by decide) (by decide) (by decide)) (hA.ne (i := 4) (j := 11) (by decide) (by decide) (by decide))) (hF _ (hA.2.2 _ (hA.1 5 (by decide))) (hA.ne (i := 5) (j := 9) (by decide) (by decide) (by decide)) (hA.ne (i := 5) (j := 11) (by decide) (by decide) (by decide))) (hF _ (hA.2.2 _ (hA.1 6 (by decide))) (hA.ne (i := 6) (j := 9) (by decide) (by decide) (by decide)) (hA.ne (i := 6) (j := 11) (by decide) (by decide) (by decide))) (hF _ (hA.2.2 _ (hA.1 7 (by decide))) (hA.ne (i := 7) (j := 9) (by decide) (by decide) (by decide)) (hA.ne (i := 7) (j := 11) (by decide) (by decide) (by decide))), ⟨h_im, hIo.keep hLs (hF _ (hA.2.2 _ (hA.1 8 (by decide))) (hA.ne (i := 8) (j := 9) (by decide) (by decide) (by decide)) (hA.ne (i := 8) (j := 11) (by decide) (by decide) (by decide))) (hF _ (hA.2.2 _ (hA.1 10 (by decide))) (hA.ne (i := 10) (j := 9) (by decide) (by decide) (by decide)) (hA.ne (i := 10) (j := 11) (by decide) (by decide) (by decide))) (fun b hb hn => hF b hb (hA.out hn (by decide)) (hA.out hn (by decide))), ⟨_, h_g, h_s, fun _ => ⟨hB, sa, rfl, fun j hj => (hSl j hj).keep hLs (fun b hb hn => hF b hb (hA.out hn (by decide)) (hA.out hn (by decide)))⟩⟩⟩⟩, by unfold sp_image; rw [if_neg (by rw [in_t (by decide) (by decide)]; decide), ix_nI (by decide)]; exact ⟨rfl, rfl, rfl, rfl⟩⟩) dX5_image_29

set_option maxHeartbeats 4000000 in
set_option maxRecDepth 100000 in
theorem p_restore0 (l : Launch) (D : va_G) (cy : Nat → ClassId) (L : List Nat) (f0 : Nat → va_E) (sz : Nat) (M : List Nat) (A : Nat → Nat) (base : Nat) (SS : Nat → Nat → Bool) (kp : Nat → Bool) (kb : Nat → Nat) (KS : Nat → Nat → Nat → Bool) (hA : AdOK L M A) (hN : NmW cy L f0 M A base SS kp kb KS)  : Met l yX5_restore (.code yX5_restore cX5_restore 2 (Option.some FieldType.int) :: wsL_law) { frames := 2, cells := 0, slots := 0, locals := 43 } (va_Pc [.ref (A 0), .int (nI 0)] (PW D cy L f0 sz)) (va_Qi (fun (r : Int32) (u : List Nat × (Nat → va_E)) => (∀ b ∈ L, b ∈ u.1) ∧ (∀ b ∈ L, (∀ i, i < 12 → b ≠ A i) → u.2 b = f0 b) ∧ ∃ base2 SS2, NmW cy u.1 u.2 M A base2 SS2 kp kb KS ∧ sp_restore base SS base2 SS2 kp kb KS (nI 0) r) (PB D (AW L sz)) (AW L sz)) 0 0 (AW L sz) := by
  refine m_start (by decide) (Nat.le_of_ble_eq_true rfl) ?_
  intro p e R Q s m args below meth c ls hsz hR hQ E hr hlk hnm hw hl
  have hl : lv_has ls 2 [(0, .ref (A 0)), (1, .int (nI 0))] := hl
  obtain ⟨H, hH⟩ : ∃ X, X = s.heap := ⟨_, rfl⟩
  obtain ⟨locs, hlocs⟩ : ∃ X : List Loc, X = [] := ⟨_, rfl⟩
  have hw0 := hw
  obtain ⟨hB, h_nm, ⟨sa, h_sl, hSl⟩, hScr, hRm⟩ := hN
  have hb2 := hB.two
  have hRm2 := hRm
  obtain ⟨h_im, ⟨ia, h_g, h_s, hI⟩, hIo⟩ := hRm
  obtain ⟨f, hf0⟩ : ∃ X, X = f0 := ⟨_, rfl⟩
  rw [← hf0] at h_nm h_sl h_im h_g h_s
  have hw : WW D (AW L sz) s.heap L f H locs := by rw [hH, hlocs, hf0]; exact hw
  have hF : ∀ b ∈ L, b ≠ (A 0) → b ≠ (A 1) → f b = f0 b := fun b hb h0 h1 => by rw [hf0]
  suffices hgo : W p l e R s m args below meth c H locs 0 0 Q (F0 m 0 ls []) by rw [hH, hlocs] at hgo; exact hgo
  clear hH hlocs hw0 hf0
  have hLs : ∀ b ∈ L, b ∈ L := fun _ h => h
  have n_nm_sl : A 0 ≠ A 1 := h_nm.ne h_sl (by simp)
  have n_sl_nm : A 1 ≠ A 0 := h_sl.ne h_nm (by simp)
  have n_im_nm : A 2 ≠ A 0 := h_im.ne h_nm (by simp)
  have n_im_sl : A 2 ≠ A 1 := h_im.ne h_sl (by simp)
  have n_g_nm : A (8 + 0) ≠ A 0 := h_g.ne h_nm (by simp)
  have n_g_sl : A (8 + 0) ≠ A 1 := h_g.ne h_sl (by simp)
  have n_s_nm : A 10 ≠ A 0 := h_s.ne h_nm (by simp)
  refine lv_aload_n E.1.1 E.1.2.1 dX5_restore_0 rfl (lv_at hl 0 rfl) ?_
  refine lv_iload_n E.1.1 E.1.2.1 dX5_restore_1 rfl (lv_at hl 1 rfl) ?_
  refine k_ri (va_runV (As := [.int (nI 0)]) (rest := []) E.1 (c_noImage l D cy L f H.size (A 0) (A 1) (A 2) (A 3) (A 5) base (fun k => A (8 + k)) (nI 0) h_nm h_im) ⟨callB_of 1 E.1.2.2.2.2 (gd_own w2_186) rfl rfl rfl (E.1.2.2.2.2 _ w1_1) (E.1.2.2.2.2 _ w2_183) hd_X5_noImage (by rw [hR]; exact ⟨Nat.le_of_ble_eq_true rfl, Nat.le_of_ble_eq_true rfl⟩), E.1.2.2.2.2 _ w2_185, E.1.2.2.2.2 _ ws_19⟩ (pw_preV (q := (RX5, TX5, 5)) E.2 hw h_nm rfl) rfl rfl hl.1 rfl (lv_room (Nat.le_of_ble_eq_true rfl)) dX5_restore_2 ⟨Nat.zero_le _, Nat.zero_le _⟩) ?_
  refine k_if0 (tgt := 11) E dX5_restore_5 (by decide) (fun c5 => ?_) (fun c5 => absurd c5 (by rw [in_t (by decide) (by decide)]; decide))
  refine lv_aload_n E.1.1 E.1.2.1 dX5_restore_11 rfl (lv_at hl 0 rfl) ?_
  refine k_get (v := .ref (A 2)) E inlX5 rfl 1 (by decide) w1_232 rfl hw h_nm rfl dX5_restore_12 ?_
  refine lv_iload_n E.1.1 E.1.2.1 dX5_restore_15 rfl (lv_at hl 1 rfl) ?_
  refine k_aald E hw 3 (r := A (8 + 0)) h_im rfl (by omega) (by omega) (rfl) dX5_restore_16 ?_
  refine k_getN (v := .int (b2i (kp 0))) E inlX1 rfl 2 (by decide) (List.mem_of_getElem? (i := 9) rfl) rfl hw h_g rfl dX5_restore_17 ?_
  refine k_if1 (tgt := 26) E dX5_restore_20 (by decide) (fun c20 => ?_) (fun c20 => ?_)
  · obtain ⟨hkb, gb, hia, hgb⟩ := hI c20
    rw [hia] at h_s
    refine lv_aload_n E.1.1 E.1.2.1 dX5_restore_26 rfl (lv_at hl 0 rfl) ?_
    refine lv_aload_n E.1.1 E.1.2.1 dX5_restore_27 rfl (lv_at hl 0 rfl) ?_
    refine k_get (v := .ref (A 2)) E inlX5 rfl 1 (by decide) w1_232 rfl hw h_nm rfl dX5_restore_28 ?_
    refine lv_iload_n E.1.1 E.1.2.1 dX5_restore_31 rfl (lv_at hl 1 rfl) ?_
    refine k_aald E hw 3 (r := A (8 + 0)) h_im rfl (by omega) (by omega) (rfl) dX5_restore_32 ?_
    refine lv_aload_n E.1.1 E.1.2.1 dX5_restore_33 rfl (lv_at hl 0 rfl) ?_
    refine k_get (v := .ref (A 1)) E inlX5 rfl 0 (by decide) w1_231 rfl hw h_nm rfl dX5_restore_34 ?_
    refine k_mi hw (va_runV (As := [.ref (A 1)]) (rest := [.ref (A 0)]) E.1 (c_giveBack l D cy L f H.size (A 8) (A 10) (A 1) (kb 0) (kp 0) gb (fun k => some (sa k)) (hA.ne (i := 10) (j := 1) (by decide) (by decide) (by decide)) (fun k hk => hA.out (hgb k hk).obj.2 (by decide)) (fun k hk => by obtain ⟨vs, h⟩ := (hgb k hk).obj.1; exact ⟨vs, h.1, (hF _ h.1 (hA.out (hgb k hk).obj.2 (by decide)) (hA.out (hgb k hk).obj.2 (by decide))).trans h.2⟩) h_g h_sl h_s) ⟨callB_of 1 E.1.2.2.2.2 (gd_own w2_201) rfl rfl rfl (E.1.2.2.2.2 _ w1_4) (E.1.2.2.2.2 _ w2_198) hd_X1_giveBack (by rw [hR]; exact ⟨Nat.le_of_ble_eq_true rfl, Nat.le_of_ble_eq_true rfl⟩), E.1.2.2.2.2 _ w2_199, E.1.2.2.2.2 _ w2_200⟩ (pw_preV (q := (RX1, TX1, 3)) E.2 hw h_g rfl) rfl rfl hl.1 rfl (lv_room (Nat.le_of_ble_eq_true rfl)) dX5_restore_37 (by rw [hR]; exact ⟨Nat.le_of_ble_eq_true rfl, Nat.le_of_ble_eq_true rfl⟩)) (fun r L1 f H locs hp hw => ?_)
    obtain ⟨rfl, hp⟩ := hp
    obtain ⟨hL1, hfr, h_sl⟩ := hp
    have hL1 : L = L1 := hL1
    subst hL1
    have h_sl : cel L f (A 1) (.inl (cy 4, 6, .inr (.inr (.inr (.inr (fun k => some (gb k))))))) := h_sl
    have h_nm := h_nm.keep (fun _ h => h) (hfr _ h_nm.1 n_nm_sl)
    have h_im := h_im.keep (fun _ h => h) (hfr _ h_im.1 n_im_sl)
    have h_g := h_g.keep (fun _ h => h) (hfr _ h_g.1 n_g_sl)
    have h_s := h_s.keep (fun _ h => h) (hfr _ h_s.1 (hA.ne (i := 10) (j := 1) (by decide) (by decide) (by decide)))
    have hF : ∀ b ∈ L, b ≠ (A 0) → b ≠ (A 1) → f b = f0 b := fun b hb h0 h1 => (hfr b (hLs b hb) h1).trans (hF b hb h0 h1)
    refine k_put (ty0 := tyX5) E inlX5 rfl tyX5_ok nmX5 4 (by decide) w1_235 rfl rfl hw [.ref (A 1), .ref (A 2), .ref (A 3), .ref (A 5), .int (nI (kb 0))] h_nm (rfl) (rfl) (Nat.le_of_ble_eq_true rfl) rfl dX5_restore_40 (fun f H locs h_nm hfr hw => ?_)
    have h_sl := h_sl.kp hfr n_sl_nm
    have h_im := h_im.kp hfr n_im_nm
    have h_g := h_g.kp hfr n_g_nm
    have h_s := h_s.kp hfr n_s_nm
    have hF : ∀ b ∈ L, b ≠ (A 0) → b ≠ (A 1) → f b = f0 b := fun b hb h0 h1 => (hfr b h0).trans (hF b hb h0 h1)
    refine lv_iconst (v := nI 1) E.1.1 E.1.2.1 dX5_restore_43 rfl ?_
    exact k_miret E hQ hlk hr hw (Nat.le_of_ble_eq_true rfl) (Nat.le_of_ble_eq_true rfl) (⟨hLs, fun b hb h => hF b hb (h 0 (by decide)) (h 1 (by decide)), kb 0, KS 0, ⟨hkb, h_nm, ⟨gb, h_sl, fun j hj => (hgb j hj).keep hLs (fun b hb hn => hF b hb (hA.out hn (by decide)) (hA.out hn (by decide)))⟩, hScr.keep hLs (hF _ (hA.2.2 _ (hA.1 3 (by decide))) (hA.ne (i := 3) (j := 0) (by decide) (by decide) (by decide)) (hA.ne (i := 3) (j := 1) (by decide) (by decide) (by decide))) (hF _ (hA.2.2 _ (hA.1 4 (by decide))) (hA.ne (i := 4) (j := 0) (by decide) (by decide) (by decide)) (hA.ne (i := 4) (j := 1) (by decide) (by decide) (by decide))) (hF _ (hA.2.2 _ (hA.1 5 (by decide))) (hA.ne (i := 5) (j := 0) (by decide) (by decide) (by decide)) (hA.ne (i := 5) (j := 1) (by decide) (by decide) (by decide))) (hF _ (hA.2.2 _ (hA.1 6 (by decide))) (hA.ne (i := 6) (j := 0) (by decide) (by decide) (by decide)) (hA.ne (i := 6) (j := 1) (by decide) (by decide) (by decide))) (hF _ (hA.2.2 _ (hA.1 7 (by decide))) (hA.ne (i := 7) (j := 0) (by decide) (by decide) (by decide)) (hA.ne (i := 7) (j := 1) (by decide) (by decide) (by decide))), hRm2.keep hA hLs (fun b hb h0 h1 _ _ _ _ _ => hF b hb h0 h1)⟩, by unfold sp_restore; rw [if_neg (by rw [in_t (by decide) (by decide)]; decide), ix_nI (by decide), if_neg (by rw [c20]; decide)]; exact ⟨rfl, rfl, rfl⟩⟩) dX5_restore_44
  · refine lv_bipush (v := -3) E.1.1 E.1.2.1 dX5_restore_23 rfl ?_
    exact k_miret E hQ hlk hr hw (Nat.le_of_ble_eq_true rfl) (Nat.le_of_ble_eq_true rfl) (⟨hLs, fun b hb h => hF b hb (h 0 (by decide)) (h 1 (by decide)), base, SS, ⟨hB, h_nm, ⟨sa, h_sl, fun j hj => (hSl j hj).keep hLs (fun b hb hn => hF b hb (hA.out hn (by decide)) (hA.out hn (by decide)))⟩, hScr.keep hLs (hF _ (hA.2.2 _ (hA.1 3 (by decide))) (hA.ne (i := 3) (j := 0) (by decide) (by decide) (by decide)) (hA.ne (i := 3) (j := 1) (by decide) (by decide) (by decide))) (hF _ (hA.2.2 _ (hA.1 4 (by decide))) (hA.ne (i := 4) (j := 0) (by decide) (by decide) (by decide)) (hA.ne (i := 4) (j := 1) (by decide) (by decide) (by decide))) (hF _ (hA.2.2 _ (hA.1 5 (by decide))) (hA.ne (i := 5) (j := 0) (by decide) (by decide) (by decide)) (hA.ne (i := 5) (j := 1) (by decide) (by decide) (by decide))) (hF _ (hA.2.2 _ (hA.1 6 (by decide))) (hA.ne (i := 6) (j := 0) (by decide) (by decide) (by decide)) (hA.ne (i := 6) (j := 1) (by decide) (by decide) (by decide))) (hF _ (hA.2.2 _ (hA.1 7 (by decide))) (hA.ne (i := 7) (j := 0) (by decide) (by decide) (by decide)) (hA.ne (i := 7) (j := 1) (by decide) (by decide) (by decide))), hRm2.keep hA hLs (fun b hb h0 h1 _ _ _ _ _ => hF b hb h0 h1)⟩, by unfold sp_restore; rw [if_neg (by rw [in_t (by decide) (by decide)]; decide), ix_nI (by decide), if_pos c20]; exact ⟨rfl, rfl, rfl⟩⟩) dX5_restore_25

set_option maxHeartbeats 4000000 in
set_option maxRecDepth 100000 in
theorem p_restore1 (l : Launch) (D : va_G) (cy : Nat → ClassId) (L : List Nat) (f0 : Nat → va_E) (sz : Nat) (M : List Nat) (A : Nat → Nat) (base : Nat) (SS : Nat → Nat → Bool) (kp : Nat → Bool) (kb : Nat → Nat) (KS : Nat → Nat → Nat → Bool) (hA : AdOK L M A) (hN : NmW cy L f0 M A base SS kp kb KS)  : Met l yX5_restore (.code yX5_restore cX5_restore 2 (Option.some FieldType.int) :: wsL_law) { frames := 2, cells := 0, slots := 0, locals := 43 } (va_Pc [.ref (A 0), .int (nI 1)] (PW D cy L f0 sz)) (va_Qi (fun (r : Int32) (u : List Nat × (Nat → va_E)) => (∀ b ∈ L, b ∈ u.1) ∧ (∀ b ∈ L, (∀ i, i < 12 → b ≠ A i) → u.2 b = f0 b) ∧ ∃ base2 SS2, NmW cy u.1 u.2 M A base2 SS2 kp kb KS ∧ sp_restore base SS base2 SS2 kp kb KS (nI 1) r) (PB D (AW L sz)) (AW L sz)) 0 0 (AW L sz) := by
  refine m_start (by decide) (Nat.le_of_ble_eq_true rfl) ?_
  intro p e R Q s m args below meth c ls hsz hR hQ E hr hlk hnm hw hl
  have hl : lv_has ls 2 [(0, .ref (A 0)), (1, .int (nI 1))] := hl
  obtain ⟨H, hH⟩ : ∃ X, X = s.heap := ⟨_, rfl⟩
  obtain ⟨locs, hlocs⟩ : ∃ X : List Loc, X = [] := ⟨_, rfl⟩
  have hw0 := hw
  obtain ⟨hB, h_nm, ⟨sa, h_sl, hSl⟩, hScr, hRm⟩ := hN
  have hb2 := hB.two
  have hRm2 := hRm
  obtain ⟨h_im, hIo, ⟨ia, h_g, h_s, hI⟩⟩ := hRm
  obtain ⟨f, hf0⟩ : ∃ X, X = f0 := ⟨_, rfl⟩
  rw [← hf0] at h_nm h_sl h_im h_g h_s
  have hw : WW D (AW L sz) s.heap L f H locs := by rw [hH, hlocs, hf0]; exact hw
  have hF : ∀ b ∈ L, b ≠ (A 0) → b ≠ (A 1) → f b = f0 b := fun b hb h0 h1 => by rw [hf0]
  suffices hgo : W p l e R s m args below meth c H locs 0 0 Q (F0 m 0 ls []) by rw [hH, hlocs] at hgo; exact hgo
  clear hH hlocs hw0 hf0
  have hLs : ∀ b ∈ L, b ∈ L := fun _ h => h
  have n_nm_sl : A 0 ≠ A 1 := h_nm.ne h_sl (by simp)
  have n_sl_nm : A 1 ≠ A 0 := h_sl.ne h_nm (by simp)
  have n_im_nm : A 2 ≠ A 0 := h_im.ne h_nm (by simp)
  have n_im_sl : A 2 ≠ A 1 := h_im.ne h_sl (by simp)
  have n_g_nm : A (8 + 1) ≠ A 0 := h_g.ne h_nm (by simp)
  have n_g_sl : A (8 + 1) ≠ A 1 := h_g.ne h_sl (by simp)
  have n_s_nm : A 11 ≠ A 0 := h_s.ne h_nm (by simp)
  refine lv_aload_n E.1.1 E.1.2.1 dX5_restore_0 rfl (lv_at hl 0 rfl) ?_
  refine lv_iload_n E.1.1 E.1.2.1 dX5_restore_1 rfl (lv_at hl 1 rfl) ?_
  refine k_ri (va_runV (As := [.int (nI 1)]) (rest := []) E.1 (c_noImage l D cy L f H.size (A 0) (A 1) (A 2) (A 3) (A 5) base (fun k => A (8 + k)) (nI 1) h_nm h_im) ⟨callB_of 1 E.1.2.2.2.2 (gd_own w2_186) rfl rfl rfl (E.1.2.2.2.2 _ w1_1) (E.1.2.2.2.2 _ w2_183) hd_X5_noImage (by rw [hR]; exact ⟨Nat.le_of_ble_eq_true rfl, Nat.le_of_ble_eq_true rfl⟩), E.1.2.2.2.2 _ w2_185, E.1.2.2.2.2 _ ws_19⟩ (pw_preV (q := (RX5, TX5, 5)) E.2 hw h_nm rfl) rfl rfl hl.1 rfl (lv_room (Nat.le_of_ble_eq_true rfl)) dX5_restore_2 ⟨Nat.zero_le _, Nat.zero_le _⟩) ?_
  refine k_if0 (tgt := 11) E dX5_restore_5 (by decide) (fun c5 => ?_) (fun c5 => absurd c5 (by rw [in_t (by decide) (by decide)]; decide))
  refine lv_aload_n E.1.1 E.1.2.1 dX5_restore_11 rfl (lv_at hl 0 rfl) ?_
  refine k_get (v := .ref (A 2)) E inlX5 rfl 1 (by decide) w1_232 rfl hw h_nm rfl dX5_restore_12 ?_
  refine lv_iload_n E.1.1 E.1.2.1 dX5_restore_15 rfl (lv_at hl 1 rfl) ?_
  refine k_aald E hw 3 (r := A (8 + 1)) h_im rfl (by omega) (by omega) (rfl) dX5_restore_16 ?_
  refine k_getN (v := .int (b2i (kp 1))) E inlX1 rfl 2 (by decide) (List.mem_of_getElem? (i := 9) rfl) rfl hw h_g rfl dX5_restore_17 ?_
  refine k_if1 (tgt := 26) E dX5_restore_20 (by decide) (fun c20 => ?_) (fun c20 => ?_)
  · obtain ⟨hkb, gb, hia, hgb⟩ := hI c20
    rw [hia] at h_s
    refine lv_aload_n E.1.1 E.1.2.1 dX5_restore_26 rfl (lv_at hl 0 rfl) ?_
    refine lv_aload_n E.1.1 E.1.2.1 dX5_restore_27 rfl (lv_at hl 0 rfl) ?_
    refine k_get (v := .ref (A 2)) E inlX5 rfl 1 (by decide) w1_232 rfl hw h_nm rfl dX5_restore_28 ?_
    refine lv_iload_n E.1.1 E.1.2.1 dX5_restore_31 rfl (lv_at hl 1 rfl) ?_
    refine k_aald E hw 3 (r := A (8 + 1)) h_im rfl (by omega) (by omega) (rfl) dX5_restore_32 ?_
    refine lv_aload_n E.1.1 E.1.2.1 dX5_restore_33 rfl (lv_at hl 0 rfl) ?_
    refine k_get (v := .ref (A 1)) E inlX5 rfl 0 (by decide) w1_231 rfl hw h_nm rfl dX5_restore_34 ?_
    refine k_mi hw (va_runV (As := [.ref (A 1)]) (rest := [.ref (A 0)]) E.1 (c_giveBack l D cy L f H.size (A 9) (A 11) (A 1) (kb 1) (kp 1) gb (fun k => some (sa k)) (hA.ne (i := 11) (j := 1) (by decide) (by decide) (by decide)) (fun k hk => hA.out (hgb k hk).obj.2 (by decide)) (fun k hk => by obtain ⟨vs, h⟩ := (hgb k hk).obj.1; exact ⟨vs, h.1, (hF _ h.1 (hA.out (hgb k hk).obj.2 (by decide)) (hA.out (hgb k hk).obj.2 (by decide))).trans h.2⟩) h_g h_sl h_s) ⟨callB_of 1 E.1.2.2.2.2 (gd_own w2_201) rfl rfl rfl (E.1.2.2.2.2 _ w1_4) (E.1.2.2.2.2 _ w2_198) hd_X1_giveBack (by rw [hR]; exact ⟨Nat.le_of_ble_eq_true rfl, Nat.le_of_ble_eq_true rfl⟩), E.1.2.2.2.2 _ w2_199, E.1.2.2.2.2 _ w2_200⟩ (pw_preV (q := (RX1, TX1, 3)) E.2 hw h_g rfl) rfl rfl hl.1 rfl (lv_room (Nat.le_of_ble_eq_true rfl)) dX5_restore_37 (by rw [hR]; exact ⟨Nat.le_of_ble_eq_true rfl, Nat.le_of_ble_eq_true rfl⟩)) (fun r L1 f H locs hp hw => ?_)
    obtain ⟨rfl, hp⟩ := hp
    obtain ⟨hL1, hfr, h_sl⟩ := hp
    have hL1 : L = L1 := hL1
    subst hL1
    have h_sl : cel L f (A 1) (.inl (cy 4, 6, .inr (.inr (.inr (.inr (fun k => some (gb k))))))) := h_sl
    have h_nm := h_nm.keep (fun _ h => h) (hfr _ h_nm.1 n_nm_sl)
    have h_im := h_im.keep (fun _ h => h) (hfr _ h_im.1 n_im_sl)
    have h_g := h_g.keep (fun _ h => h) (hfr _ h_g.1 n_g_sl)
    have h_s := h_s.keep (fun _ h => h) (hfr _ h_s.1 (hA.ne (i := 11) (j := 1) (by decide) (by decide) (by decide)))
    have hF : ∀ b ∈ L, b ≠ (A 0) → b ≠ (A 1) → f b = f0 b := fun b hb h0 h1 => (hfr b (hLs b hb) h1).trans (hF b hb h0 h1)
    refine k_put (ty0 := tyX5) E inlX5 rfl tyX5_ok nmX5 4 (by decide) w1_235 rfl rfl hw [.ref (A 1), .ref (A 2), .ref (A 3), .ref (A 5), .int (nI (kb 1))] h_nm (rfl) (rfl) (Nat.le_of_ble_eq_true rfl) rfl dX5_restore_40 (fun f H locs h_nm hfr hw => ?_)
    have h_sl := h_sl.kp hfr n_sl_nm
    have h_im := h_im.kp hfr n_im_nm
    have h_g := h_g.kp hfr n_g_nm
    have h_s := h_s.kp hfr n_s_nm
    have hF : ∀ b ∈ L, b ≠ (A 0) → b ≠ (A 1) → f b = f0 b := fun b hb h0 h1 => (hfr b h0).trans (hF b hb h0 h1)
    refine lv_iconst (v := nI 1) E.1.1 E.1.2.1 dX5_restore_43 rfl ?_
    exact k_miret E hQ hlk hr hw (Nat.le_of_ble_eq_true rfl) (Nat.le_of_ble_eq_true rfl) (⟨hLs, fun b hb h => hF b hb (h 0 (by decide)) (h 1 (by decide)), kb 1, KS 1, ⟨hkb, h_nm, ⟨gb, h_sl, fun j hj => (hgb j hj).keep hLs (fun b hb hn => hF b hb (hA.out hn (by decide)) (hA.out hn (by decide)))⟩, hScr.keep hLs (hF _ (hA.2.2 _ (hA.1 3 (by decide))) (hA.ne (i := 3) (j := 0) (by decide) (by decide) (by decide)) (hA.ne (i := 3) (j := 1) (by decide) (by decide) (by decide))) (hF _ (hA.2.2 _ (hA.1 4 (by decide))) (hA.ne (i := 4) (j := 0) (by decide) (by decide) (by decide)) (hA.ne (i := 4) (j := 1) (by decide) (by decide) (by decide))) (hF _ (hA.2.2 _ (hA.1 5 (by decide))) (hA.ne (i := 5) (j := 0) (by decide) (by decide) (by decide)) (hA.ne (i := 5) (j := 1) (by decide) (by decide) (by decide))) (hF _ (hA.2.2 _ (hA.1 6 (by decide))) (hA.ne (i := 6) (j := 0) (by decide) (by decide) (by decide)) (hA.ne (i := 6) (j := 1) (by decide) (by decide) (by decide))) (hF _ (hA.2.2 _ (hA.1 7 (by decide))) (hA.ne (i := 7) (j := 0) (by decide) (by decide) (by decide)) (hA.ne (i := 7) (j := 1) (by decide) (by decide) (by decide))), hRm2.keep hA hLs (fun b hb h0 h1 _ _ _ _ _ => hF b hb h0 h1)⟩, by unfold sp_restore; rw [if_neg (by rw [in_t (by decide) (by decide)]; decide), ix_nI (by decide), if_neg (by rw [c20]; decide)]; exact ⟨rfl, rfl, rfl⟩⟩) dX5_restore_44
  · refine lv_bipush (v := -3) E.1.1 E.1.2.1 dX5_restore_23 rfl ?_
    exact k_miret E hQ hlk hr hw (Nat.le_of_ble_eq_true rfl) (Nat.le_of_ble_eq_true rfl) (⟨hLs, fun b hb h => hF b hb (h 0 (by decide)) (h 1 (by decide)), base, SS, ⟨hB, h_nm, ⟨sa, h_sl, fun j hj => (hSl j hj).keep hLs (fun b hb hn => hF b hb (hA.out hn (by decide)) (hA.out hn (by decide)))⟩, hScr.keep hLs (hF _ (hA.2.2 _ (hA.1 3 (by decide))) (hA.ne (i := 3) (j := 0) (by decide) (by decide) (by decide)) (hA.ne (i := 3) (j := 1) (by decide) (by decide) (by decide))) (hF _ (hA.2.2 _ (hA.1 4 (by decide))) (hA.ne (i := 4) (j := 0) (by decide) (by decide) (by decide)) (hA.ne (i := 4) (j := 1) (by decide) (by decide) (by decide))) (hF _ (hA.2.2 _ (hA.1 5 (by decide))) (hA.ne (i := 5) (j := 0) (by decide) (by decide) (by decide)) (hA.ne (i := 5) (j := 1) (by decide) (by decide) (by decide))) (hF _ (hA.2.2 _ (hA.1 6 (by decide))) (hA.ne (i := 6) (j := 0) (by decide) (by decide) (by decide)) (hA.ne (i := 6) (j := 1) (by decide) (by decide) (by decide))) (hF _ (hA.2.2 _ (hA.1 7 (by decide))) (hA.ne (i := 7) (j := 0) (by decide) (by decide) (by decide)) (hA.ne (i := 7) (j := 1) (by decide) (by decide) (by decide))), hRm2.keep hA hLs (fun b hb h0 h1 _ _ _ _ _ => hF b hb h0 h1)⟩, by unfold sp_restore; rw [if_neg (by rw [in_t (by decide) (by decide)]; decide), ix_nI (by decide), if_pos c20]; exact ⟨rfl, rfl, rfl⟩⟩) dX5_restore_25

set_option maxHeartbeats 4000000 in
set_option maxRecDepth 100000 in
theorem p_imagex (l : Launch) (D : va_G) (cy : Nat → ClassId) (L : List Nat) (f0 : Nat → va_E) (sz : Nat) (M : List Nat) (A : Nat → Nat) (base : Nat) (SS : Nat → Nat → Bool) (kp : Nat → Bool) (kb : Nat → Nat) (KS : Nat → Nat → Nat → Bool) (hA : AdOK L M A) (hN : NmW cy L f0 M A base SS kp kb KS) (x : Int32) (hin : i32in x 0 (nI 1) = false) : Met l yX5_image (.code yX5_image cX5_image 2 (Option.some FieldType.int) :: wsL_law) { frames := 1, cells := 0, slots := 0, locals := 21 } (va_Pc [.ref (A 0), .int x] (PW D cy L f0 sz)) (va_Qi (fun (r : Int32) (u : List Nat × (Nat → va_E)) => (∀ b ∈ L, b ∈ u.1) ∧ (∀ b ∈ L, (∀ i, i < 12 → b ≠ A i) → u.2 b = f0 b) ∧ ∃ kp2 kb2 KS2, NmW cy u.1 u.2 M A base SS kp2 kb2 KS2 ∧ sp_image base SS kp kp2 kb kb2 KS KS2 x r) (PB D (AW L sz)) (AW L sz)) 0 0 (AW L sz) := by
  refine m_start (by decide) (Nat.le_of_ble_eq_true rfl) ?_
  intro p e R Q s m args below meth c ls hsz hR hQ E hr hlk hnm hw hl
  have hl : lv_has ls 2 [(0, .ref (A 0)), (1, .int x)] := hl
  obtain ⟨H, hH⟩ : ∃ X, X = s.heap := ⟨_, rfl⟩
  obtain ⟨locs, hlocs⟩ : ∃ X : List Loc, X = [] := ⟨_, rfl⟩
  have hw0 := hw
  have hN0 := hN
  obtain ⟨hB, h_nm, ⟨sa, h_sl, hSl⟩, hScr, hRm⟩ := hN
  have hb2 := hB.two
  have hRm2 := hRm
  obtain ⟨h_im, ⟨ia, h_g, h_s, hI⟩, hIo⟩ := hRm
  obtain ⟨f, hf0⟩ : ∃ X, X = f0 := ⟨_, rfl⟩
  rw [← hf0] at h_nm h_im
  have hw : WW D (AW L sz) s.heap L f H locs := by rw [hH, hlocs, hf0]; exact hw
  have hF : ∀ b ∈ L, f b = f0 b := fun b hb => by rw [hf0]
  suffices hgo : W p l e R s m args below meth c H locs 0 0 Q (F0 m 0 ls []) by rw [hH, hlocs] at hgo; exact hgo
  clear hH hlocs hw0 hf0
  have hLs : ∀ b ∈ L, b ∈ L := fun _ h => h
  refine lv_aload_n E.1.1 E.1.2.1 dX5_image_0 rfl (lv_at hl 0 rfl) ?_
  refine lv_iload_n E.1.1 E.1.2.1 dX5_image_1 rfl (lv_at hl 1 rfl) ?_
  refine k_ri (va_runV (As := [.int x]) (rest := []) E.1 (c_noImage l D cy L f H.size (A 0) (A 1) (A 2) (A 3) (A 5) base (fun k => A (8 + k)) x h_nm h_im) ⟨callB_of 1 E.1.2.2.2.2 (gd_own w2_186) rfl rfl rfl (E.1.2.2.2.2 _ w1_1) (E.1.2.2.2.2 _ w2_183) hd_X5_noImage (by rw [hR]; exact ⟨Nat.le_of_ble_eq_true rfl, Nat.le_of_ble_eq_true rfl⟩), E.1.2.2.2.2 _ w2_185, E.1.2.2.2.2 _ ws_19⟩ (pw_preV (q := (RX5, TX5, 5)) E.2 hw h_nm rfl) rfl rfl hl.1 rfl (lv_room (Nat.le_of_ble_eq_true rfl)) dX5_image_2 ⟨Nat.zero_le _, Nat.zero_le _⟩) ?_
  refine k_if0 (tgt := 11) E dX5_image_5 (by decide) (fun c5 => absurd c5 (by rw [hin]; decide)) (fun c5 => ?_)
  refine lv_bipush (v := -2) E.1.1 E.1.2.1 dX5_image_8 rfl ?_
  exact k_miret E hQ hlk hr hw (Nat.le_of_ble_eq_true rfl) (Nat.le_of_ble_eq_true rfl) (⟨hLs, fun b hb h => hF b hb, kp, kb, KS, hN0.keep hLs hF, by unfold sp_image; rw [if_pos hin]; exact ⟨rfl, rfl, rfl, rfl⟩⟩) dX5_image_10

set_option maxHeartbeats 4000000 in
set_option maxRecDepth 100000 in
theorem p_restorex (l : Launch) (D : va_G) (cy : Nat → ClassId) (L : List Nat) (f0 : Nat → va_E) (sz : Nat) (M : List Nat) (A : Nat → Nat) (base : Nat) (SS : Nat → Nat → Bool) (kp : Nat → Bool) (kb : Nat → Nat) (KS : Nat → Nat → Nat → Bool) (hA : AdOK L M A) (hN : NmW cy L f0 M A base SS kp kb KS) (x : Int32) (hin : i32in x 0 (nI 1) = false) : Met l yX5_restore (.code yX5_restore cX5_restore 2 (Option.some FieldType.int) :: wsL_law) { frames := 1, cells := 0, slots := 0, locals := 21 } (va_Pc [.ref (A 0), .int x] (PW D cy L f0 sz)) (va_Qi (fun (r : Int32) (u : List Nat × (Nat → va_E)) => (∀ b ∈ L, b ∈ u.1) ∧ (∀ b ∈ L, (∀ i, i < 12 → b ≠ A i) → u.2 b = f0 b) ∧ ∃ base2 SS2, NmW cy u.1 u.2 M A base2 SS2 kp kb KS ∧ sp_restore base SS base2 SS2 kp kb KS x r) (PB D (AW L sz)) (AW L sz)) 0 0 (AW L sz) := by
  refine m_start (by decide) (Nat.le_of_ble_eq_true rfl) ?_
  intro p e R Q s m args below meth c ls hsz hR hQ E hr hlk hnm hw hl
  have hl : lv_has ls 2 [(0, .ref (A 0)), (1, .int x)] := hl
  obtain ⟨H, hH⟩ : ∃ X, X = s.heap := ⟨_, rfl⟩
  obtain ⟨locs, hlocs⟩ : ∃ X : List Loc, X = [] := ⟨_, rfl⟩
  have hw0 := hw
  have hN0 := hN
  obtain ⟨hB, h_nm, ⟨sa, h_sl, hSl⟩, hScr, hRm⟩ := hN
  have hb2 := hB.two
  have hRm2 := hRm
  obtain ⟨h_im, ⟨ia, h_g, h_s, hI⟩, hIo⟩ := hRm
  obtain ⟨f, hf0⟩ : ∃ X, X = f0 := ⟨_, rfl⟩
  rw [← hf0] at h_nm h_im
  have hw : WW D (AW L sz) s.heap L f H locs := by rw [hH, hlocs, hf0]; exact hw
  have hF : ∀ b ∈ L, f b = f0 b := fun b hb => by rw [hf0]
  suffices hgo : W p l e R s m args below meth c H locs 0 0 Q (F0 m 0 ls []) by rw [hH, hlocs] at hgo; exact hgo
  clear hH hlocs hw0 hf0
  have hLs : ∀ b ∈ L, b ∈ L := fun _ h => h
  refine lv_aload_n E.1.1 E.1.2.1 dX5_restore_0 rfl (lv_at hl 0 rfl) ?_
  refine lv_iload_n E.1.1 E.1.2.1 dX5_restore_1 rfl (lv_at hl 1 rfl) ?_
  refine k_ri (va_runV (As := [.int x]) (rest := []) E.1 (c_noImage l D cy L f H.size (A 0) (A 1) (A 2) (A 3) (A 5) base (fun k => A (8 + k)) x h_nm h_im) ⟨callB_of 1 E.1.2.2.2.2 (gd_own w2_186) rfl rfl rfl (E.1.2.2.2.2 _ w1_1) (E.1.2.2.2.2 _ w2_183) hd_X5_noImage (by rw [hR]; exact ⟨Nat.le_of_ble_eq_true rfl, Nat.le_of_ble_eq_true rfl⟩), E.1.2.2.2.2 _ w2_185, E.1.2.2.2.2 _ ws_19⟩ (pw_preV (q := (RX5, TX5, 5)) E.2 hw h_nm rfl) rfl rfl hl.1 rfl (lv_room (Nat.le_of_ble_eq_true rfl)) dX5_restore_2 ⟨Nat.zero_le _, Nat.zero_le _⟩) ?_
  refine k_if0 (tgt := 11) E dX5_restore_5 (by decide) (fun c5 => absurd c5 (by rw [hin]; decide)) (fun c5 => ?_)
  refine lv_bipush (v := -2) E.1.1 E.1.2.1 dX5_restore_8 rfl ?_
  exact k_miret E hQ hlk hr hw (Nat.le_of_ble_eq_true rfl) (Nat.le_of_ble_eq_true rfl) (⟨hLs, fun b hb h => hF b hb, base, SS, hN0.keep hLs hF, by unfold sp_restore; rw [if_pos hin]; exact ⟨rfl, rfl, rfl⟩⟩) dX5_restore_10
