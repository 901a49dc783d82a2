set_option maxHeartbeats 4000000 in
set_option maxRecDepth 100000 in
theorem m_image (l : Launch) (D : va_G) (cy : Nat → ClassId) (L : List Nat) (f0 : Nat → va_E) (sz : Nat) (A : Nat → Nat) (base : Nat) (SS : Nat → Nat → Bool) (kp : Nat → Bool) (kb : Nat → Nat) (KS : Nat → Nat → Nat → Bool) (hA : MAd A) (hN : MoW cy L f0 A base SS kp kb KS) (x : Int32) : Met l yX6_image (.code yX6_image cX6_image 3 (Option.some FieldType.int) :: wsL_law) { frames := 1, cells := 0, slots := 0, locals := 23 } (va_Pc [.ref (A 0), .int x] (PW D cy L f0 sz)) (va_Qi (fun (r : Int32) (u : List Nat × (Nat → va_E)) => L = u.1 ∧ (∀ b ∈ L, (∀ i, i < 9 → b ≠ A i) → u.2 b = f0 b) ∧ ∃ kp2 kb2 KS2, MoW cy L u.2 A base SS kp2 kb2 KS2 ∧ sp_image base SS kp kp2 kb kb2 KS KS2 x r) (PB D (AW L sz)) (AW L sz)) 0 0 (AW L sz) := by
  refine m_start (by decide) (Nat.le_of_ble_eq_true rfl) ?_
  intro p e R Q s m args below meth c ls hsz hR hQ E hr hlk hnm hw hl
  have hl : lv_has ls 3 [(0, .ref (A 0)), (1, .int x)] := hl
  obtain ⟨H, hH⟩ : ∃ X, X = s.heap := ⟨_, rfl⟩
  obtain ⟨locs, hlocs⟩ : ∃ X : List Loc, X = [] := ⟨_, rfl⟩
  have hw0 := hw
  obtain ⟨hB, fr, pb, ns, T, P, B, rr, G, Fa, kb1, ⟨h_o, h_ts, h_ps, h_bs, h_rw, h_gs, h_fa, h_ba, h_it⟩, hTP, hMS, hMK⟩ := hN
  have hb2 := hB.two
  obtain ⟨f, hf0⟩ : ∃ X, X = f0 := ⟨_, rfl⟩
  rw [← hf0] at h_o h_ts h_ps h_bs h_rw h_gs h_fa h_ba h_it
  have hw : WW D (AW L sz) s.heap L f H locs := by rw [hH, hlocs, hf0]; exact hw
  have hF : ∀ b ∈ L, b ≠ (A 1) → b ≠ (A 2) → b ≠ (A 3) → b ≠ (A 7) → b ≠ (A 8) → f b = f0 b := fun b hb h0 h1 h2 h3 h4 => by rw [hf0]
  suffices hgo : W p l e R s m args below meth c H locs 0 0 Q (F0 m 0 ls []) by rw [hH, hlocs] at hgo; exact hgo
  clear hH hlocs hw0 hf0
  have hLs : ∀ b ∈ L, b ∈ L := fun _ h => h
  have n_o_ts : A 0 ≠ A 1 := hA.ne (by decide) (by decide) (by decide)
  have n_o_ps : A 0 ≠ A 2 := hA.ne (by decide) (by decide) (by decide)
  have n_o_bs : A 0 ≠ A 3 := hA.ne (by decide) (by decide) (by decide)
  have n_o_ba : A 0 ≠ A 7 := hA.ne (by decide) (by decide) (by decide)
  have n_o_it : A 0 ≠ A 8 := hA.ne (by decide) (by decide) (by decide)
  have n_ts_ps : A 1 ≠ A 2 := hA.ne (by decide) (by decide) (by decide)
  have n_ts_bs : A 1 ≠ A 3 := hA.ne (by decide) (by decide) (by decide)
  have n_ts_rw : A 1 ≠ A 4 := hA.ne (by decide) (by decide) (by decide)
  have n_ts_gs : A 1 ≠ A 5 := hA.ne (by decide) (by decide) (by decide)
  have n_ts_fa : A 1 ≠ A 6 := hA.ne (by decide) (by decide) (by decide)
  have n_ts_ba : A 1 ≠ A 7 := hA.ne (by decide) (by decide) (by decide)
  have n_ts_it : A 1 ≠ A 8 := hA.ne (by decide) (by decide) (by decide)
  have n_ps_bs : A 2 ≠ A 3 := hA.ne (by decide) (by decide) (by decide)
  have n_ps_rw : A 2 ≠ A 4 := hA.ne (by decide) (by decide) (by decide)
  have n_ps_gs : A 2 ≠ A 5 := hA.ne (by decide) (by decide) (by decide)
  have n_ps_fa : A 2 ≠ A 6 := hA.ne (by decide) (by decide) (by decide)
  have n_ps_ba : A 2 ≠ A 7 := hA.ne (by decide) (by decide) (by decide)
  have n_ps_it : A 2 ≠ A 8 := hA.ne (by decide) (by decide) (by decide)
  have n_bs_rw : A 3 ≠ A 4 := hA.ne (by decide) (by decide) (by decide)
  have n_bs_gs : A 3 ≠ A 5 := hA.ne (by decide) (by decide) (by decide)
  have n_bs_fa : A 3 ≠ A 6 := hA.ne (by decide) (by decide) (by decide)
  have n_bs_ba : A 3 ≠ A 7 := hA.ne (by decide) (by decide) (by decide)
  have n_bs_it : A 3 ≠ A 8 := hA.ne (by decide) (by decide) (by decide)
  have n_rw_ba : A 4 ≠ A 7 := hA.ne (by decide) (by decide) (by decide)
  have n_rw_it : A 4 ≠ A 8 := hA.ne (by decide) (by decide) (by decide)
  have n_gs_ba : A 5 ≠ A 7 := hA.ne (by decide) (by decide) (by decide)
  have n_gs_it : A 5 ≠ A 8 := hA.ne (by decide) (by decide) (by decide)
  have n_fa_ba : A 6 ≠ A 7 := hA.ne (by decide) (by decide) (by decide)
  have n_fa_it : A 6 ≠ A 8 := hA.ne (by decide) (by decide) (by decide)
  have n_ba_it : A 7 ≠ A 8 := hA.ne (by decide) (by decide) (by decide)
  refine lv_iload_n E.1.1 E.1.2.1 dX6_image_0 rfl (lv_at hl 1 rfl) ?_
  refine lv_iconst (v := nI 0) E.1.1 E.1.2.1 dX6_image_1 rfl ?_
  refine lv_iconst (v := nI 1) E.1.1 E.1.2.1 dX6_image_2 rfl ?_
  refine k_ri (va_runS (As := [.int x, .int (nI 0), .int (nI 1)]) (rest := []) E.1 (m_in l D cy L f H.size x (nI 0) (nI 1)) ⟨callB_of 3 E.1.2.2.2.2 (gd_own w3_43) rfl rfl rfl (E.1.2.2.2.2 _ w1_10) (E.1.2.2.2.2 _ w3_41) hd_X6_in (by rw [hR]; exact ⟨Nat.le_of_ble_eq_true rfl, Nat.le_of_ble_eq_true rfl⟩), E.1.2.2.2.2 _ w3_42⟩ (pw_pre E.2 hw) rfl rfl hl.1 rfl (lv_room (Nat.le_of_ble_eq_true rfl)) dX6_image_3 ⟨Nat.zero_le _, Nat.zero_le _⟩) ?_
  refine k_if1 (tgt := 12) E dX6_image_6 (by decide) (fun c6 => ?_) (fun c6 => ?_)
  · obtain ⟨x0, hx0, rfl⟩ := in_ex (by decide) c6
    refine lv_iconst (v := nI 0) E.1.1 E.1.2.1 dX6_image_12 rfl ?_
    refine lv_istore_n (lv' := [(2, .int (nI 0)), (0, .ref (A 0)), (1, .int (nI x0))]) E.1.1 E.1.2.1 dX6_image_13 rfl hl (by decide) rfl (fun ls hl => ?_)
    have lp14 : ∀ (k : Nat) (i : Nat) (T1 : Nat → Nat) (P1 : Nat → Nat) (B1 : Nat → Nat → Bool) (f : Nat → va_E) (H : Heap) (locs : List Loc) (ls : Array Slot), (6 - i < k) → (i ≤ 6) → (TP T1 P1) → (CS T T1 (0) ((6 + 6 * x0)) i) → (CS P P1 (0) ((6 + 6 * x0)) i) → (CS B B1 (0) ((6 + 6 * x0)) i) → (cel L f (A 0) (.inr (6, [.int (nI base), .ref (A 1), .ref (A 2), .ref (A 3), .ref (A 4), .int (nI fr), .int (nI pb), .ref (A 5), .int (nI ns), .ref (A 6), .ref (A 7), .ref (A 8)]))) → (cel L f (A 1) (.inl (cy 0, 84, .inl (fun k => nI (T1 k))))) → (cel L f (A 2) (.inl (cy 0, 84, .inl (fun k => nI (P1 k))))) → (cel L f (A 3) (.inl (cy 1, 252, .inr (.inl (rw3 B1))))) → (cel L f (A 4) (.inl (cy 2, 4096, .inl (fun k => b2i (rr k))))) → (cel L f (A 5) (.inl (cy 0, 325, .inl G))) → (cel L f (A 6) (.inl (cy 0, 65, .inl Fa))) → (cel L f (A 7) (.inl (cy 0, 2, .inl (fun k => nI (kb1 k))))) → (cel L f (A 8) (.inl (cy 2, 2, .inl (fun k => b2i (kp k))))) → (∀ b ∈ L, b ≠ (A 1) → b ≠ (A 2) → b ≠ (A 3) → b ≠ (A 7) → b ≠ (A 8) → f b = f0 b) → (WW D (AW L sz) s.heap L f H locs) → (lv_has ls 3 [(2, .int (nI i)), (0, .ref (A 0)), (1, .int (nI x0))]) → W p l e R s m args below meth c H locs 0 0 Q (F0 m 14 ls []) := by
      intro k
      induction k with
      | zero => intro _ _ _ _ _ _ _ _ hk; exact absurd hk (Nat.not_lt_zero _)
      | succ k ih14 =>
        intro i T1 P1 B1 f H locs ls hk hi hTP1 hcT hcP hcB h_o h_ts h_ps h_bs h_rw h_gs h_fa h_ba h_it hF hw hl
        refine lv_iload_n E.1.1 E.1.2.1 dX6_image_14 rfl (lv_at hl 0 rfl) ?_
        refine lv_bipush (v := nI 6) E.1.1 E.1.2.1 dX6_image_15 rfl ?_
        refine k_ge (tgt := 40) E dX6_image_17 (by decide) (by omega) (by omega) (fun c17 => ?_) (fun c17 => ?_)
        · rw [show i = 6 by omega] at hcT hcP hcB
          refine lv_aload_n E.1.1 E.1.2.1 dX6_image_40 rfl (lv_at hl 1 rfl) ?_
          refine k_get (v := .ref (A 7)) E inlX6 rfl 10 (by decide) w3_2 rfl hw h_o rfl dX6_image_41 ?_
          refine lv_iload_n E.1.1 E.1.2.1 dX6_image_44 rfl (lv_at hl 2 rfl) ?_
          refine lv_aload_n E.1.1 E.1.2.1 dX6_image_45 rfl (lv_at hl 1 rfl) ?_
          refine k_get (v := .int (nI base)) E inlX6 rfl 0 (by decide) w2_232 rfl hw h_o rfl dX6_image_46 ?_
          refine k_iast E hw (fun k => nI (va_up kb1 x0 base k)) h_ba (by omega) (by omega) (fun i _ => up_st kb1 _ _ i) dX6_image_49 (fun f H locs h_ba hfr hw => ?_)
          have h_o := h_o.kp hfr n_o_ba
          have h_ts := h_ts.kp hfr n_ts_ba
          have h_ps := h_ps.kp hfr n_ps_ba
          have h_bs := h_bs.kp hfr n_bs_ba
          have h_rw := h_rw.kp hfr n_rw_ba
          have h_gs := h_gs.kp hfr n_gs_ba
          have h_fa := h_fa.kp hfr n_fa_ba
          have h_it := h_it.kp hfr (Ne.symm n_ba_it)
          have hF : ∀ b ∈ L, b ≠ (A 1) → b ≠ (A 2) → b ≠ (A 3) → b ≠ (A 7) → b ≠ (A 8) → f b = f0 b := fun b hb h0 h1 h2 h3 h4 => (hfr b h3).trans (hF b hb h0 h1 h2 h3 h4)
          refine lv_aload_n E.1.1 E.1.2.1 dX6_image_50 rfl (lv_at hl 1 rfl) ?_
          refine k_get (v := .ref (A 8)) E inlX6 rfl 11 (by decide) w3_3 rfl hw h_o rfl dX6_image_51 ?_
          refine lv_iload_n E.1.1 E.1.2.1 dX6_image_54 rfl (lv_at hl 2 rfl) ?_
          refine lv_iconst (v := nI 1) E.1.1 E.1.2.1 dX6_image_55 rfl ?_
          refine W.eq (g2 := F0 m 56 ls (.int (b2i true) :: .int (nI x0) :: .ref (A 8) :: [])) rfl ?_
          refine k_zast E hw (fun k => b2i (va_up kp x0 true k)) h_it (by omega) (by omega) (fun i _ => up_stb kp _ _ i) dX6_image_56 (fun f H locs h_it hfr hw => ?_)
          have h_o := h_o.kp hfr n_o_it
          have h_ts := h_ts.kp hfr n_ts_it
          have h_ps := h_ps.kp hfr n_ps_it
          have h_bs := h_bs.kp hfr n_bs_it
          have h_rw := h_rw.kp hfr n_rw_it
          have h_gs := h_gs.kp hfr n_gs_it
          have h_fa := h_fa.kp hfr n_fa_it
          have h_ba := h_ba.kp hfr n_ba_it
          have hF : ∀ b ∈ L, b ≠ (A 1) → b ≠ (A 2) → b ≠ (A 3) → b ≠ (A 7) → b ≠ (A 8) → f b = f0 b := fun b hb h0 h1 h2 h3 h4 => (hfr b h4).trans (hF b hb h0 h1 h2 h3 h4)
          refine lv_iconst (v := nI 1) E.1.1 E.1.2.1 dX6_image_57 rfl ?_
          exact k_miret E hQ hlk hr hw (Nat.le_of_ble_eq_true rfl) (Nat.le_of_ble_eq_true rfl) (⟨rfl, fun b hb h => hF b hb (h 1 (by decide)) (h 2 (by decide)) (h 3 (by decide)) (h 7 (by decide)) (h 8 (by decide)), va_up kp x0 true, va_up kb x0 base, va_up KS x0 SS, ⟨hB, _, _, _, _, _, _, _, _, _, _, ⟨h_o, h_ts, h_ps, h_bs, h_rw, h_gs, h_fa, h_ba, h_it⟩, hTP1, img_MS hMS hcT hcP hcB, img_MK hB hx0 hMS hMK hcT hcP hcB⟩, by unfold sp_image; rw [if_neg (by rw [in_t (by decide) hx0]; decide), ix_nI (by omega)]; exact ⟨rfl, rfl, rfl, rfl⟩⟩) dX6_image_58
        · refine lv_aload_n E.1.1 E.1.2.1 dX6_image_20 rfl (lv_at hl 1 rfl) ?_
          refine lv_iload_n E.1.1 E.1.2.1 dX6_image_21 rfl (lv_at hl 0 rfl) ?_
          refine k_top E (nI (0 + i)) (by first | rfl | rw [Nat.zero_add]) ?_
          refine lv_bipush (v := nI 6) E.1.1 E.1.2.1 dX6_image_22 rfl ?_
          refine lv_bipush (v := nI 6) E.1.1 E.1.2.1 dX6_image_24 rfl ?_
          refine lv_iload_n E.1.1 E.1.2.1 dX6_image_26 rfl (lv_at hl 2 rfl) ?_
          refine k_mul E dX6_image_27 ?_
          refine k_add E dX6_image_28 ?_
          refine lv_iload_n E.1.1 E.1.2.1 dX6_image_29 rfl (lv_at hl 0 rfl) ?_
          refine k_add E dX6_image_30 ?_
          refine k_mv hw (va_runV (As := [.int (nI (0 + i)), .int (nI ((6 + (6 * x0)) + i))]) (rest := []) E.1 (m_copy l D cy L f H.size A base fr pb ns T1 P1 B1 rr G hA hTP1 (0 + i) ((6 + 6 * x0) + i) (by omega) (by omega) h_o h_ts h_ps h_bs) ⟨callB_of 2 E.1.2.2.2.2 (gd_own w3_67) rfl rfl rfl (E.1.2.2.2.2 _ w1_10) (E.1.2.2.2.2 _ w3_64) hd_X6_copy (by rw [hR]; exact ⟨Nat.le_of_ble_eq_true rfl, Nat.le_of_ble_eq_true rfl⟩), E.1.2.2.2.2 _ w3_66, E.1.2.2.2.2 _ ws_30⟩ (pw_preV (q := (RX6, TX6, 12)) E.2 hw h_o rfl) rfl rfl hl.1 rfl (lv_room (Nat.le_of_ble_eq_true rfl)) dX6_image_31 (by rw [hR]; exact ⟨Nat.le_of_ble_eq_true rfl, Nat.le_of_ble_eq_true rfl⟩)) (fun L1 f H locs hp hw => ?_)
          obtain ⟨hL1, hfr, h_ts, h_ps, h_bs⟩ := hp
          have hL1 : L = L1 := hL1
          subst hL1
          have h_ts : cel L f (A 1) (.inl (cy 0, 84, .inl (fun k => nI ((va_up T1 ((6 + 6 * x0) + i) (T1 (0 + i))) k)))) := h_ts
          have h_ps : cel L f (A 2) (.inl (cy 0, 84, .inl (fun k => nI ((va_up P1 ((6 + 6 * x0) + i) (P1 (0 + i))) k)))) := h_ps
          have h_bs : cel L f (A 3) (.inl (cy 1, 252, .inr (.inl (rw3 (va_up B1 ((6 + 6 * x0) + i) (B1 (0 + i))))))) := h_bs
          have h_o := h_o.keep (fun _ h => h) (hfr _ h_o.1 n_o_ts n_o_ps n_o_bs)
          have h_rw := h_rw.keep (fun _ h => h) (hfr _ h_rw.1 (Ne.symm n_ts_rw) (Ne.symm n_ps_rw) (Ne.symm n_bs_rw))
          have h_gs := h_gs.keep (fun _ h => h) (hfr _ h_gs.1 (Ne.symm n_ts_gs) (Ne.symm n_ps_gs) (Ne.symm n_bs_gs))
          have h_fa := h_fa.keep (fun _ h => h) (hfr _ h_fa.1 (Ne.symm n_ts_fa) (Ne.symm n_ps_fa) (Ne.symm n_bs_fa))
          have h_ba := h_ba.keep (fun _ h => h) (hfr _ h_ba.1 (Ne.symm n_ts_ba) (Ne.symm n_ps_ba) (Ne.symm n_bs_ba))
          have h_it := h_it.keep (fun _ h => h) (hfr _ h_it.1 (Ne.symm n_ts_it) (Ne.symm n_ps_it) (Ne.symm n_bs_it))
          have hF : ∀ b ∈ L, b ≠ (A 1) → b ≠ (A 2) → b ≠ (A 3) → b ≠ (A 7) → b ≠ (A 8) → f b = f0 b := fun b hb h0 h1 h2 h3 h4 => (hfr b (hLs b hb) h0 h1 h2).trans (hF b hb h0 h1 h2 h3 h4)
          refine lv_iinc (v := nI (i + 1)) (lv' := [(2, .int (nI (i + 1))), (0, .ref (A 0)), (1, .int (nI x0))]) E.1.1 E.1.2.1 dX6_image_34 hl (k := 0) rfl (nI_1 _) (by decide) rfl (fun ls hl => ?_)
          refine lv_goto (tgt := 14) E.1.1 E.1.2.1 dX6_image_37 (by decide) ?_
          exact ih14  (i + 1) (va_up T1 ((6 + 6 * x0) + i) (T1 (0 + i))) (va_up P1 ((6 + 6 * x0) + i) (P1 (0 + i))) (va_up B1 ((6 + 6 * x0) + i) (B1 (0 + i))) f H locs ls (by omega) (by omega) (hTP1.up (hTP1 _ (by omega)).1 (hTP1 _ (by omega)).2.1 (hTP1 _ (by omega)).2.2) (CS_s hcT (by omega)) (CS_s hcP (by omega)) (CS_s hcB (by omega)) h_o h_ts h_ps h_bs h_rw h_gs h_fa h_ba h_it hF hw (lv_sub hl [0, 1, 2] rfl)
    exact lp14 (6 - 0 + 1) 0 T P B f H locs ls (Nat.lt_succ_self _) (by omega) (hTP) (CS_0 _ _ _) (CS_0 _ _ _) (CS_0 _ _ _) h_o h_ts h_ps h_bs h_rw h_gs h_fa h_ba h_it hF hw (lv_sub hl [0, 1, 2] rfl)
  · refine lv_bipush (v := -2) E.1.1 E.1.2.1 dX6_image_9 rfl ?_
    exact k_miret E hQ hlk hr hw (Nat.le_of_ble_eq_true rfl) (Nat.le_of_ble_eq_true rfl) (⟨rfl, fun b hb h => hF b hb (h 1 (by decide)) (h 2 (by decide)) (h 3 (by decide)) (h 7 (by decide)) (h 8 (by decide)), kp, kb, KS, ⟨hB, _, _, _, _, _, _, _, _, _, _, ⟨h_o, h_ts, h_ps, h_bs, h_rw, h_gs, h_fa, h_ba, h_it⟩, hTP, hMS, hMK⟩, by unfold sp_image; rw [if_pos (show i32in x 0 (nI 1) = false from c6)]; exact ⟨rfl, rfl, rfl, rfl⟩⟩) dX6_image_11

set_option maxHeartbeats 4000000 in
set_option maxRecDepth 100000 in
theorem m_restore (l : Launch) (D : va_G) (cy : Nat → ClassId) (L : List Nat) (f0 : Nat → va_E) (sz : Nat) (A : Nat → Nat) (base : Nat) (SS : Nat → Nat → Bool) (kp : Nat → Bool) (kb : Nat → Nat) (KS : Nat → Nat → Nat → Bool) (hA : MAd A) (hN : MoW cy L f0 A base SS kp kb KS) (x : Int32) : Met l yX6_restore (.code yX6_restore cX6_restore 3 (Option.some FieldType.int) :: wsL_law) { frames := 1, cells := 0, slots := 0, locals := 23 } (va_Pc [.ref (A 0), .int x] (PW D cy L f0 sz)) (va_Qi (fun (r : Int32) (u : List Nat × (Nat → va_E)) => L = u.1 ∧ (∀ b ∈ L, (∀ i, i < 9 → b ≠ A i) → u.2 b = f0 b) ∧ ∃ base2 SS2, MoW cy L u.2 A base2 SS2 kp kb KS ∧ sp_restore base SS base2 SS2 kp kb KS x r) (PB D (AW L sz)) (AW L sz)) 0 0 (AW L sz) := by
  refine m_start (by decide) (Nat.le_of_ble_eq_true rfl) ?_
  intro p e R Q s m args below meth c ls hsz hR hQ E hr hlk hnm hw hl
  have hl : lv_has ls 3 [(0, .ref (A 0)), (1, .int x)] := hl
  obtain ⟨H, hH⟩ : ∃ X, X = s.heap := ⟨_, rfl⟩
  obtain ⟨locs, hlocs⟩ : ∃ X : List Loc, X = [] := ⟨_, rfl⟩
  have hw0 := hw
  obtain ⟨hB, fr, pb, ns, T, P, B, rr, G, Fa, kb1, ⟨h_o, h_ts, h_ps, h_bs, h_rw, h_gs, h_fa, h_ba, h_it⟩, hTP, hMS, hMK⟩ := hN
  have hb2 := hB.two
  obtain ⟨f, hf0⟩ : ∃ X, X = f0 := ⟨_, rfl⟩
  rw [← hf0] at h_o h_ts h_ps h_bs h_rw h_gs h_fa h_ba h_it
  have hw : WW D (AW L sz) s.heap L f H locs := by rw [hH, hlocs, hf0]; exact hw
  have hF : ∀ b ∈ L, b ≠ (A 0) → b ≠ (A 1) → b ≠ (A 2) → b ≠ (A 3) → f b = f0 b := fun b hb h0 h1 h2 h3 => by rw [hf0]
  suffices hgo : W p l e R s m args below meth c H locs 0 0 Q (F0 m 0 ls []) by rw [hH, hlocs] at hgo; exact hgo
  clear hH hlocs hw0 hf0
  have hLs : ∀ b ∈ L, b ∈ L := fun _ h => h
  have n_o_ts : A 0 ≠ A 1 := hA.ne (by decide) (by decide) (by decide)
  have n_o_ps : A 0 ≠ A 2 := hA.ne (by decide) (by decide) (by decide)
  have n_o_bs : A 0 ≠ A 3 := hA.ne (by decide) (by decide) (by decide)
  have n_o_rw : A 0 ≠ A 4 := hA.ne (by decide) (by decide) (by decide)
  have n_o_gs : A 0 ≠ A 5 := hA.ne (by decide) (by decide) (by decide)
  have n_o_fa : A 0 ≠ A 6 := hA.ne (by decide) (by decide) (by decide)
  have n_o_ba : A 0 ≠ A 7 := hA.ne (by decide) (by decide) (by decide)
  have n_o_it : A 0 ≠ A 8 := hA.ne (by decide) (by decide) (by decide)
  have n_ts_ps : A 1 ≠ A 2 := hA.ne (by decide) (by decide) (by decide)
  have n_ts_bs : A 1 ≠ A 3 := hA.ne (by decide) (by decide) (by decide)
  have n_ts_rw : A 1 ≠ A 4 := hA.ne (by decide) (by decide) (by decide)
  have n_ts_gs : A 1 ≠ A 5 := hA.ne (by decide) (by decide) (by decide)
  have n_ts_fa : A 1 ≠ A 6 := hA.ne (by decide) (by decide) (by decide)
  have n_ts_ba : A 1 ≠ A 7 := hA.ne (by decide) (by decide) (by decide)
  have n_ts_it : A 1 ≠ A 8 := hA.ne (by decide) (by decide) (by decide)
  have n_ps_bs : A 2 ≠ A 3 := hA.ne (by decide) (by decide) (by decide)
  have n_ps_rw : A 2 ≠ A 4 := hA.ne (by decide) (by decide) (by decide)
  have n_ps_gs : A 2 ≠ A 5 := hA.ne (by decide) (by decide) (by decide)
  have n_ps_fa : A 2 ≠ A 6 := hA.ne (by decide) (by decide) (by decide)
  have n_ps_ba : A 2 ≠ A 7 := hA.ne (by decide) (by decide) (by decide)
  have n_ps_it : A 2 ≠ A 8 := hA.ne (by decide) (by decide) (by decide)
  have n_bs_rw : A 3 ≠ A 4 := hA.ne (by decide) (by decide) (by decide)
  have n_bs_gs : A 3 ≠ A 5 := hA.ne (by decide) (by decide) (by decide)
  have n_bs_fa : A 3 ≠ A 6 := hA.ne (by decide) (by decide) (by decide)
  have n_bs_ba : A 3 ≠ A 7 := hA.ne (by decide) (by decide) (by decide)
  have n_bs_it : A 3 ≠ A 8 := hA.ne (by decide) (by decide) (by decide)
  refine lv_iload_n E.1.1 E.1.2.1 dX6_restore_0 rfl (lv_at hl 1 rfl) ?_
  refine lv_iconst (v := nI 0) E.1.1 E.1.2.1 dX6_restore_1 rfl ?_
  refine lv_iconst (v := nI 1) E.1.1 E.1.2.1 dX6_restore_2 rfl ?_
  refine k_ri (va_runS (As := [.int x, .int (nI 0), .int (nI 1)]) (rest := []) E.1 (m_in l D cy L f H.size x (nI 0) (nI 1)) ⟨callB_of 3 E.1.2.2.2.2 (gd_own w3_43) rfl rfl rfl (E.1.2.2.2.2 _ w1_10) (E.1.2.2.2.2 _ w3_41) hd_X6_in (by rw [hR]; exact ⟨Nat.le_of_ble_eq_true rfl, Nat.le_of_ble_eq_true rfl⟩), E.1.2.2.2.2 _ w3_42⟩ (pw_pre E.2 hw) rfl rfl hl.1 rfl (lv_room (Nat.le_of_ble_eq_true rfl)) dX6_restore_3 ⟨Nat.zero_le _, Nat.zero_le _⟩) ?_
  refine k_if1 (tgt := 12) E dX6_restore_6 (by decide) (fun c6 => ?_) (fun c6 => ?_)
  · obtain ⟨x0, hx0, rfl⟩ := in_ex (by decide) c6
    refine lv_aload_n E.1.1 E.1.2.1 dX6_restore_12 rfl (lv_at hl 0 rfl) ?_
    refine k_get (v := .ref (A 8)) E inlX6 rfl 11 (by decide) w3_3 rfl hw h_o rfl dX6_restore_13 ?_
    refine lv_iload_n E.1.1 E.1.2.1 dX6_restore_16 rfl (lv_at hl 1 rfl) ?_
    refine k_zald E hw (v := b2i (kp x0)) h_it (by omega) (by omega) (rfl) dX6_restore_17 ?_
    refine k_if1 (tgt := 24) E dX6_restore_18 (by decide) (fun c18 => ?_) (fun c18 => ?_)
    · refine lv_iconst (v := nI 0) E.1.1 E.1.2.1 dX6_restore_24 rfl ?_
      refine lv_istore_n (lv' := [(2, .int (nI 0)), (0, .ref (A 0)), (1, .int (nI x0))]) E.1.1 E.1.2.1 dX6_restore_25 rfl hl (by decide) rfl (fun ls hl => ?_)
      have lp26 : ∀ (k : Nat) (i : Nat) (T1 : Nat → Nat) (P1 : Nat → Nat) (B1 : Nat → Nat → Bool) (f : Nat → va_E) (H : Heap) (locs : List Loc) (ls : Array Slot), (6 - i < k) → (i ≤ 6) → (TP T1 P1) → (CS T T1 ((6 + 6 * x0)) (0) i) → (CS P P1 ((6 + 6 * x0)) (0) i) → (CS B B1 ((6 + 6 * x0)) (0) i) → (cel L f (A 0) (.inr (6, [.int (nI base), .ref (A 1), .ref (A 2), .ref (A 3), .ref (A 4), .int (nI fr), .int (nI pb), .ref (A 5), .int (nI ns), .ref (A 6), .ref (A 7), .ref (A 8)]))) → (cel L f (A 1) (.inl (cy 0, 84, .inl (fun k => nI (T1 k))))) → (cel L f (A 2) (.inl (cy 0, 84, .inl (fun k => nI (P1 k))))) → (cel L f (A 3) (.inl (cy 1, 252, .inr (.inl (rw3 B1))))) → (cel L f (A 4) (.inl (cy 2, 4096, .inl (fun k => b2i (rr k))))) → (cel L f (A 5) (.inl (cy 0, 325, .inl G))) → (cel L f (A 6) (.inl (cy 0, 65, .inl Fa))) → (cel L f (A 7) (.inl (cy 0, 2, .inl (fun k => nI (kb1 k))))) → (cel L f (A 8) (.inl (cy 2, 2, .inl (fun k => b2i (kp k))))) → (∀ b ∈ L, b ≠ (A 0) → b ≠ (A 1) → b ≠ (A 2) → b ≠ (A 3) → f b = f0 b) → (WW D (AW L sz) s.heap L f H locs) → (lv_has ls 3 [(2, .int (nI i)), (0, .ref (A 0)), (1, .int (nI x0))]) → W p l e R s m args below meth c H locs 0 0 Q (F0 m 26 ls []) := by
        intro k
        induction k with
        | zero => intro _ _ _ _ _ _ _ _ hk; exact absurd hk (Nat.not_lt_zero _)
        | succ k ih26 =>
          intro i T1 P1 B1 f H locs ls hk hi hTP1 hcT hcP hcB h_o h_ts h_ps h_bs h_rw h_gs h_fa h_ba h_it hF hw hl
          refine lv_iload_n E.1.1 E.1.2.1 dX6_restore_26 rfl (lv_at hl 0 rfl) ?_
          refine lv_bipush (v := nI 6) E.1.1 E.1.2.1 dX6_restore_27 rfl ?_
          refine k_ge (tgt := 52) E dX6_restore_29 (by decide) (by omega) (by omega) (fun c29 => ?_) (fun c29 => ?_)
          · rw [show i = 6 by omega] at hcT hcP hcB
            refine lv_aload_n E.1.1 E.1.2.1 dX6_restore_52 rfl (lv_at hl 1 rfl) ?_
            refine lv_aload_n E.1.1 E.1.2.1 dX6_restore_53 rfl (lv_at hl 1 rfl) ?_
            refine k_get (v := .ref (A 7)) E inlX6 rfl 10 (by decide) w3_2 rfl hw h_o rfl dX6_restore_54 ?_
            refine lv_iload_n E.1.1 E.1.2.1 dX6_restore_57 rfl (lv_at hl 2 rfl) ?_
            refine k_iald E hw (v := nI (kb1 x0)) h_ba (by omega) (by omega) (rfl) dX6_restore_58 ?_
            refine k_put (ty0 := tyX6) E inlX6 rfl tyX6_ok nmX6 0 (by decide) w2_232 rfl rfl hw [.int (nI (kb1 x0)), .ref (A 1), .ref (A 2), .ref (A 3), .ref (A 4), .int (nI fr), .int (nI pb), .ref (A 5), .int (nI ns), .ref (A 6), .ref (A 7), .ref (A 8)] h_o (rfl) (rfl) (Nat.le_of_ble_eq_true rfl) rfl dX6_restore_59 (fun f H locs h_o hfr hw => ?_)
            have h_ts := h_ts.kp hfr (Ne.symm n_o_ts)
            have h_ps := h_ps.kp hfr (Ne.symm n_o_ps)
            have h_bs := h_bs.kp hfr (Ne.symm n_o_bs)
            have h_rw := h_rw.kp hfr (Ne.symm n_o_rw)
            have h_gs := h_gs.kp hfr (Ne.symm n_o_gs)
            have h_fa := h_fa.kp hfr (Ne.symm n_o_fa)
            have h_ba := h_ba.kp hfr (Ne.symm n_o_ba)
            have h_it := h_it.kp hfr (Ne.symm n_o_it)
            have hF : ∀ b ∈ L, b ≠ (A 0) → b ≠ (A 1) → b ≠ (A 2) → b ≠ (A 3) → f b = f0 b := fun b hb h0 h1 h2 h3 => (hfr b h0).trans (hF b hb h0 h1 h2 h3)
            refine lv_iconst (v := nI 1) E.1.1 E.1.2.1 dX6_restore_62 rfl ?_
            exact k_miret E hQ hlk hr hw (Nat.le_of_ble_eq_true rfl) (Nat.le_of_ble_eq_true rfl) (⟨rfl, fun b hb h => hF b hb (h 0 (by decide)) (h 1 (by decide)) (h 2 (by decide)) (h 3 (by decide)), kb x0, KS x0, ⟨(hMK x0 (by omega) c18).2.1, _, _, _, _, _, _, _, _, _, _, ⟨by rw [← (hMK x0 (by omega) c18).1]; exact h_o, h_ts, h_ps, h_bs, h_rw, h_gs, h_fa, h_ba, h_it⟩, hTP1, res_MS hx0 c18 hMK hcT hcP hcB, res_MK hMK hcT hcP hcB⟩, by unfold sp_restore; rw [if_neg (by rw [in_t (by decide) hx0]; decide), ix_nI (by omega), if_neg (by rw [c18]; decide)]; exact ⟨rfl, rfl, rfl⟩⟩) dX6_restore_63
          · refine lv_aload_n E.1.1 E.1.2.1 dX6_restore_32 rfl (lv_at hl 1 rfl) ?_
            refine lv_bipush (v := nI 6) E.1.1 E.1.2.1 dX6_restore_33 rfl ?_
            refine lv_bipush (v := nI 6) E.1.1 E.1.2.1 dX6_restore_35 rfl ?_
            refine lv_iload_n E.1.1 E.1.2.1 dX6_restore_37 rfl (lv_at hl 2 rfl) ?_
            refine k_mul E dX6_restore_38 ?_
            refine k_add E dX6_restore_39 ?_
            refine lv_iload_n E.1.1 E.1.2.1 dX6_restore_40 rfl (lv_at hl 0 rfl) ?_
            refine k_add E dX6_restore_41 ?_
            refine lv_iload_n E.1.1 E.1.2.1 dX6_restore_42 rfl (lv_at hl 0 rfl) ?_
            refine k_top E (nI (0 + i)) (by first | rfl | rw [Nat.zero_add]) ?_
            refine k_mv hw (va_runV (As := [.int (nI ((6 + (6 * x0)) + i)), .int (nI (0 + i))]) (rest := []) E.1 (m_copy l D cy L f H.size A base fr pb ns T1 P1 B1 rr G hA hTP1 ((6 + 6 * x0) + i) (0 + i) (by omega) (by omega) h_o h_ts h_ps h_bs) ⟨callB_of 2 E.1.2.2.2.2 (gd_own w3_67) rfl rfl rfl (E.1.2.2.2.2 _ w1_10) (E.1.2.2.2.2 _ w3_64) hd_X6_copy (by rw [hR]; exact ⟨Nat.le_of_ble_eq_true rfl, Nat.le_of_ble_eq_true rfl⟩), E.1.2.2.2.2 _ w3_66, E.1.2.2.2.2 _ ws_30⟩ (pw_preV (q := (RX6, TX6, 12)) E.2 hw h_o rfl) rfl rfl hl.1 rfl (lv_room (Nat.le_of_ble_eq_true rfl)) dX6_restore_43 (by rw [hR]; exact ⟨Nat.le_of_ble_eq_true rfl, Nat.le_of_ble_eq_true rfl⟩)) (fun L1 f H locs hp hw => ?_)
            obtain ⟨hL1, hfr, h_ts, h_ps, h_bs⟩ := hp
            have hL1 : L = L1 := hL1
            subst hL1
            have h_ts : cel L f (A 1) (.inl (cy 0, 84, .inl (fun k => nI ((va_up T1 (0 + i) (T1 ((6 + 6 * x0) + i))) k)))) := h_ts
            have h_ps : cel L f (A 2) (.inl (cy 0, 84, .inl (fun k => nI ((va_up P1 (0 + i) (P1 ((6 + 6 * x0) + i))) k)))) := h_ps
            have h_bs : cel L f (A 3) (.inl (cy 1, 252, .inr (.inl (rw3 (va_up B1 (0 + i) (B1 ((6 + 6 * x0) + i))))))) := h_bs
            have h_o := h_o.keep (fun _ h => h) (hfr _ h_o.1 n_o_ts n_o_ps n_o_bs)
            have h_rw := h_rw.keep (fun _ h => h) (hfr _ h_rw.1 (Ne.symm n_ts_rw) (Ne.symm n_ps_rw) (Ne.symm n_bs_rw))
            have h_gs := h_gs.keep (fun _ h => h) (hfr _ h_gs.1 (Ne.symm n_ts_gs) (Ne.symm n_ps_gs) (Ne.symm n_bs_gs))
            have h_fa := h_fa.keep (fun _ h => h) (hfr _ h_fa.1 (Ne.symm n_ts_fa) (Ne.symm n_ps_fa) (Ne.symm n_bs_fa))
            have h_ba := h_ba.keep (fun _ h => h) (hfr _ h_ba.1 (Ne.symm n_ts_ba) (Ne.symm n_ps_ba) (Ne.symm n_bs_ba))
            have h_it := h_it.keep (fun _ h => h) (hfr _ h_it.1 (Ne.symm n_ts_it) (Ne.symm n_ps_it) (Ne.symm n_bs_it))
            have hF : ∀ b ∈ L, b ≠ (A 0) → b ≠ (A 1) → b ≠ (A 2) → b ≠ (A 3) → f b = f0 b := fun b hb h0 h1 h2 h3 => (hfr b (hLs b hb) h1 h2 h3).trans (hF b hb h0 h1 h2 h3)
            refine lv_iinc (v := nI (i + 1)) (lv' := [(2, .int (nI (i + 1))), (0, .ref (A 0)), (1, .int (nI x0))]) E.1.1 E.1.2.1 dX6_restore_46 hl (k := 0) rfl (nI_1 _) (by decide) rfl (fun ls hl => ?_)
            refine lv_goto (tgt := 26) E.1.1 E.1.2.1 dX6_restore_49 (by decide) ?_
            exact ih26  (i + 1) (va_up T1 (0 + i) (T1 ((6 + 6 * x0) + i))) (va_up P1 (0 + i) (P1 ((6 + 6 * x0) + i))) (va_up B1 (0 + i) (B1 ((6 + 6 * x0) + i))) f H locs ls (by omega) (by omega) (hTP1.up (hTP1 _ (by omega)).1 (hTP1 _ (by omega)).2.1 (hTP1 _ (by omega)).2.2) (CS_s hcT (by omega)) (CS_s hcP (by omega)) (CS_s hcB (by omega)) h_o h_ts h_ps h_bs h_rw h_gs h_fa h_ba h_it hF hw (lv_sub hl [0, 1, 2] rfl)
      exact lp26 (6 - 0 + 1) 0 T P B f H locs ls (Nat.lt_succ_self _) (by omega) (hTP) (CS_0 _ _ _) (CS_0 _ _ _) (CS_0 _ _ _) h_o h_ts h_ps h_bs h_rw h_gs h_fa h_ba h_it hF hw (lv_sub hl [0, 1, 2] rfl)
    · refine lv_bipush (v := -3) E.1.1 E.1.2.1 dX6_restore_21 rfl ?_
      exact k_miret E hQ hlk hr hw (Nat.le_of_ble_eq_true rfl) (Nat.le_of_ble_eq_true rfl) (⟨rfl, fun b hb h => hF b hb (h 0 (by decide)) (h 1 (by decide)) (h 2 (by decide)) (h 3 (by decide)), base, SS, ⟨hB, _, _, _, _, _, _, _, _, _, _, ⟨h_o, h_ts, h_ps, h_bs, h_rw, h_gs, h_fa, h_ba, h_it⟩, hTP, hMS, hMK⟩, by unfold sp_restore; rw [if_neg (by rw [in_t (by decide) hx0]; decide), ix_nI (by omega), if_pos c18]; exact ⟨rfl, rfl, rfl⟩⟩) dX6_restore_23
  · refine lv_bipush (v := -2) E.1.1 E.1.2.1 dX6_restore_9 rfl ?_
    exact k_miret E hQ hlk hr hw (Nat.le_of_ble_eq_true rfl) (Nat.le_of_ble_eq_true rfl) (⟨rfl, fun b hb h => hF b hb (h 0 (by decide)) (h 1 (by decide)) (h 2 (by decide)) (h 3 (by decide)), base, SS, ⟨hB, _, _, _, _, _, _, _, _, _, _, ⟨h_o, h_ts, h_ps, h_bs, h_rw, h_gs, h_fa, h_ba, h_it⟩, hTP, hMS, hMK⟩, by unfold sp_restore; rw [if_pos (show i32in x 0 (nI 1) = false from c6)]; exact ⟨rfl, rfl, rfl⟩⟩) dX6_restore_11

set_option maxHeartbeats 4000000 in
set_option maxRecDepth 100000 in
theorem m_base (l : Launch) (D : va_G) (cy : Nat → ClassId) (L : List Nat) (f0 : Nat → va_E) (sz : Nat) (A : Nat → Nat) (base : Nat) (SS : Nat → Nat → Bool) (kp : Nat → Bool) (kb : Nat → Nat) (KS : Nat → Nat → Nat → Bool) (hA : MAd A) (hN : MoW cy L f0 A base SS kp kb KS) (n : Int32) : Met l yX6_base (.code yX6_base cX6_base 5 (Option.some FieldType.int) :: wsL_law) { frames := 0, cells := 0, slots := 0, locals := 0 } (va_Pc [.ref (A 0), .int n] (PW D cy L f0 sz)) (va_Qi (fun (r : Int32) (u : List Nat × (Nat → va_E)) => L = u.1 ∧ (∀ b ∈ L, (∀ i, i < 9 → b ≠ A i) → u.2 b = f0 b) ∧ ∃ base2 SS2, MoW cy L u.2 A base2 SS2 kp kb KS ∧ sp_base base SS base2 SS2 n r) (PB D (AW L sz)) (AW L sz)) 0 0 (AW L sz) := by
  refine m_start (by decide) (Nat.le_of_ble_eq_true rfl) ?_
  intro p e R Q s m args below meth c ls hsz hR hQ E hr hlk hnm hw hl
  have hl : lv_has ls 5 [(0, .ref (A 0)), (1, .int n)] := hl
  obtain ⟨H, hH⟩ : ∃ X, X = s.heap := ⟨_, rfl⟩
  obtain ⟨locs, hlocs⟩ : ∃ X : List Loc, X = [] := ⟨_, rfl⟩
  have hw0 := hw
  obtain ⟨hB, fr, pb, ns, T, P, B, rr, G, Fa, kb1, ⟨h_o, h_ts, h_ps, h_bs, h_rw, h_gs, h_fa, h_ba, h_it⟩, hTP, hMS, hMK⟩ := hN
  have hb2 := hB.two
  obtain ⟨f, hf0⟩ : ∃ X, X = f0 := ⟨_, rfl⟩
  rw [← hf0] at h_o h_ts h_ps h_bs h_rw h_gs h_fa h_ba h_it
  have hw : WW D (AW L sz) s.heap L f H locs := by rw [hH, hlocs, hf0]; exact hw
  have hF : ∀ b ∈ L, b ≠ (A 0) → b ≠ (A 1) → b ≠ (A 2) → b ≠ (A 3) → f b = f0 b := fun b hb h0 h1 h2 h3 => by rw [hf0]
  suffices hgo : W p l e R s m args below meth c H locs 0 0 Q (F0 m 0 ls []) by rw [hH, hlocs] at hgo; exact hgo
  clear hH hlocs hw0 hf0
  have hLs : ∀ b ∈ L, b ∈ L := fun _ h => h
  have n_o_ts : A 0 ≠ A 1 := hA.ne (by decide) (by decide) (by decide)
  have n_o_ps : A 0 ≠ A 2 := hA.ne (by decide) (by decide) (by decide)
  have n_o_bs : A 0 ≠ A 3 := hA.ne (by decide) (by decide) (by decide)
  have n_o_rw : A 0 ≠ A 4 := hA.ne (by decide) (by decide) (by decide)
  have n_o_gs : A 0 ≠ A 5 := hA.ne (by decide) (by decide) (by decide)
  have n_o_fa : A 0 ≠ A 6 := hA.ne (by decide) (by decide) (by decide)
  have n_o_ba : A 0 ≠ A 7 := hA.ne (by decide) (by decide) (by decide)
  have n_o_it : A 0 ≠ A 8 := hA.ne (by decide) (by decide) (by decide)
  have n_ts_ps : A 1 ≠ A 2 := hA.ne (by decide) (by decide) (by decide)
  have n_ts_bs : A 1 ≠ A 3 := hA.ne (by decide) (by decide) (by decide)
  have n_ts_rw : A 1 ≠ A 4 := hA.ne (by decide) (by decide) (by decide)
  have n_ts_gs : A 1 ≠ A 5 := hA.ne (by decide) (by decide) (by decide)
  have n_ts_fa : A 1 ≠ A 6 := hA.ne (by decide) (by decide) (by decide)
  have n_ts_ba : A 1 ≠ A 7 := hA.ne (by decide) (by decide) (by decide)
  have n_ts_it : A 1 ≠ A 8 := hA.ne (by decide) (by decide) (by decide)
  have n_ps_bs : A 2 ≠ A 3 := hA.ne (by decide) (by decide) (by decide)
  have n_ps_rw : A 2 ≠ A 4 := hA.ne (by decide) (by decide) (by decide)
  have n_ps_gs : A 2 ≠ A 5 := hA.ne (by decide) (by decide) (by decide)
  have n_ps_fa : A 2 ≠ A 6 := hA.ne (by decide) (by decide) (by decide)
  have n_ps_ba : A 2 ≠ A 7 := hA.ne (by decide) (by decide) (by decide)
  have n_ps_it : A 2 ≠ A 8 := hA.ne (by decide) (by decide) (by decide)
  have n_bs_rw : A 3 ≠ A 4 := hA.ne (by decide) (by decide) (by decide)
  have n_bs_gs : A 3 ≠ A 5 := hA.ne (by decide) (by decide) (by decide)
  have n_bs_fa : A 3 ≠ A 6 := hA.ne (by decide) (by decide) (by decide)
  have n_bs_ba : A 3 ≠ A 7 := hA.ne (by decide) (by decide) (by decide)
  have n_bs_it : A 3 ≠ A 8 := hA.ne (by decide) (by decide) (by decide)
  refine lv_iload_n E.1.1 E.1.2.1 dX6_base_0 rfl (lv_at hl 1 rfl) ?_
  refine lv_iconst (v := nI 2) E.1.1 E.1.2.1 dX6_base_1 rfl ?_
  refine lv_icmp_eq (tgt := 18) E.1.1 E.1.2.1 dX6_base_2 (by decide) (fun c2 => ?_) (fun c2 => ?_)
  · subst c2
    refine lv_aload_n E.1.1 E.1.2.1 dX6_base_18 rfl (lv_at hl 0 rfl) ?_
    refine k_get (v := .int (nI base)) E inlX6 rfl 0 (by decide) w2_232 rfl hw h_o rfl dX6_base_19 ?_
    refine lv_istore_n (lv' := [(2, .int (nI base)), (0, .ref (A 0)), (1, .int (nI 2))]) E.1.1 E.1.2.1 dX6_base_22 rfl hl (by decide) rfl (fun ls hl => ?_)
    refine lv_aload_n E.1.1 E.1.2.1 dX6_base_23 rfl (lv_at hl 1 rfl) ?_
    refine lv_iload_n E.1.1 E.1.2.1 dX6_base_24 rfl (lv_at hl 2 rfl) ?_
    refine k_put (ty0 := tyX6) E inlX6 rfl tyX6_ok nmX6 0 (by decide) w2_232 rfl rfl hw [.int (nI 2), .ref (A 1), .ref (A 2), .ref (A 3), .ref (A 4), .int (nI fr), .int (nI pb), .ref (A 5), .int (nI ns), .ref (A 6), .ref (A 7), .ref (A 8)] h_o (rfl) (rfl) (Nat.le_of_ble_eq_true rfl) rfl dX6_base_25 (fun f H locs h_o hfr hw => ?_)
    have h_ts := h_ts.kp hfr (Ne.symm n_o_ts)
    have h_ps := h_ps.kp hfr (Ne.symm n_o_ps)
    have h_bs := h_bs.kp hfr (Ne.symm n_o_bs)
    have h_rw := h_rw.kp hfr (Ne.symm n_o_rw)
    have h_gs := h_gs.kp hfr (Ne.symm n_o_gs)
    have h_fa := h_fa.kp hfr (Ne.symm n_o_fa)
    have h_ba := h_ba.kp hfr (Ne.symm n_o_ba)
    have h_it := h_it.kp hfr (Ne.symm n_o_it)
    have hF : ∀ b ∈ L, b ≠ (A 0) → b ≠ (A 1) → b ≠ (A 2) → b ≠ (A 3) → f b = f0 b := fun b hb h0 h1 h2 h3 => (hfr b h0).trans (hF b hb h0 h1 h2 h3)
    refine lv_iconst (v := nI 0) E.1.1 E.1.2.1 dX6_base_28 rfl ?_
    refine lv_istore_n (lv' := [(3, .int (nI 0)), (2, .int (nI base)), (0, .ref (A 0)), (1, .int (nI 2))]) E.1.1 E.1.2.1 dX6_base_29 rfl hl (by decide) rfl (fun ls hl => ?_)
    have lp30 : ∀ (k : Nat) (i : Nat) (T1 : Nat → Nat) (P1 : Nat → Nat) (B1 : Nat → Nat → Bool) (f : Nat → va_E) (H : Heap) (locs : List Loc) (ls : Array Slot), (6 - i < k) → (i ≤ 6) → (TP T1 P1) → (EM T P T1 P1 B B1 i) → (cel L f (A 0) (.inr (6, [.int (nI 2), .ref (A 1), .ref (A 2), .ref (A 3), .ref (A 4), .int (nI fr), .int (nI pb), .ref (A 5), .int (nI ns), .ref (A 6), .ref (A 7), .ref (A 8)]))) → (cel L f (A 1) (.inl (cy 0, 84, .inl (fun k => nI (T1 k))))) → (cel L f (A 2) (.inl (cy 0, 84, .inl (fun k => nI (P1 k))))) → (cel L f (A 3) (.inl (cy 1, 252, .inr (.inl (rw3 B1))))) → (cel L f (A 4) (.inl (cy 2, 4096, .inl (fun k => b2i (rr k))))) → (cel L f (A 5) (.inl (cy 0, 325, .inl G))) → (cel L f (A 6) (.inl (cy 0, 65, .inl Fa))) → (cel L f (A 7) (.inl (cy 0, 2, .inl (fun k => nI (kb1 k))))) → (cel L f (A 8) (.inl (cy 2, 2, .inl (fun k => b2i (kp k))))) → (∀ b ∈ L, b ≠ (A 0) → b ≠ (A 1) → b ≠ (A 2) → b ≠ (A 3) → f b = f0 b) → (WW D (AW L sz) s.heap L f H locs) → (lv_has ls 5 [(3, .int (nI i)), (0, .ref (A 0)), (1, .int (nI 2)), (2, .int (nI base))]) → W p l e R s m args below meth c H locs 0 0 Q (F0 m 30 ls []) := by
      intro k
      induction k with
      | zero => intro _ _ _ _ _ _ _ _ hk; exact absurd hk (Nat.not_lt_zero _)
      | succ k ih30 =>
        intro i T1 P1 B1 f H locs ls hk hi hTP1 hE h_o h_ts h_ps h_bs h_rw h_gs h_fa h_ba h_it hF hw hl
        refine lv_iload_n E.1.1 E.1.2.1 dX6_base_30 rfl (lv_at hl 0 rfl) ?_
        refine lv_bipush (v := nI 6) E.1.1 E.1.2.1 dX6_base_31 rfl ?_
        refine k_ge (tgt := 83) E dX6_base_33 (by decide) (by omega) (by omega) (fun c33 => ?_) (fun c33 => ?_)
        · refine lv_iload_n E.1.1 E.1.2.1 dX6_base_83 rfl (lv_at hl 3 rfl) ?_
          exact k_miret E hQ hlk hr hw (Nat.le_of_ble_eq_true rfl) (Nat.le_of_ble_eq_true rfl) (⟨rfl, fun b hb h => hF b hb (h 0 (by decide)) (h 1 (by decide)) (h 2 (by decide)) (h 3 (by decide)), 2, fun _ _ => false, ⟨by unfold B235; decide, _, _, _, _, _, _, _, _, _, _, ⟨h_o, h_ts, h_ps, h_bs, h_rw, h_gs, h_fa, h_ba, h_it⟩, hTP1, fun j hj => by rw [(hE.1 j (by omega)).1, (hE.1 j (by omega)).2.1, (hE.1 j (by omega)).2.2]; exact ⟨none_is, 1, none_mch (by decide)⟩, hMK.ag (fun x _ h6 => hE.2 x (by omega))⟩, by unfold sp_base; rw [if_pos (show nI 2 = 2 ∨ nI 2 = 3 ∨ nI 2 = 5 from Or.inl rfl)]; exact ⟨rfl, rfl, rfl⟩⟩) dX6_base_84
        · refine lv_aload_n E.1.1 E.1.2.1 dX6_base_36 rfl (lv_at hl 1 rfl) ?_
          refine k_get (v := .ref (A 1)) E inlX6 rfl 1 (by decide) w2_233 rfl hw h_o rfl dX6_base_37 ?_
          refine lv_iload_n E.1.1 E.1.2.1 dX6_base_40 rfl (lv_at hl 0 rfl) ?_
          refine lv_iconst (v := nI 0) E.1.1 E.1.2.1 dX6_base_41 rfl ?_
          refine k_iast E hw (fun k => nI (va_up T1 i 0 k)) h_ts (by omega) (by omega) (fun z _ => up_st T1 _ _ z) dX6_base_42 (fun f H locs h_ts hfr hw => ?_)
          have h_o := h_o.kp hfr n_o_ts
          have h_ps := h_ps.kp hfr (Ne.symm n_ts_ps)
          have h_bs := h_bs.kp hfr (Ne.symm n_ts_bs)
          have h_rw := h_rw.kp hfr (Ne.symm n_ts_rw)
          have h_gs := h_gs.kp hfr (Ne.symm n_ts_gs)
          have h_fa := h_fa.kp hfr (Ne.symm n_ts_fa)
          have h_ba := h_ba.kp hfr (Ne.symm n_ts_ba)
          have h_it := h_it.kp hfr (Ne.symm n_ts_it)
          have hF : ∀ b ∈ L, b ≠ (A 0) → b ≠ (A 1) → b ≠ (A 2) → b ≠ (A 3) → f b = f0 b := fun b hb h0 h1 h2 h3 => (hfr b h1).trans (hF b hb h0 h1 h2 h3)
          refine lv_aload_n E.1.1 E.1.2.1 dX6_base_43 rfl (lv_at hl 1 rfl) ?_
          refine k_get (v := .ref (A 2)) E inlX6 rfl 2 (by decide) w2_234 rfl hw h_o rfl dX6_base_44 ?_
          refine lv_iload_n E.1.1 E.1.2.1 dX6_base_47 rfl (lv_at hl 0 rfl) ?_
          refine lv_iconst (v := nI 1) E.1.1 E.1.2.1 dX6_base_48 rfl ?_
          refine k_iast E hw (fun k => nI (va_up P1 i 1 k)) h_ps (by omega) (by omega) (fun z _ => up_st P1 _ _ z) dX6_base_49 (fun f H locs h_ps hfr hw => ?_)
          have h_o := h_o.kp hfr n_o_ps
          have h_ts := h_ts.kp hfr n_ts_ps
          have h_bs := h_bs.kp hfr (Ne.symm n_ps_bs)
          have h_rw := h_rw.kp hfr (Ne.symm n_ps_rw)
          have h_gs := h_gs.kp hfr (Ne.symm n_ps_gs)
          have h_fa := h_fa.kp hfr (Ne.symm n_ps_fa)
          have h_ba := h_ba.kp hfr (Ne.symm n_ps_ba)
          have h_it := h_it.kp hfr (Ne.symm n_ps_it)
          have hF : ∀ b ∈ L, b ≠ (A 0) → b ≠ (A 1) → b ≠ (A 2) → b ≠ (A 3) → f b = f0 b := fun b hb h0 h1 h2 h3 => (hfr b h2).trans (hF b hb h0 h1 h2 h3)
          rw [← rz_0 B1 i] at h_bs
          refine lv_iconst (v := nI 0) E.1.1 E.1.2.1 dX6_base_50 rfl ?_
          refine lv_istore (lv' := [(4, .int (nI 0)), (3, .int (nI i)), (0, .ref (A 0)), (1, .int (nI 2)), (2, .int (nI base))]) E.1.1 E.1.2.1 dX6_base_51 hl (by decide) rfl (fun ls hl => ?_)
          have lp53 : ∀ (k : Nat) (q1 : Nat) (f : Nat → va_E) (H : Heap) (locs : List Loc) (ls : Array Slot), (3 - q1 < k) → (q1 ≤ 3) → (cel L f (A 0) (.inr (6, [.int (nI 2), .ref (A 1), .ref (A 2), .ref (A 3), .ref (A 4), .int (nI fr), .int (nI pb), .ref (A 5), .int (nI ns), .ref (A 6), .ref (A 7), .ref (A 8)]))) → (cel L f (A 1) (.inl (cy 0, 84, .inl (fun k => nI (va_up T1 i 0 k))))) → (cel L f (A 2) (.inl (cy 0, 84, .inl (fun k => nI (va_up P1 i 1 k))))) → (cel L f (A 3) (.inl (cy 1, 252, .inr (.inl (rz B1 i q1))))) → (cel L f (A 4) (.inl (cy 2, 4096, .inl (fun k => b2i (rr k))))) → (cel L f (A 5) (.inl (cy 0, 325, .inl G))) → (cel L f (A 6) (.inl (cy 0, 65, .inl Fa))) → (cel L f (A 7) (.inl (cy 0, 2, .inl (fun k => nI (kb1 k))))) → (cel L f (A 8) (.inl (cy 2, 2, .inl (fun k => b2i (kp k))))) → (∀ b ∈ L, b ≠ (A 0) → b ≠ (A 1) → b ≠ (A 2) → b ≠ (A 3) → f b = f0 b) → (WW D (AW L sz) s.heap L f H locs) → (lv_has ls 5 [(4, .int (nI q1)), (3, .int (nI i)), (0, .ref (A 0)), (1, .int (nI 2)), (2, .int (nI base))]) → W p l e R s m args below meth c H locs 0 0 Q (F0 m 53 ls []) := by
            intro k
            induction k with
            | zero => intro _ _ _ _ _ hk; exact absurd hk (Nat.not_lt_zero _)
            | succ k ih53 =>
              intro q1 f H locs ls hk hq1 h_o h_ts h_ps h_bs h_rw h_gs h_fa h_ba h_it hF hw hl
              refine lv_iload E.1.1 E.1.2.1 dX6_base_53 (lv_at hl 0 rfl) ?_
              refine lv_iconst (v := nI 3) E.1.1 E.1.2.1 dX6_base_55 rfl ?_
              refine k_ge (tgt := 77) E dX6_base_56 (by decide) (by omega) (by omega) (fun c56 => ?_) (fun c56 => ?_)
              · rw [show q1 = 3 by omega, rz_3 B1 i] at h_bs
                refine lv_iinc (v := nI (i + 1)) (lv' := [(3, .int (nI (i + 1))), (4, .int (nI q1)), (0, .ref (A 0)), (1, .int (nI 2)), (2, .int (nI base))]) E.1.1 E.1.2.1 dX6_base_77 hl (k := 1) rfl (nI_1 _) (by decide) rfl (fun ls hl => ?_)
                refine lv_goto (tgt := 30) E.1.1 E.1.2.1 dX6_base_80 (by decide) ?_
                exact ih30  (i + 1) (va_up T1 i 0) (va_up P1 i 1) (va_up B1 i (fun _ => false)) f H locs ls (by omega) (by omega) (hTP1.up (by decide) (by decide) (by decide)) (EM_s hE) h_o h_ts h_ps h_bs h_rw h_gs h_fa h_ba h_it hF hw (lv_sub hl [0, 2, 3, 4] rfl)
              · refine lv_aload_n E.1.1 E.1.2.1 dX6_base_59 rfl (lv_at hl 2 rfl) ?_
                refine k_get (v := .ref (A 3)) E inlX6 rfl 3 (by decide) w2_235 rfl hw h_o rfl dX6_base_60 ?_
                refine lv_iconst (v := nI 3) E.1.1 E.1.2.1 dX6_base_63 rfl ?_
                refine lv_iload_n E.1.1 E.1.2.1 dX6_base_64 rfl (lv_at hl 1 rfl) ?_
                refine k_mul E dX6_base_65 ?_
                refine lv_iload E.1.1 E.1.2.1 dX6_base_66 (lv_at hl 0 rfl) ?_
                refine k_add E dX6_base_68 ?_
                refine lv_lconst (v := 0) E.1.1 E.1.2.1 dX6_base_69 rfl ?_
                refine k_last E hw (rz B1 i (q1 + 1)) h_bs (by omega) (by omega) (fun w _ => rz_s' B1 (by omega) w) dX6_base_70 (fun f H locs h_bs hfr hw => ?_)
                have h_o := h_o.kp hfr n_o_bs
                have h_ts := h_ts.kp hfr n_ts_bs
                have h_ps := h_ps.kp hfr n_ps_bs
                have h_rw := h_rw.kp hfr (Ne.symm n_bs_rw)
                have h_gs := h_gs.kp hfr (Ne.symm n_bs_gs)
                have h_fa := h_fa.kp hfr (Ne.symm n_bs_fa)
                have h_ba := h_ba.kp hfr (Ne.symm n_bs_ba)
                have h_it := h_it.kp hfr (Ne.symm n_bs_it)
                have hF : ∀ b ∈ L, b ≠ (A 0) → b ≠ (A 1) → b ≠ (A 2) → b ≠ (A 3) → f b = f0 b := fun b hb h0 h1 h2 h3 => (hfr b h3).trans (hF b hb h0 h1 h2 h3)
                refine lv_iinc (v := nI (q1 + 1)) (lv' := [(4, .int (nI (q1 + 1))), (3, .int (nI i)), (0, .ref (A 0)), (1, .int (nI 2)), (2, .int (nI base))]) E.1.1 E.1.2.1 dX6_base_71 hl (k := 0) rfl (nI_1 _) (by decide) rfl (fun ls hl => ?_)
                refine lv_goto (tgt := 53) E.1.1 E.1.2.1 dX6_base_74 (by decide) ?_
                exact ih53  (q1 + 1) f H locs ls (by omega) (by omega) h_o h_ts h_ps h_bs h_rw h_gs h_fa h_ba h_it hF hw (lv_sub hl [0, 1, 2, 3, 4] rfl)
          exact lp53 (3 - 0 + 1) 0 f H locs ls (Nat.lt_succ_self _) (by omega) h_o h_ts h_ps h_bs h_rw h_gs h_fa h_ba h_it hF hw (lv_sub hl [0, 1, 2, 3, 4] rfl)
    exact lp30 (6 - 0 + 1) 0 T P B f H locs ls (Nat.lt_succ_self _) (by omega) (hTP) (⟨fun x hx => absurd hx (by omega), fun _ _ => ⟨rfl, rfl, rfl⟩⟩) h_o h_ts h_ps h_bs h_rw h_gs h_fa h_ba h_it hF hw (lv_sub hl [0, 2, 3, 1] rfl)
  · refine lv_iload_n E.1.1 E.1.2.1 dX6_base_5 rfl (lv_at hl 1 rfl) ?_
    refine lv_iconst (v := nI 3) E.1.1 E.1.2.1 dX6_base_6 rfl ?_
    refine lv_icmp_eq (tgt := 18) E.1.1 E.1.2.1 dX6_base_7 (by decide) (fun c7 => ?_) (fun c7 => ?_)
    · subst c7
      refine lv_aload_n E.1.1 E.1.2.1 dX6_base_18 rfl (lv_at hl 0 rfl) ?_
      refine k_get (v := .int (nI base)) E inlX6 rfl 0 (by decide) w2_232 rfl hw h_o rfl dX6_base_19 ?_
      refine lv_istore_n (lv' := [(2, .int (nI base)), (0, .ref (A 0)), (1, .int (nI 3))]) E.1.1 E.1.2.1 dX6_base_22 rfl hl (by decide) rfl (fun ls hl => ?_)
      refine lv_aload_n E.1.1 E.1.2.1 dX6_base_23 rfl (lv_at hl 1 rfl) ?_
      refine lv_iload_n E.1.1 E.1.2.1 dX6_base_24 rfl (lv_at hl 2 rfl) ?_
      refine k_put (ty0 := tyX6) E inlX6 rfl tyX6_ok nmX6 0 (by decide) w2_232 rfl rfl hw [.int (nI 3), .ref (A 1), .ref (A 2), .ref (A 3), .ref (A 4), .int (nI fr), .int (nI pb), .ref (A 5), .int (nI ns), .ref (A 6), .ref (A 7), .ref (A 8)] h_o (rfl) (rfl) (Nat.le_of_ble_eq_true rfl) rfl dX6_base_25 (fun f H locs h_o hfr hw => ?_)
      have h_ts := h_ts.kp hfr (Ne.symm n_o_ts)
      have h_ps := h_ps.kp hfr (Ne.symm n_o_ps)
      have h_bs := h_bs.kp hfr (Ne.symm n_o_bs)
      have h_rw := h_rw.kp hfr (Ne.symm n_o_rw)
      have h_gs := h_gs.kp hfr (Ne.symm n_o_gs)
      have h_fa := h_fa.kp hfr (Ne.symm n_o_fa)
      have h_ba := h_ba.kp hfr (Ne.symm n_o_ba)
      have h_it := h_it.kp hfr (Ne.symm n_o_it)
      have hF : ∀ b ∈ L, b ≠ (A 0) → b ≠ (A 1) → b ≠ (A 2) → b ≠ (A 3) → f b = f0 b := fun b hb h0 h1 h2 h3 => (hfr b h0).trans (hF b hb h0 h1 h2 h3)
      refine lv_iconst (v := nI 0) E.1.1 E.1.2.1 dX6_base_28 rfl ?_
      refine lv_istore_n (lv' := [(3, .int (nI 0)), (2, .int (nI base)), (0, .ref (A 0)), (1, .int (nI 3))]) E.1.1 E.1.2.1 dX6_base_29 rfl hl (by decide) rfl (fun ls hl => ?_)
      have lp30 : ∀ (k : Nat) (i : Nat) (T1 : Nat → Nat) (P1 : Nat → Nat) (B1 : Nat → Nat → Bool) (f : Nat → va_E) (H : Heap) (locs : List Loc) (ls : Array Slot), (6 - i < k) → (i ≤ 6) → (TP T1 P1) → (EM T P T1 P1 B B1 i) → (cel L f (A 0) (.inr (6, [.int (nI 3), .ref (A 1), .ref (A 2), .ref (A 3), .ref (A 4), .int (nI fr), .int (nI pb), .ref (A 5), .int (nI ns), .ref (A 6), .ref (A 7), .ref (A 8)]))) → (cel L f (A 1) (.inl (cy 0, 84, .inl (fun k => nI (T1 k))))) → (cel L f (A 2) (.inl (cy 0, 84, .inl (fun k => nI (P1 k))))) → (cel L f (A 3) (.inl (cy 1, 252, .inr (.inl (rw3 B1))))) → (cel L f (A 4) (.inl (cy 2, 4096, .inl (fun k => b2i (rr k))))) → (cel L f (A 5) (.inl (cy 0, 325, .inl G))) → (cel L f (A 6) (.inl (cy 0, 65, .inl Fa))) → (cel L f (A 7) (.inl (cy 0, 2, .inl (fun k => nI (kb1 k))))) → (cel L f (A 8) (.inl (cy 2, 2, .inl (fun k => b2i (kp k))))) → (∀ b ∈ L, b ≠ (A 0) → b ≠ (A 1) → b ≠ (A 2) → b ≠ (A 3) → f b = f0 b) → (WW D (AW L sz) s.heap L f H locs) → (lv_has ls 5 [(3, .int (nI i)), (0, .ref (A 0)), (1, .int (nI 3)), (2, .int (nI base))]) → W p l e R s m args below meth c H locs 0 0 Q (F0 m 30 ls []) := by
        intro k
        induction k with
        | zero => intro _ _ _ _ _ _ _ _ hk; exact absurd hk (Nat.not_lt_zero _)
        | succ k ih30 =>
          intro i T1 P1 B1 f H locs ls hk hi hTP1 hE h_o h_ts h_ps h_bs h_rw h_gs h_fa h_ba h_it hF hw hl
          refine lv_iload_n E.1.1 E.1.2.1 dX6_base_30 rfl (lv_at hl 0 rfl) ?_
          refine lv_bipush (v := nI 6) E.1.1 E.1.2.1 dX6_base_31 rfl ?_
          refine k_ge (tgt := 83) E dX6_base_33 (by decide) (by omega) (by omega) (fun c33 => ?_) (fun c33 => ?_)
          · refine lv_iload_n E.1.1 E.1.2.1 dX6_base_83 rfl (lv_at hl 3 rfl) ?_
            exact k_miret E hQ hlk hr hw (Nat.le_of_ble_eq_true rfl) (Nat.le_of_ble_eq_true rfl) (⟨rfl, fun b hb h => hF b hb (h 0 (by decide)) (h 1 (by decide)) (h 2 (by decide)) (h 3 (by decide)), 3, fun _ _ => false, ⟨by unfold B235; decide, _, _, _, _, _, _, _, _, _, _, ⟨h_o, h_ts, h_ps, h_bs, h_rw, h_gs, h_fa, h_ba, h_it⟩, hTP1, fun j hj => by rw [(hE.1 j (by omega)).1, (hE.1 j (by omega)).2.1, (hE.1 j (by omega)).2.2]; exact ⟨none_is, 1, none_mch (by decide)⟩, hMK.ag (fun x _ h6 => hE.2 x (by omega))⟩, by unfold sp_base; rw [if_pos (show nI 3 = 2 ∨ nI 3 = 3 ∨ nI 3 = 5 from Or.inr (Or.inl rfl))]; exact ⟨rfl, rfl, rfl⟩⟩) dX6_base_84
          · refine lv_aload_n E.1.1 E.1.2.1 dX6_base_36 rfl (lv_at hl 1 rfl) ?_
            refine k_get (v := .ref (A 1)) E inlX6 rfl 1 (by decide) w2_233 rfl hw h_o rfl dX6_base_37 ?_
            refine lv_iload_n E.1.1 E.1.2.1 dX6_base_40 rfl (lv_at hl 0 rfl) ?_
            refine lv_iconst (v := nI 0) E.1.1 E.1.2.1 dX6_base_41 rfl ?_
            refine k_iast E hw (fun k => nI (va_up T1 i 0 k)) h_ts (by omega) (by omega) (fun z _ => up_st T1 _ _ z) dX6_base_42 (fun f H locs h_ts hfr hw => ?_)
            have h_o := h_o.kp hfr n_o_ts
            have h_ps := h_ps.kp hfr (Ne.symm n_ts_ps)
            have h_bs := h_bs.kp hfr (Ne.symm n_ts_bs)
            have h_rw := h_rw.kp hfr (Ne.symm n_ts_rw)
            have h_gs := h_gs.kp hfr (Ne.symm n_ts_gs)
            have h_fa := h_fa.kp hfr (Ne.symm n_ts_fa)
            have h_ba := h_ba.kp hfr (Ne.symm n_ts_ba)
            have h_it := h_it.kp hfr (Ne.symm n_ts_it)
            have hF : ∀ b ∈ L, b ≠ (A 0) → b ≠ (A 1) → b ≠ (A 2) → b ≠ (A 3) → f b = f0 b := fun b hb h0 h1 h2 h3 => (hfr b h1).trans (hF b hb h0 h1 h2 h3)
            refine lv_aload_n E.1.1 E.1.2.1 dX6_base_43 rfl (lv_at hl 1 rfl) ?_
            refine k_get (v := .ref (A 2)) E inlX6 rfl 2 (by decide) w2_234 rfl hw h_o rfl dX6_base_44 ?_
            refine lv_iload_n E.1.1 E.1.2.1 dX6_base_47 rfl (lv_at hl 0 rfl) ?_
            refine lv_iconst (v := nI 1) E.1.1 E.1.2.1 dX6_base_48 rfl ?_
            refine k_iast E hw (fun k => nI (va_up P1 i 1 k)) h_ps (by omega) (by omega) (fun z _ => up_st P1 _ _ z) dX6_base_49 (fun f H locs h_ps hfr hw => ?_)
            have h_o := h_o.kp hfr n_o_ps
            have h_ts := h_ts.kp hfr n_ts_ps
            have h_bs := h_bs.kp hfr (Ne.symm n_ps_bs)
            have h_rw := h_rw.kp hfr (Ne.symm n_ps_rw)
            have h_gs := h_gs.kp hfr (Ne.symm n_ps_gs)
            have h_fa := h_fa.kp hfr (Ne.symm n_ps_fa)
            have h_ba := h_ba.kp hfr (Ne.symm n_ps_ba)
            have h_it := h_it.kp hfr (Ne.symm n_ps_it)
            have hF : ∀ b ∈ L, b ≠ (A 0) → b ≠ (A 1) → b ≠ (A 2) → b ≠ (A 3) → f b = f0 b := fun b hb h0 h1 h2 h3 => (hfr b h2).trans (hF b hb h0 h1 h2 h3)
            rw [← rz_0 B1 i] at h_bs
            refine lv_iconst (v := nI 0) E.1.1 E.1.2.1 dX6_base_50 rfl ?_
            refine lv_istore (lv' := [(4, .int (nI 0)), (3, .int (nI i)), (0, .ref (A 0)), (1, .int (nI 3)), (2, .int (nI base))]) E.1.1 E.1.2.1 dX6_base_51 hl (by decide) rfl (fun ls hl => ?_)
            have lp53 : ∀ (k : Nat) (q1 : Nat) (f : Nat → va_E) (H : Heap) (locs : List Loc) (ls : Array Slot), (3 - q1 < k) → (q1 ≤ 3) → (cel L f (A 0) (.inr (6, [.int (nI 3), .ref (A 1), .ref (A 2), .ref (A 3), .ref (A 4), .int (nI fr), .int (nI pb), .ref (A 5), .int (nI ns), .ref (A 6), .ref (A 7), .ref (A 8)]))) → (cel L f (A 1) (.inl (cy 0, 84, .inl (fun k => nI (va_up T1 i 0 k))))) → (cel L f (A 2) (.inl (cy 0, 84, .inl (fun k => nI (va_up P1 i 1 k))))) → (cel L f (A 3) (.inl (cy 1, 252, .inr (.inl (rz B1 i q1))))) → (cel L f (A 4) (.inl (cy 2, 4096, .inl (fun k => b2i (rr k))))) → (cel L f (A 5) (.inl (cy 0, 325, .inl G))) → (cel L f (A 6) (.inl (cy 0, 65, .inl Fa))) → (cel L f (A 7) (.inl (cy 0, 2, .inl (fun k => nI (kb1 k))))) → (cel L f (A 8) (.inl (cy 2, 2, .inl (fun k => b2i (kp k))))) → (∀ b ∈ L, b ≠ (A 0) → b ≠ (A 1) → b ≠ (A 2) → b ≠ (A 3) → f b = f0 b) → (WW D (AW L sz) s.heap L f H locs) → (lv_has ls 5 [(4, .int (nI q1)), (3, .int (nI i)), (0, .ref (A 0)), (1, .int (nI 3)), (2, .int (nI base))]) → W p l e R s m args below meth c H locs 0 0 Q (F0 m 53 ls []) := by
              intro k
              induction k with
              | zero => intro _ _ _ _ _ hk; exact absurd hk (Nat.not_lt_zero _)
              | succ k ih53 =>
                intro q1 f H locs ls hk hq1 h_o h_ts h_ps h_bs h_rw h_gs h_fa h_ba h_it hF hw hl
                refine lv_iload E.1.1 E.1.2.1 dX6_base_53 (lv_at hl 0 rfl) ?_
                refine lv_iconst (v := nI 3) E.1.1 E.1.2.1 dX6_base_55 rfl ?_
                refine k_ge (tgt := 77) E dX6_base_56 (by decide) (by omega) (by omega) (fun c56 => ?_) (fun c56 => ?_)
                · rw [show q1 = 3 by omega, rz_3 B1 i] at h_bs
                  refine lv_iinc (v := nI (i + 1)) (lv' := [(3, .int (nI (i + 1))), (4, .int (nI q1)), (0, .ref (A 0)), (1, .int (nI 3)), (2, .int (nI base))]) E.1.1 E.1.2.1 dX6_base_77 hl (k := 1) rfl (nI_1 _) (by decide) rfl (fun ls hl => ?_)
                  refine lv_goto (tgt := 30) E.1.1 E.1.2.1 dX6_base_80 (by decide) ?_
                  exact ih30  (i + 1) (va_up T1 i 0) (va_up P1 i 1) (va_up B1 i (fun _ => false)) f H locs ls (by omega) (by omega) (hTP1.up (by decide) (by decide) (by decide)) (EM_s hE) h_o h_ts h_ps h_bs h_rw h_gs h_fa h_ba h_it hF hw (lv_sub hl [0, 2, 3, 4] rfl)
                · refine lv_aload_n E.1.1 E.1.2.1 dX6_base_59 rfl (lv_at hl 2 rfl) ?_
                  refine k_get (v := .ref (A 3)) E inlX6 rfl 3 (by decide) w2_235 rfl hw h_o rfl dX6_base_60 ?_
                  refine lv_iconst (v := nI 3) E.1.1 E.1.2.1 dX6_base_63 rfl ?_
                  refine lv_iload_n E.1.1 E.1.2.1 dX6_base_64 rfl (lv_at hl 1 rfl) ?_
                  refine k_mul E dX6_base_65 ?_
                  refine lv_iload E.1.1 E.1.2.1 dX6_base_66 (lv_at hl 0 rfl) ?_
                  refine k_add E dX6_base_68 ?_
                  refine lv_lconst (v := 0) E.1.1 E.1.2.1 dX6_base_69 rfl ?_
                  refine k_last E hw (rz B1 i (q1 + 1)) h_bs (by omega) (by omega) (fun w _ => rz_s' B1 (by omega) w) dX6_base_70 (fun f H locs h_bs hfr hw => ?_)
                  have h_o := h_o.kp hfr n_o_bs
                  have h_ts := h_ts.kp hfr n_ts_bs
                  have h_ps := h_ps.kp hfr n_ps_bs
                  have h_rw := h_rw.kp hfr (Ne.symm n_bs_rw)
                  have h_gs := h_gs.kp hfr (Ne.symm n_bs_gs)
                  have h_fa := h_fa.kp hfr (Ne.symm n_bs_fa)
                  have h_ba := h_ba.kp hfr (Ne.symm n_bs_ba)
                  have h_it := h_it.kp hfr (Ne.symm n_bs_it)
                  have hF : ∀ b ∈ L, b ≠ (A 0) → b ≠ (A 1) → b ≠ (A 2) → b ≠ (A 3) → f b = f0 b := fun b hb h0 h1 h2 h3 => (hfr b h3).trans (hF b hb h0 h1 h2 h3)
                  refine lv_iinc (v := nI (q1 + 1)) (lv' := [(4, .int (nI (q1 + 1))), (3, .int (nI i)), (0, .ref (A 0)), (1, .int (nI 3)), (2, .int (nI base))]) E.1.1 E.1.2.1 dX6_base_71 hl (k := 0) rfl (nI_1 _) (by decide) rfl (fun ls hl => ?_)
                  refine lv_goto (tgt := 53) E.1.1 E.1.2.1 dX6_base_74 (by decide) ?_
                  exact ih53  (q1 + 1) f H locs ls (by omega) (by omega) h_o h_ts h_ps h_bs h_rw h_gs h_fa h_ba h_it hF hw (lv_sub hl [0, 1, 2, 3, 4] rfl)
            exact lp53 (3 - 0 + 1) 0 f H locs ls (Nat.lt_succ_self _) (by omega) h_o h_ts h_ps h_bs h_rw h_gs h_fa h_ba h_it hF hw (lv_sub hl [0, 1, 2, 3, 4] rfl)
      exact lp30 (6 - 0 + 1) 0 T P B f H locs ls (Nat.lt_succ_self _) (by omega) (hTP) (⟨fun x hx => absurd hx (by omega), fun _ _ => ⟨rfl, rfl, rfl⟩⟩) h_o h_ts h_ps h_bs h_rw h_gs h_fa h_ba h_it hF hw (lv_sub hl [0, 2, 3, 1] rfl)
    · refine lv_iload_n E.1.1 E.1.2.1 dX6_base_10 rfl (lv_at hl 1 rfl) ?_
      refine lv_iconst (v := nI 5) E.1.1 E.1.2.1 dX6_base_11 rfl ?_
      refine lv_icmp_eq (tgt := 18) E.1.1 E.1.2.1 dX6_base_12 (by decide) (fun c12 => ?_) (fun c12 => ?_)
      · subst c12
        refine lv_aload_n E.1.1 E.1.2.1 dX6_base_18 rfl (lv_at hl 0 rfl) ?_
        refine k_get (v := .int (nI base)) E inlX6 rfl 0 (by decide) w2_232 rfl hw h_o rfl dX6_base_19 ?_
        refine lv_istore_n (lv' := [(2, .int (nI base)), (0, .ref (A 0)), (1, .int (nI 5))]) E.1.1 E.1.2.1 dX6_base_22 rfl hl (by decide) rfl (fun ls hl => ?_)
        refine lv_aload_n E.1.1 E.1.2.1 dX6_base_23 rfl (lv_at hl 1 rfl) ?_
        refine lv_iload_n E.1.1 E.1.2.1 dX6_base_24 rfl (lv_at hl 2 rfl) ?_
        refine k_put (ty0 := tyX6) E inlX6 rfl tyX6_ok nmX6 0 (by decide) w2_232 rfl rfl hw [.int (nI 5), .ref (A 1), .ref (A 2), .ref (A 3), .ref (A 4), .int (nI fr), .int (nI pb), .ref (A 5), .int (nI ns), .ref (A 6), .ref (A 7), .ref (A 8)] h_o (rfl) (rfl) (Nat.le_of_ble_eq_true rfl) rfl dX6_base_25 (fun f H locs h_o hfr hw => ?_)
        have h_ts := h_ts.kp hfr (Ne.symm n_o_ts)
        have h_ps := h_ps.kp hfr (Ne.symm n_o_ps)
        have h_bs := h_bs.kp hfr (Ne.symm n_o_bs)
        have h_rw := h_rw.kp hfr (Ne.symm n_o_rw)
        have h_gs := h_gs.kp hfr (Ne.symm n_o_gs)
        have h_fa := h_fa.kp hfr (Ne.symm n_o_fa)
        have h_ba := h_ba.kp hfr (Ne.symm n_o_ba)
        have h_it := h_it.kp hfr (Ne.symm n_o_it)
        have hF : ∀ b ∈ L, b ≠ (A 0) → b ≠ (A 1) → b ≠ (A 2) → b ≠ (A 3) → f b = f0 b := fun b hb h0 h1 h2 h3 => (hfr b h0).trans (hF b hb h0 h1 h2 h3)
        refine lv_iconst (v := nI 0) E.1.1 E.1.2.1 dX6_base_28 rfl ?_
        refine lv_istore_n (lv' := [(3, .int (nI 0)), (2, .int (nI base)), (0, .ref (A 0)), (1, .int (nI 5))]) E.1.1 E.1.2.1 dX6_base_29 rfl hl (by decide) rfl (fun ls hl => ?_)
        have lp30 : ∀ (k : Nat) (i : Nat) (T1 : Nat → Nat) (P1 : Nat → Nat) (B1 : Nat → Nat → Bool) (f : Nat → va_E) (H : Heap) (locs : List Loc) (ls : Array Slot), (6 - i < k) → (i ≤ 6) → (TP T1 P1) → (EM T P T1 P1 B B1 i) → (cel L f (A 0) (.inr (6, [.int (nI 5), .ref (A 1), .ref (A 2), .ref (A 3), .ref (A 4), .int (nI fr), .int (nI pb), .ref (A 5), .int (nI ns), .ref (A 6), .ref (A 7), .ref (A 8)]))) → (cel L f (A 1) (.inl (cy 0, 84, .inl (fun k => nI (T1 k))))) → (cel L f (A 2) (.inl (cy 0, 84, .inl (fun k => nI (P1 k))))) → (cel L f (A 3) (.inl (cy 1, 252, .inr (.inl (rw3 B1))))) → (cel L f (A 4) (.inl (cy 2, 4096, .inl (fun k => b2i (rr k))))) → (cel L f (A 5) (.inl (cy 0, 325, .inl G))) → (cel L f (A 6) (.inl (cy 0, 65, .inl Fa))) → (cel L f (A 7) (.inl (cy 0, 2, .inl (fun k => nI (kb1 k))))) → (cel L f (A 8) (.inl (cy 2, 2, .inl (fun k => b2i (kp k))))) → (∀ b ∈ L, b ≠ (A 0) → b ≠ (A 1) → b ≠ (A 2) → b ≠ (A 3) → f b = f0 b) → (WW D (AW L sz) s.heap L f H locs) → (lv_has ls 5 [(3, .int (nI i)), (0, .ref (A 0)), (1, .int (nI 5)), (2, .int (nI base))]) → W p l e R s m args below meth c H locs 0 0 Q (F0 m 30 ls []) := by
          intro k
          induction k with
          | zero => intro _ _ _ _ _ _ _ _ hk; exact absurd hk (Nat.not_lt_zero _)
          | succ k ih30 =>
            intro i T1 P1 B1 f H locs ls hk hi hTP1 hE h_o h_ts h_ps h_bs h_rw h_gs h_fa h_ba h_it hF hw hl
            refine lv_iload_n E.1.1 E.1.2.1 dX6_base_30 rfl (lv_at hl 0 rfl) ?_
            refine lv_bipush (v := nI 6) E.1.1 E.1.2.1 dX6_base_31 rfl ?_
            refine k_ge (tgt := 83) E dX6_base_33 (by decide) (by omega) (by omega) (fun c33 => ?_) (fun c33 => ?_)
            · refine lv_iload_n E.1.1 E.1.2.1 dX6_base_83 rfl (lv_at hl 3 rfl) ?_
              exact k_miret E hQ hlk hr hw (Nat.le_of_ble_eq_true rfl) (Nat.le_of_ble_eq_true rfl) (⟨rfl, fun b hb h => hF b hb (h 0 (by decide)) (h 1 (by decide)) (h 2 (by decide)) (h 3 (by decide)), 5, fun _ _ => false, ⟨by unfold B235; decide, _, _, _, _, _, _, _, _, _, _, ⟨h_o, h_ts, h_ps, h_bs, h_rw, h_gs, h_fa, h_ba, h_it⟩, hTP1, fun j hj => by rw [(hE.1 j (by omega)).1, (hE.1 j (by omega)).2.1, (hE.1 j (by omega)).2.2]; exact ⟨none_is, 1, none_mch (by decide)⟩, hMK.ag (fun x _ h6 => hE.2 x (by omega))⟩, by unfold sp_base; rw [if_pos (show nI 5 = 2 ∨ nI 5 = 3 ∨ nI 5 = 5 from Or.inr (Or.inr rfl))]; exact ⟨rfl, rfl, rfl⟩⟩) dX6_base_84
            · refine lv_aload_n E.1.1 E.1.2.1 dX6_base_36 rfl (lv_at hl 1 rfl) ?_
              refine k_get (v := .ref (A 1)) E inlX6 rfl 1 (by decide) w2_233 rfl hw h_o rfl dX6_base_37 ?_
              refine lv_iload_n E.1.1 E.1.2.1 dX6_base_40 rfl (lv_at hl 0 rfl) ?_
              refine lv_iconst (v := nI 0) E.1.1 E.1.2.1 dX6_base_41 rfl ?_
              refine k_iast E hw (fun k => nI (va_up T1 i 0 k)) h_ts (by omega) (by omega) (fun z _ => up_st T1 _ _ z) dX6_base_42 (fun f H locs h_ts hfr hw => ?_)
              have h_o := h_o.kp hfr n_o_ts
              have h_ps := h_ps.kp hfr (Ne.symm n_ts_ps)
              have h_bs := h_bs.kp hfr (Ne.symm n_ts_bs)
              have h_rw := h_rw.kp hfr (Ne.symm n_ts_rw)
              have h_gs := h_gs.kp hfr (Ne.symm n_ts_gs)
              have h_fa := h_fa.kp hfr (Ne.symm n_ts_fa)
              have h_ba := h_ba.kp hfr (Ne.symm n_ts_ba)
              have h_it := h_it.kp hfr (Ne.symm n_ts_it)
              have hF : ∀ b ∈ L, b ≠ (A 0) → b ≠ (A 1) → b ≠ (A 2) → b ≠ (A 3) → f b = f0 b := fun b hb h0 h1 h2 h3 => (hfr b h1).trans (hF b hb h0 h1 h2 h3)
              refine lv_aload_n E.1.1 E.1.2.1 dX6_base_43 rfl (lv_at hl 1 rfl) ?_
              refine k_get (v := .ref (A 2)) E inlX6 rfl 2 (by decide) w2_234 rfl hw h_o rfl dX6_base_44 ?_
              refine lv_iload_n E.1.1 E.1.2.1 dX6_base_47 rfl (lv_at hl 0 rfl) ?_
              refine lv_iconst (v := nI 1) E.1.1 E.1.2.1 dX6_base_48 rfl ?_
              refine k_iast E hw (fun k => nI (va_up P1 i 1 k)) h_ps (by omega) (by omega) (fun z _ => up_st P1 _ _ z) dX6_base_49 (fun f H locs h_ps hfr hw => ?_)
              have h_o := h_o.kp hfr n_o_ps
              have h_ts := h_ts.kp hfr n_ts_ps
              have h_bs := h_bs.kp hfr (Ne.symm n_ps_bs)
              have h_rw := h_rw.kp hfr (Ne.symm n_ps_rw)
              have h_gs := h_gs.kp hfr (Ne.symm n_ps_gs)
              have h_fa := h_fa.kp hfr (Ne.symm n_ps_fa)
              have h_ba := h_ba.kp hfr (Ne.symm n_ps_ba)
              have h_it := h_it.kp hfr (Ne.symm n_ps_it)
              have hF : ∀ b ∈ L, b ≠ (A 0) → b ≠ (A 1) → b ≠ (A 2) → b ≠ (A 3) → f b = f0 b := fun b hb h0 h1 h2 h3 => (hfr b h2).trans (hF b hb h0 h1 h2 h3)
              rw [← rz_0 B1 i] at h_bs
              refine lv_iconst (v := nI 0) E.1.1 E.1.2.1 dX6_base_50 rfl ?_
              refine lv_istore (lv' := [(4, .int (nI 0)), (3, .int (nI i)), (0, .ref (A 0)), (1, .int (nI 5)), (2, .int (nI base))]) E.1.1 E.1.2.1 dX6_base_51 hl (by decide) rfl (fun ls hl => ?_)
              have lp53 : ∀ (k : Nat) (q1 : Nat) (f : Nat → va_E) (H : Heap) (locs : List Loc) (ls : Array Slot), (3 - q1 < k) → (q1 ≤ 3) → (cel L f (A 0) (.inr (6, [.int (nI 5), .ref (A 1), .ref (A 2), .ref (A 3), .ref (A 4), .int (nI fr), .int (nI pb), .ref (A 5), .int (nI ns), .ref (A 6), .ref (A 7), .ref (A 8)]))) → (cel L f (A 1) (.inl (cy 0, 84, .inl (fun k => nI (va_up T1 i 0 k))))) → (cel L f (A 2) (.inl (cy 0, 84, .inl (fun k => nI (va_up P1 i 1 k))))) → (cel L f (A 3) (.inl (cy 1, 252, .inr (.inl (rz B1 i q1))))) → (cel L f (A 4) (.inl (cy 2, 4096, .inl (fun k => b2i (rr k))))) → (cel L f (A 5) (.inl (cy 0, 325, .inl G))) → (cel L f (A 6) (.inl (cy 0, 65, .inl Fa))) → (cel L f (A 7) (.inl (cy 0, 2, .inl (fun k => nI (kb1 k))))) → (cel L f (A 8) (.inl (cy 2, 2, .inl (fun k => b2i (kp k))))) → (∀ b ∈ L, b ≠ (A 0) → b ≠ (A 1) → b ≠ (A 2) → b ≠ (A 3) → f b = f0 b) → (WW D (AW L sz) s.heap L f H locs) → (lv_has ls 5 [(4, .int (nI q1)), (3, .int (nI i)), (0, .ref (A 0)), (1, .int (nI 5)), (2, .int (nI base))]) → W p l e R s m args below meth c H locs 0 0 Q (F0 m 53 ls []) := by
                intro k
                induction k with
                | zero => intro _ _ _ _ _ hk; exact absurd hk (Nat.not_lt_zero _)
                | succ k ih53 =>
                  intro q1 f H locs ls hk hq1 h_o h_ts h_ps h_bs h_rw h_gs h_fa h_ba h_it hF hw hl
                  refine lv_iload E.1.1 E.1.2.1 dX6_base_53 (lv_at hl 0 rfl) ?_
                  refine lv_iconst (v := nI 3) E.1.1 E.1.2.1 dX6_base_55 rfl ?_
                  refine k_ge (tgt := 77) E dX6_base_56 (by decide) (by omega) (by omega) (fun c56 => ?_) (fun c56 => ?_)
                  · rw [show q1 = 3 by omega, rz_3 B1 i] at h_bs
                    refine lv_iinc (v := nI (i + 1)) (lv' := [(3, .int (nI (i + 1))), (4, .int (nI q1)), (0, .ref (A 0)), (1, .int (nI 5)), (2, .int (nI base))]) E.1.1 E.1.2.1 dX6_base_77 hl (k := 1) rfl (nI_1 _) (by decide) rfl (fun ls hl => ?_)
                    refine lv_goto (tgt := 30) E.1.1 E.1.2.1 dX6_base_80 (by decide) ?_
                    exact ih30  (i + 1) (va_up T1 i 0) (va_up P1 i 1) (va_up B1 i (fun _ => false)) f H locs ls (by omega) (by omega) (hTP1.up (by decide) (by decide) (by decide)) (EM_s hE) h_o h_ts h_ps h_bs h_rw h_gs h_fa h_ba h_it hF hw (lv_sub hl [0, 2, 3, 4] rfl)
                  · refine lv_aload_n E.1.1 E.1.2.1 dX6_base_59 rfl (lv_at hl 2 rfl) ?_
                    refine k_get (v := .ref (A 3)) E inlX6 rfl 3 (by decide) w2_235 rfl hw h_o rfl dX6_base_60 ?_
                    refine lv_iconst (v := nI 3) E.1.1 E.1.2.1 dX6_base_63 rfl ?_
                    refine lv_iload_n E.1.1 E.1.2.1 dX6_base_64 rfl (lv_at hl 1 rfl) ?_
                    refine k_mul E dX6_base_65 ?_
                    refine lv_iload E.1.1 E.1.2.1 dX6_base_66 (lv_at hl 0 rfl) ?_
                    refine k_add E dX6_base_68 ?_
                    refine lv_lconst (v := 0) E.1.1 E.1.2.1 dX6_base_69 rfl ?_
                    refine k_last E hw (rz B1 i (q1 + 1)) h_bs (by omega) (by omega) (fun w _ => rz_s' B1 (by omega) w) dX6_base_70 (fun f H locs h_bs hfr hw => ?_)
                    have h_o := h_o.kp hfr n_o_bs
                    have h_ts := h_ts.kp hfr n_ts_bs
                    have h_ps := h_ps.kp hfr n_ps_bs
                    have h_rw := h_rw.kp hfr (Ne.symm n_bs_rw)
                    have h_gs := h_gs.kp hfr (Ne.symm n_bs_gs)
                    have h_fa := h_fa.kp hfr (Ne.symm n_bs_fa)
                    have h_ba := h_ba.kp hfr (Ne.symm n_bs_ba)
                    have h_it := h_it.kp hfr (Ne.symm n_bs_it)
                    have hF : ∀ b ∈ L, b ≠ (A 0) → b ≠ (A 1) → b ≠ (A 2) → b ≠ (A 3) → f b = f0 b := fun b hb h0 h1 h2 h3 => (hfr b h3).trans (hF b hb h0 h1 h2 h3)
                    refine lv_iinc (v := nI (q1 + 1)) (lv' := [(4, .int (nI (q1 + 1))), (3, .int (nI i)), (0, .ref (A 0)), (1, .int (nI 5)), (2, .int (nI base))]) E.1.1 E.1.2.1 dX6_base_71 hl (k := 0) rfl (nI_1 _) (by decide) rfl (fun ls hl => ?_)
                    refine lv_goto (tgt := 53) E.1.1 E.1.2.1 dX6_base_74 (by decide) ?_
                    exact ih53  (q1 + 1) f H locs ls (by omega) (by omega) h_o h_ts h_ps h_bs h_rw h_gs h_fa h_ba h_it hF hw (lv_sub hl [0, 1, 2, 3, 4] rfl)
              exact lp53 (3 - 0 + 1) 0 f H locs ls (Nat.lt_succ_self _) (by omega) h_o h_ts h_ps h_bs h_rw h_gs h_fa h_ba h_it hF hw (lv_sub hl [0, 1, 2, 3, 4] rfl)
        exact lp30 (6 - 0 + 1) 0 T P B f H locs ls (Nat.lt_succ_self _) (by omega) (hTP) (⟨fun x hx => absurd hx (by omega), fun _ _ => ⟨rfl, rfl, rfl⟩⟩) h_o h_ts h_ps h_bs h_rw h_gs h_fa h_ba h_it hF hw (lv_sub hl [0, 2, 3, 1] rfl)
      · refine lv_bipush (v := -2) E.1.1 E.1.2.1 dX6_base_15 rfl ?_
        exact k_miret E hQ hlk hr hw (Nat.le_of_ble_eq_true rfl) (Nat.le_of_ble_eq_true rfl) (⟨rfl, fun b hb h => hF b hb (h 0 (by decide)) (h 1 (by decide)) (h 2 (by decide)) (h 3 (by decide)), base, SS, ⟨hB, _, _, _, _, _, _, _, _, _, _, ⟨h_o, h_ts, h_ps, h_bs, h_rw, h_gs, h_fa, h_ba, h_it⟩, hTP, hMS, hMK⟩, by unfold sp_base; rw [if_neg (by rintro (q | q | q); exact c2 q; exact c7 q; exact c12 q)]; exact ⟨rfl, rfl, rfl⟩⟩) dX6_base_17

set_option maxHeartbeats 4000000 in
set_option maxRecDepth 100000 in
theorem m_allStates (l : Launch) (D : va_G) (cy : Nat → ClassId) (L : List Nat) (f0 : Nat → va_E) (sz : Nat) (A : Nat → Nat) (base : Nat) (SS : Nat → Nat → Bool) (kp : Nat → Bool) (kb : Nat → Nat) (KS : Nat → Nat → Nat → Bool) (hA : MAd A) (hN : MoW cy L f0 A base SS kp kb KS) (nn : Nat → Nat) (hnn : ∀ j, j < 6 → MchOf (SS j) base (nn j)) : Met l yX6_allStates (.code yX6_allStates cX6_allStates 3 (Option.some FieldType.int) :: wsL_law) { frames := 5, cells := 0, slots := 0, locals := 115 } (va_Pc [.ref (A 0)] (PW D cy L f0 sz)) (va_Qi (fun (r : Int32) (u : List Nat × (Nat → va_E)) => L = u.1 ∧ (∀ b ∈ L, (∀ i, i < 9 → b ≠ A i) → u.2 b = f0 b) ∧ MoW cy L u.2 A base SS kp kb KS ∧ r = nI (fsum nn 6)) (PB D (AW L sz)) (AW L sz)) 0 0 (AW L sz) := by
  refine m_start (by decide) (Nat.le_of_ble_eq_true rfl) ?_
  intro p e R Q s m args below meth c ls hsz hR hQ E hr hlk hnm hw hl
  have hl : lv_has ls 3 [(0, .ref (A 0))] := hl
  obtain ⟨H, hH⟩ : ∃ X, X = s.heap := ⟨_, rfl⟩
  obtain ⟨locs, hlocs⟩ : ∃ X : List Loc, X = [] := ⟨_, rfl⟩
  have hw0 := hw
  obtain ⟨hB, fr, pb, ns, T, P, B, rr, G, Fa, kb1, ⟨h_o, h_ts, h_ps, h_bs, h_rw, h_gs, h_fa, h_ba, h_it⟩, hTP, hMS, hMK⟩ := hN
  have hb2 := hB.two
  obtain ⟨f, hf0⟩ : ∃ X, X = f0 := ⟨_, rfl⟩
  rw [← hf0] at h_o h_ts h_ps h_bs h_rw h_gs h_fa h_ba h_it
  have hw : WW D (AW L sz) s.heap L f H locs := by rw [hH, hlocs, hf0]; exact hw
  have hF : ∀ b ∈ L, b ≠ (A 0) → b ≠ (A 1) → b ≠ (A 2) → b ≠ (A 3) → b ≠ (A 4) → b ≠ (A 5) → f b = f0 b := fun b hb h0 h1 h2 h3 h4 h5 => by rw [hf0]
  suffices hgo : W p l e R s m args below meth c H locs 0 0 Q (F0 m 0 ls []) by rw [hH, hlocs] at hgo; exact hgo
  clear hH hlocs hw0 hf0
  have hLs : ∀ b ∈ L, b ∈ L := fun _ h => h
  have n_o_ts : A 0 ≠ A 1 := hA.ne (by decide) (by decide) (by decide)
  have n_o_ps : A 0 ≠ A 2 := hA.ne (by decide) (by decide) (by decide)
  have n_o_bs : A 0 ≠ A 3 := hA.ne (by decide) (by decide) (by decide)
  have n_o_rw : A 0 ≠ A 4 := hA.ne (by decide) (by decide) (by decide)
  have n_o_gs : A 0 ≠ A 5 := hA.ne (by decide) (by decide) (by decide)
  have n_o_fa : A 0 ≠ A 6 := hA.ne (by decide) (by decide) (by decide)
  have n_o_ba : A 0 ≠ A 7 := hA.ne (by decide) (by decide) (by decide)
  have n_o_it : A 0 ≠ A 8 := hA.ne (by decide) (by decide) (by decide)
  have n_ts_ps : A 1 ≠ A 2 := hA.ne (by decide) (by decide) (by decide)
  have n_ts_bs : A 1 ≠ A 3 := hA.ne (by decide) (by decide) (by decide)
  have n_ts_rw : A 1 ≠ A 4 := hA.ne (by decide) (by decide) (by decide)
  have n_ts_gs : A 1 ≠ A 5 := hA.ne (by decide) (by decide) (by decide)
  have n_ts_fa : A 1 ≠ A 6 := hA.ne (by decide) (by decide) (by decide)
  have n_ts_ba : A 1 ≠ A 7 := hA.ne (by decide) (by decide) (by decide)
  have n_ts_it : A 1 ≠ A 8 := hA.ne (by decide) (by decide) (by decide)
  have n_ps_bs : A 2 ≠ A 3 := hA.ne (by decide) (by decide) (by decide)
  have n_ps_rw : A 2 ≠ A 4 := hA.ne (by decide) (by decide) (by decide)
  have n_ps_gs : A 2 ≠ A 5 := hA.ne (by decide) (by decide) (by decide)
  have n_ps_fa : A 2 ≠ A 6 := hA.ne (by decide) (by decide) (by decide)
  have n_ps_ba : A 2 ≠ A 7 := hA.ne (by decide) (by decide) (by decide)
  have n_ps_it : A 2 ≠ A 8 := hA.ne (by decide) (by decide) (by decide)
  have n_bs_rw : A 3 ≠ A 4 := hA.ne (by decide) (by decide) (by decide)
  have n_bs_gs : A 3 ≠ A 5 := hA.ne (by decide) (by decide) (by decide)
  have n_bs_fa : A 3 ≠ A 6 := hA.ne (by decide) (by decide) (by decide)
  have n_bs_ba : A 3 ≠ A 7 := hA.ne (by decide) (by decide) (by decide)
  have n_bs_it : A 3 ≠ A 8 := hA.ne (by decide) (by decide) (by decide)
  have n_rw_gs : A 4 ≠ A 5 := hA.ne (by decide) (by decide) (by decide)
  have n_rw_fa : A 4 ≠ A 6 := hA.ne (by decide) (by decide) (by decide)
  have n_rw_ba : A 4 ≠ A 7 := hA.ne (by decide) (by decide) (by decide)
  have n_rw_it : A 4 ≠ A 8 := hA.ne (by decide) (by decide) (by decide)
  have n_gs_fa : A 5 ≠ A 6 := hA.ne (by decide) (by decide) (by decide)
  have n_gs_ba : A 5 ≠ A 7 := hA.ne (by decide) (by decide) (by decide)
  have n_gs_it : A 5 ≠ A 8 := hA.ne (by decide) (by decide) (by decide)
  refine lv_iconst (v := nI 0) E.1.1 E.1.2.1 dX6_allStates_0 rfl ?_
  refine lv_istore_n (lv' := [(1, .int (nI 0)), (0, .ref (A 0))]) E.1.1 E.1.2.1 dX6_allStates_1 rfl hl (by decide) rfl (fun ls hl => ?_)
  refine lv_iconst (v := nI 0) E.1.1 E.1.2.1 dX6_allStates_2 rfl ?_
  refine lv_istore_n (lv' := [(2, .int (nI 0)), (1, .int (nI 0)), (0, .ref (A 0))]) E.1.1 E.1.2.1 dX6_allStates_3 rfl hl (by decide) rfl (fun ls hl => ?_)
  have lp4 : ∀ (k : Nat) (i : Nat) (fr1 : Nat) (pb1 : Nat) (ns1 : Nat) (T1 : Nat → Nat) (P1 : Nat → Nat) (B1 : Nat → Nat → Bool) (rr1 : Nat → Bool) (G1 : Nat → Int32) (f : Nat → va_E) (H : Heap) (locs : List Loc) (ls : Array Slot), (6 - i < k) → (i ≤ 6) → (TP T1 P1) → (AG T P B T1 P1 B1) → (cel L f (A 0) (.inr (6, [.int (nI base), .ref (A 1), .ref (A 2), .ref (A 3), .ref (A 4), .int (nI fr1), .int (nI pb1), .ref (A 5), .int (nI ns1), .ref (A 6), .ref (A 7), .ref (A 8)]))) → (cel L f (A 1) (.inl (cy 0, 84, .inl (fun k => nI (T1 k))))) → (cel L f (A 2) (.inl (cy 0, 84, .inl (fun k => nI (P1 k))))) → (cel L f (A 3) (.inl (cy 1, 252, .inr (.inl (rw3 B1))))) → (cel L f (A 4) (.inl (cy 2, 4096, .inl (fun k => b2i (rr1 k))))) → (cel L f (A 5) (.inl (cy 0, 325, .inl G1))) → (cel L f (A 6) (.inl (cy 0, 65, .inl Fa))) → (cel L f (A 7) (.inl (cy 0, 2, .inl (fun k => nI (kb1 k))))) → (cel L f (A 8) (.inl (cy 2, 2, .inl (fun k => b2i (kp k))))) → (∀ b ∈ L, b ≠ (A 0) → b ≠ (A 1) → b ≠ (A 2) → b ≠ (A 3) → b ≠ (A 4) → b ≠ (A 5) → f b = f0 b) → (WW D (AW L sz) s.heap L f H locs) → (lv_has ls 3 [(2, .int (nI i)), (1, .int (nI (fsum nn i))), (0, .ref (A 0))]) → W p l e R s m args below meth c H locs 0 0 Q (F0 m 4 ls []) := by
    intro k
    induction k with
    | zero => intro _ _ _ _ _ _ _ _ _ _ _ _ _ hk; exact absurd hk (Nat.not_lt_zero _)
    | succ k ih4 =>
      intro i fr1 pb1 ns1 T1 P1 B1 rr1 G1 f H locs ls hk hi hTP1 hAG1 h_o h_ts h_ps h_bs h_rw h_gs h_fa h_ba h_it hF hw hl
      refine lv_iload_n E.1.1 E.1.2.1 dX6_allStates_4 rfl (lv_at hl 0 rfl) ?_
      refine lv_bipush (v := nI 6) E.1.1 E.1.2.1 dX6_allStates_5 rfl ?_
      refine k_ge (tgt := 28) E dX6_allStates_7 (by decide) (by omega) (by omega) (fun c7 => ?_) (fun c7 => ?_)
      · refine lv_iload_n E.1.1 E.1.2.1 dX6_allStates_28 rfl (lv_at hl 1 rfl) ?_
        exact k_miret E hQ hlk hr hw (Nat.le_of_ble_eq_true rfl) (Nat.le_of_ble_eq_true rfl) (⟨rfl, fun b hb h => hF b hb (h 0 (by decide)) (h 1 (by decide)) (h 2 (by decide)) (h 3 (by decide)) (h 4 (by decide)) (h 5 (by decide)), ⟨hB, _, _, _, _, _, _, _, _, _, _, ⟨h_o, h_ts, h_ps, h_bs, h_rw, h_gs, h_fa, h_ba, h_it⟩, hTP1, hMS.ag hAG1, hMK.ag (fun x h1 _ => hAG1 x h1)⟩, by rw [show i = 6 by omega]⟩) dX6_allStates_29
      · refine lv_aload_n E.1.1 E.1.2.1 dX6_allStates_10 rfl (lv_at hl 2 rfl) ?_
        refine lv_iload_n E.1.1 E.1.2.1 dX6_allStates_11 rfl (lv_at hl 0 rfl) ?_
        refine k_mv hw (va_runV (As := [.int (nI i)]) (rest := []) E.1 (m_layMachine l D cy L f H.size A base fr1 pb1 ns1 T1 P1 B1 rr1 G1 hA hTP1 i (SS i) (by omega) (by omega) (by omega) (hMS.ag hAG1 i (by omega)).1 h_o h_ts h_ps h_bs h_rw h_gs) ⟨callB_of 1 E.1.2.2.2.2 (gd_own w3_71) rfl rfl rfl (E.1.2.2.2.2 _ w1_10) (E.1.2.2.2.2 _ w3_68) hd_X6_layMachine (by rw [hR]; exact ⟨Nat.le_of_ble_eq_true rfl, Nat.le_of_ble_eq_true rfl⟩), E.1.2.2.2.2 _ w3_70, E.1.2.2.2.2 _ ws_31⟩ (pw_preV (q := (RX6, TX6, 12)) E.2 hw h_o rfl) rfl rfl hl.1 rfl (lv_room (Nat.le_of_ble_eq_true rfl)) dX6_allStates_12 (by rw [hR]; exact ⟨Nat.le_of_ble_eq_true rfl, Nat.le_of_ble_eq_true rfl⟩)) (fun L1 f H locs hp hw => ?_)
        obtain ⟨hL1, hfr, fr2, pb2, ns2, T2, P2, B2, rr2, G2, h_o, h_ts, h_ps, h_bs, h_rw, h_gs, hTP2, hAG2, hS18, hns0, hns65, hML⟩ := hp
        have hL1 : L = L1 := hL1
        subst hL1
        have h_o : cel L f (A 0) (.inr (6, [.int (nI base), .ref (A 1), .ref (A 2), .ref (A 3), .ref (A 4), .int (nI fr2), .int (nI pb2), .ref (A 5), .int (nI ns2), .ref (A 6), .ref (A 7), .ref (A 8)])) := h_o
        have h_ts : cel L f (A 1) (.inl (cy 0, 84, .inl (fun k => nI (T2 k)))) := h_ts
        have h_ps : cel L f (A 2) (.inl (cy 0, 84, .inl (fun k => nI (P2 k)))) := h_ps
        have h_bs : cel L f (A 3) (.inl (cy 1, 252, .inr (.inl (rw3 B2)))) := h_bs
        have h_rw : cel L f (A 4) (.inl (cy 2, 4096, .inl (fun k => b2i (rr2 k)))) := h_rw
        have h_gs : cel L f (A 5) (.inl (cy 0, 325, .inl G2)) := h_gs
        have h_fa := h_fa.keep (fun _ h => h) (hfr _ h_fa.1 (Ne.symm n_o_fa) (Ne.symm n_ts_fa) (Ne.symm n_ps_fa) (Ne.symm n_bs_fa) (Ne.symm n_rw_fa) (Ne.symm n_gs_fa))
        have h_ba := h_ba.keep (fun _ h => h) (hfr _ h_ba.1 (Ne.symm n_o_ba) (Ne.symm n_ts_ba) (Ne.symm n_ps_ba) (Ne.symm n_bs_ba) (Ne.symm n_rw_ba) (Ne.symm n_gs_ba))
        have h_it := h_it.keep (fun _ h => h) (hfr _ h_it.1 (Ne.symm n_o_it) (Ne.symm n_ts_it) (Ne.symm n_ps_it) (Ne.symm n_bs_it) (Ne.symm n_rw_it) (Ne.symm n_gs_it))
        have hF : ∀ b ∈ L, b ≠ (A 0) → b ≠ (A 1) → b ≠ (A 2) → b ≠ (A 3) → b ≠ (A 4) → b ≠ (A 5) → f b = f0 b := fun b hb h0 h1 h2 h3 h4 h5 => (hfr b (hLs b hb) h0 h1 h2 h3 h4 h5).trans (hF b hb h0 h1 h2 h3 h4 h5)
        have hAG3 : AG T P B T2 P2 B2 := fun x hx => by obtain ⟨a1, a2, a3⟩ := hAG1 x hx; obtain ⟨b1, b2, b3⟩ := hAG2 x hx; exact ⟨b1.trans a1, b2.trans a2, b3.trans a3⟩
        have hns2 := (hML.small (by omega) (hMS i (by omega)).1.fits (hnn i (by omega))).1
        refine lv_iload_n E.1.1 E.1.2.1 dX6_allStates_15 rfl (lv_at hl 1 rfl) ?_
        refine lv_aload_n E.1.1 E.1.2.1 dX6_allStates_16 rfl (lv_at hl 2 rfl) ?_
        refine k_get (v := .int (nI ns2)) E inlX6 rfl 8 (by decide) w3_0 rfl hw h_o rfl dX6_allStates_17 ?_
        refine k_add E dX6_allStates_20 ?_
        refine lv_istore_n (lv' := [(1, .int (nI ((fsum nn i) + ns2))), (2, .int (nI i)), (0, .ref (A 0))]) E.1.1 E.1.2.1 dX6_allStates_21 rfl hl (by decide) rfl (fun ls hl => ?_)
        refine lv_iinc (v := nI (i + 1)) (lv' := [(2, .int (nI (i + 1))), (1, .int (nI ((fsum nn i) + ns2))), (0, .ref (A 0))]) E.1.1 E.1.2.1 dX6_allStates_22 hl (k := 1) rfl (nI_1 _) (by decide) rfl (fun ls hl => ?_)
        refine lv_goto (tgt := 4) E.1.1 E.1.2.1 dX6_allStates_25 (by decide) ?_
        rw [hns2] at hl
        exact ih4  (i + 1) fr2 pb2 ns2 T2 P2 B2 rr2 G2 f H locs ls (by omega) (by omega) (hTP2) (hAG3) h_o h_ts h_ps h_bs h_rw h_gs h_fa h_ba h_it hF hw (lv_sub hl [0, 1, 2] rfl)
  exact lp4 (6 - 0 + 1) 0 fr pb ns T P B rr G f H locs ls (Nat.lt_succ_self _) (by omega) (hTP) (fun _ _ => ⟨rfl, rfl, rfl⟩) h_o h_ts h_ps h_bs h_rw h_gs h_fa h_ba h_it hF hw (lv_sub hl [0, 1, 2] rfl)

set_option maxHeartbeats 4000000 in
set_option maxRecDepth 100000 in
theorem m_count (l : Launch) (D : va_G) (cy : Nat → ClassId) (L : List Nat) (f0 : Nat → va_E) (sz : Nat) (A : Nat → Nat) (base : Nat) (SS : Nat → Nat → Bool) (kp : Nat → Bool) (kb : Nat → Nat) (KS : Nat → Nat → Nat → Bool) (hA : MAd A) (hN : MoW cy L f0 A base SS kp kb KS) (what : Int32) : Met l yX6_count (.code yX6_count cX6_count 7 (Option.some FieldType.int) :: wsL_law) { frames := 6, cells := 0, slots := 0, locals := 137 } (va_Pc [.ref (A 0), .int what] (PW D cy L f0 sz)) (va_Qi (fun (r : Int32) (u : List Nat × (Nat → va_E)) => L = u.1 ∧ (∀ b ∈ L, (∀ i, i < 9 → b ≠ A i) → u.2 b = f0 b) ∧ MoW cy L u.2 A base SS kp kb KS ∧ rd_count base SS kp what r) (PB D (AW L sz)) (AW L sz)) 0 0 (AW L sz) := by
  refine m_start (by decide) (Nat.le_of_ble_eq_true rfl) ?_
  intro p e R Q s m args below meth c ls hsz hR hQ E hr hlk hnm hw hl
  have hl : lv_has ls 7 [(0, .ref (A 0)), (1, .int what)] := hl
  obtain ⟨H, hH⟩ : ∃ X, X = s.heap := ⟨_, rfl⟩
  obtain ⟨locs, hlocs⟩ : ∃ X : List Loc, X = [] := ⟨_, rfl⟩
  have hw0 := hw
  obtain ⟨hB, fr, pb, ns, T, P, B, rr, G, Fa, kb1, ⟨h_o, h_ts, h_ps, h_bs, h_rw, h_gs, h_fa, h_ba, h_it⟩, hTP, hMS, hMK⟩ := hN
  have hb2 := hB.two
  obtain ⟨f, hf0⟩ : ∃ X, X = f0 := ⟨_, rfl⟩
  rw [← hf0] at h_o h_ts h_ps h_bs h_rw h_gs h_fa h_ba h_it
  have hw : WW D (AW L sz) s.heap L f H locs := by rw [hH, hlocs, hf0]; exact hw
  have hF : ∀ b ∈ L, b ≠ (A 0) → b ≠ (A 1) → b ≠ (A 2) → b ≠ (A 3) → b ≠ (A 4) → b ≠ (A 5) → b ≠ (A 6) → b ≠ (A 7) → b ≠ (A 8) → f b = f0 b := fun b hb h0 h1 h2 h3 h4 h5 h6 h7 h8 => by rw [hf0]
  suffices hgo : W p l e R s m args below meth c H locs 0 0 Q (F0 m 0 ls []) by rw [hH, hlocs] at hgo; exact hgo
  clear hH hlocs hw0 hf0
  have hLs : ∀ b ∈ L, b ∈ L := fun _ h => h
  have n_o_ts : A 0 ≠ A 1 := hA.ne (by decide) (by decide) (by decide)
  have n_o_ps : A 0 ≠ A 2 := hA.ne (by decide) (by decide) (by decide)
  have n_o_bs : A 0 ≠ A 3 := hA.ne (by decide) (by decide) (by decide)
  have n_o_rw : A 0 ≠ A 4 := hA.ne (by decide) (by decide) (by decide)
  have n_o_gs : A 0 ≠ A 5 := hA.ne (by decide) (by decide) (by decide)
  have n_o_fa : A 0 ≠ A 6 := hA.ne (by decide) (by decide) (by decide)
  have n_o_ba : A 0 ≠ A 7 := hA.ne (by decide) (by decide) (by decide)
  have n_o_it : A 0 ≠ A 8 := hA.ne (by decide) (by decide) (by decide)
  have n_ts_ps : A 1 ≠ A 2 := hA.ne (by decide) (by decide) (by decide)
  have n_ts_bs : A 1 ≠ A 3 := hA.ne (by decide) (by decide) (by decide)
  have n_ts_rw : A 1 ≠ A 4 := hA.ne (by decide) (by decide) (by decide)
  have n_ts_gs : A 1 ≠ A 5 := hA.ne (by decide) (by decide) (by decide)
  have n_ts_fa : A 1 ≠ A 6 := hA.ne (by decide) (by decide) (by decide)
  have n_ts_ba : A 1 ≠ A 7 := hA.ne (by decide) (by decide) (by decide)
  have n_ts_it : A 1 ≠ A 8 := hA.ne (by decide) (by decide) (by decide)
  have n_ps_bs : A 2 ≠ A 3 := hA.ne (by decide) (by decide) (by decide)
  have n_ps_rw : A 2 ≠ A 4 := hA.ne (by decide) (by decide) (by decide)
  have n_ps_gs : A 2 ≠ A 5 := hA.ne (by decide) (by decide) (by decide)
  have n_ps_fa : A 2 ≠ A 6 := hA.ne (by decide) (by decide) (by decide)
  have n_ps_ba : A 2 ≠ A 7 := hA.ne (by decide) (by decide) (by decide)
  have n_ps_it : A 2 ≠ A 8 := hA.ne (by decide) (by decide) (by decide)
  have n_bs_rw : A 3 ≠ A 4 := hA.ne (by decide) (by decide) (by decide)
  have n_bs_gs : A 3 ≠ A 5 := hA.ne (by decide) (by decide) (by decide)
  have n_bs_fa : A 3 ≠ A 6 := hA.ne (by decide) (by decide) (by decide)
  have n_bs_ba : A 3 ≠ A 7 := hA.ne (by decide) (by decide) (by decide)
  have n_bs_it : A 3 ≠ A 8 := hA.ne (by decide) (by decide) (by decide)
  have n_rw_gs : A 4 ≠ A 5 := hA.ne (by decide) (by decide) (by decide)
  have n_rw_fa : A 4 ≠ A 6 := hA.ne (by decide) (by decide) (by decide)
  have n_rw_ba : A 4 ≠ A 7 := hA.ne (by decide) (by decide) (by decide)
  have n_rw_it : A 4 ≠ A 8 := hA.ne (by decide) (by decide) (by decide)
  have n_gs_fa : A 5 ≠ A 6 := hA.ne (by decide) (by decide) (by decide)
  have n_gs_ba : A 5 ≠ A 7 := hA.ne (by decide) (by decide) (by decide)
  have n_gs_it : A 5 ≠ A 8 := hA.ne (by decide) (by decide) (by decide)
  have n_fa_ba : A 6 ≠ A 7 := hA.ne (by decide) (by decide) (by decide)
  have n_fa_it : A 6 ≠ A 8 := hA.ne (by decide) (by decide) (by decide)
  have n_ba_it : A 7 ≠ A 8 := hA.ne (by decide) (by decide) (by decide)
  obtain ⟨nn, hnn⟩ := nn_ex (base := base) (SS := SS) (fun j hj => (hMS j hj).2)
  refine lv_iload_n E.1.1 E.1.2.1 dX6_count_0 rfl (lv_at hl 1 rfl) ?_
  refine lv_iconst (v := nI 0) E.1.1 E.1.2.1 dX6_count_1 rfl ?_
  refine lv_iconst (v := nI 4) E.1.1 E.1.2.1 dX6_count_2 rfl ?_
  refine k_ri (va_runS (As := [.int what, .int (nI 0), .int (nI 4)]) (rest := []) E.1 (m_in l D cy L f H.size what (nI 0) (nI 4)) ⟨callB_of 3 E.1.2.2.2.2 (gd_own w3_43) rfl rfl rfl (E.1.2.2.2.2 _ w1_10) (E.1.2.2.2.2 _ w3_41) hd_X6_in (by rw [hR]; exact ⟨Nat.le_of_ble_eq_true rfl, Nat.le_of_ble_eq_true rfl⟩), E.1.2.2.2.2 _ w3_42⟩ (pw_pre E.2 hw) rfl rfl hl.1 rfl (lv_room (Nat.le_of_ble_eq_true rfl)) dX6_count_3 ⟨Nat.zero_le _, Nat.zero_le _⟩) ?_
  refine k_if1 (tgt := 12) E dX6_count_6 (by decide) (fun c6 => ?_) (fun c6 => ?_)
  · obtain ⟨wh, hwh, rfl⟩ := in_ex (by decide) c6
    refine lv_iconst (v := nI 0) E.1.1 E.1.2.1 dX6_count_12 rfl ?_
    refine lv_istore_n (lv' := [(2, .int (nI 0)), (0, .ref (A 0)), (1, .int (nI wh))]) E.1.1 E.1.2.1 dX6_count_13 rfl hl (by decide) rfl (fun ls hl => ?_)
    refine lv_iconst (v := nI 0) E.1.1 E.1.2.1 dX6_count_14 rfl ?_
    refine lv_istore_n (lv' := [(3, .int (nI 0)), (2, .int (nI 0)), (0, .ref (A 0)), (1, .int (nI wh))]) E.1.1 E.1.2.1 dX6_count_15 rfl hl (by decide) rfl (fun ls hl => ?_)
    refine lv_iconst (v := nI 0) E.1.1 E.1.2.1 dX6_count_16 rfl ?_
    refine lv_istore (lv' := [(4, .int (nI 0)), (3, .int (nI 0)), (2, .int (nI 0)), (0, .ref (A 0)), (1, .int (nI wh))]) E.1.1 E.1.2.1 dX6_count_17 hl (by decide) rfl (fun ls hl => ?_)
    have lp19 : ∀ (k : Nat) (i : Nat) (f : Nat → va_E) (H : Heap) (locs : List Loc) (ls : Array Slot), (6 - i < k) → (i ≤ 6) → (cel L f (A 0) (.inr (6, [.int (nI base), .ref (A 1), .ref (A 2), .ref (A 3), .ref (A 4), .int (nI fr), .int (nI pb), .ref (A 5), .int (nI ns), .ref (A 6), .ref (A 7), .ref (A 8)]))) → (cel L f (A 1) (.inl (cy 0, 84, .inl (fun k => nI (T k))))) → (cel L f (A 2) (.inl (cy 0, 84, .inl (fun k => nI (P k))))) → (cel L f (A 3) (.inl (cy 1, 252, .inr (.inl (rw3 B))))) → (cel L f (A 4) (.inl (cy 2, 4096, .inl (fun k => b2i (rr k))))) → (cel L f (A 5) (.inl (cy 0, 325, .inl G))) → (cel L f (A 6) (.inl (cy 0, 65, .inl Fa))) → (cel L f (A 7) (.inl (cy 0, 2, .inl (fun k => nI (kb1 k))))) → (cel L f (A 8) (.inl (cy 2, 2, .inl (fun k => b2i (kp k))))) → (∀ b ∈ L, b ≠ (A 0) → b ≠ (A 1) → b ≠ (A 2) → b ≠ (A 3) → b ≠ (A 4) → b ≠ (A 5) → b ≠ (A 6) → b ≠ (A 7) → b ≠ (A 8) → f b = f0 b) → (WW D (AW L sz) s.heap L f H locs) → (lv_has ls 7 [(4, .int (nI i)), (2, .int (nI (fa_cnt (fun j => dB (∃ n, SS j n = true)) i))), (3, .int (nI (fa_cnt (fun j => dB (∀ i, i < j → SS i ≠ SS j)) i))), (0, .ref (A 0)), (1, .int (nI wh))]) → W p l e R s m args below meth c H locs 0 0 Q (F0 m 19 ls []) := by
      intro k
      induction k with
      | zero => intro _ _ _ _ _ hk; exact absurd hk (Nat.not_lt_zero _)
      | succ k ih19 =>
        intro i f H locs ls hk hi h_o h_ts h_ps h_bs h_rw h_gs h_fa h_ba h_it hF hw hl
        refine lv_iload E.1.1 E.1.2.1 dX6_count_19 (lv_at hl 0 rfl) ?_
        refine lv_bipush (v := nI 6) E.1.1 E.1.2.1 dX6_count_21 rfl ?_
        refine k_ge (tgt := 141) E dX6_count_23 (by decide) (by omega) (by omega) (fun c23 => ?_) (fun c23 => ?_)
        · refine lv_iload_n E.1.1 E.1.2.1 dX6_count_141 rfl (lv_at hl 4 rfl) ?_
          refine k_z1 (tgt := 149) E dX6_count_142 (by decide) (by omega) (fun c142 => ?_) (fun c142 => ?_)
          · refine lv_iload_n E.1.1 E.1.2.1 dX6_count_149 rfl (lv_at hl 4 rfl) ?_
            refine lv_iconst (v := nI 1) E.1.1 E.1.2.1 dX6_count_150 rfl ?_
            refine k_ne (tgt := 158) E dX6_count_151 (by decide) (by omega) (by omega) (fun c151 => ?_) (fun c151 => ?_)
            · refine lv_iload_n E.1.1 E.1.2.1 dX6_count_158 rfl (lv_at hl 4 rfl) ?_
              refine lv_iconst (v := nI 2) E.1.1 E.1.2.1 dX6_count_159 rfl ?_
              refine k_ne (tgt := 170) E dX6_count_160 (by decide) (by omega) (by omega) (fun c160 => ?_) (fun c160 => ?_)
              · refine lv_iload_n E.1.1 E.1.2.1 dX6_count_170 rfl (lv_at hl 4 rfl) ?_
                refine lv_iconst (v := nI 3) E.1.1 E.1.2.1 dX6_count_171 rfl ?_
                refine k_ne (tgt := 182) E dX6_count_172 (by decide) (by omega) (by omega) (fun c172 => ?_) (fun c172 => ?_)
                · refine lv_aload_n E.1.1 E.1.2.1 dX6_count_182 rfl (lv_at hl 3 rfl) ?_
                  refine k_get (v := .ref (A 8)) E inlX6 rfl 11 (by decide) w3_3 rfl hw h_o rfl dX6_count_183 ?_
                  refine lv_iconst (v := nI 0) E.1.1 E.1.2.1 dX6_count_186 rfl ?_
                  refine k_zald E hw (v := b2i (kp 0)) h_it (by omega) (by omega) (rfl) dX6_count_187 ?_
                  refine k_if0 (tgt := 195) E dX6_count_188 (by decide) (fun c188 => ?_) (fun c188 => ?_)
                  · refine lv_iconst (v := nI 0) E.1.1 E.1.2.1 dX6_count_195 rfl ?_
                    refine lv_aload_n E.1.1 E.1.2.1 dX6_count_196 rfl (lv_at hl 3 rfl) ?_
                    refine k_get (v := .ref (A 8)) E inlX6 rfl 11 (by decide) w3_3 rfl hw h_o rfl dX6_count_197 ?_
                    refine lv_iconst (v := nI 1) E.1.1 E.1.2.1 dX6_count_200 rfl ?_
                    refine k_zald E hw (v := b2i (kp 1)) h_it (by omega) (by omega) (rfl) dX6_count_201 ?_
                    refine k_if0 (tgt := 209) E dX6_count_202 (by decide) (fun c202 => ?_) (fun c202 => ?_)
                    · refine lv_iconst (v := nI 0) E.1.1 E.1.2.1 dX6_count_209 rfl ?_
                      refine k_add E dX6_count_210 ?_
                      exact k_miret E hQ hlk hr hw (Nat.le_of_ble_eq_true rfl) (Nat.le_of_ble_eq_true rfl) (⟨rfl, fun b hb h => hF b hb (h 0 (by decide)) (h 1 (by decide)) (h 2 (by decide)) (h 3 (by decide)) (h 4 (by decide)) (h 5 (by decide)) (h 6 (by decide)) (h 7 (by decide)) (h 8 (by decide)), ⟨hB, _, _, _, _, _, _, _, _, _, _, ⟨h_o, h_ts, h_ps, h_bs, h_rw, h_gs, h_fa, h_ba, h_it⟩, hTP, hMS, hMK⟩, by unfold rd_count; rw [if_neg (by rw [in_t (by decide) hwh]; decide), ix_nI (by omega)]; exact Or.inr (Or.inr (Or.inr (Or.inr (⟨by omega, by rw [c188, c202]; rfl⟩))))⟩) dX6_count_211
                    · refine lv_iconst (v := nI 2) E.1.1 E.1.2.1 dX6_count_205 rfl ?_
                      refine lv_goto (tgt := 210) E.1.1 E.1.2.1 dX6_count_206 (by decide) ?_
                      refine k_add E dX6_count_210 ?_
                      exact k_miret E hQ hlk hr hw (Nat.le_of_ble_eq_true rfl) (Nat.le_of_ble_eq_true rfl) (⟨rfl, fun b hb h => hF b hb (h 0 (by decide)) (h 1 (by decide)) (h 2 (by decide)) (h 3 (by decide)) (h 4 (by decide)) (h 5 (by decide)) (h 6 (by decide)) (h 7 (by decide)) (h 8 (by decide)), ⟨hB, _, _, _, _, _, _, _, _, _, _, ⟨h_o, h_ts, h_ps, h_bs, h_rw, h_gs, h_fa, h_ba, h_it⟩, hTP, hMS, hMK⟩, by unfold rd_count; rw [if_neg (by rw [in_t (by decide) hwh]; decide), ix_nI (by omega)]; exact Or.inr (Or.inr (Or.inr (Or.inr (⟨by omega, by rw [c188, c202]; rfl⟩))))⟩) dX6_count_211
                  · refine lv_iconst (v := nI 1) E.1.1 E.1.2.1 dX6_count_191 rfl ?_
                    refine lv_goto (tgt := 196) E.1.1 E.1.2.1 dX6_count_192 (by decide) ?_
                    refine lv_aload_n E.1.1 E.1.2.1 dX6_count_196 rfl (lv_at hl 3 rfl) ?_
                    refine k_get (v := .ref (A 8)) E inlX6 rfl 11 (by decide) w3_3 rfl hw h_o rfl dX6_count_197 ?_
                    refine lv_iconst (v := nI 1) E.1.1 E.1.2.1 dX6_count_200 rfl ?_
                    refine k_zald E hw (v := b2i (kp 1)) h_it (by omega) (by omega) (rfl) dX6_count_201 ?_
                    refine k_if0 (tgt := 209) E dX6_count_202 (by decide) (fun c202 => ?_) (fun c202 => ?_)
                    · refine lv_iconst (v := nI 0) E.1.1 E.1.2.1 dX6_count_209 rfl ?_
                      refine k_add E dX6_count_210 ?_
                      exact k_miret E hQ hlk hr hw (Nat.le_of_ble_eq_true rfl) (Nat.le_of_ble_eq_true rfl) (⟨rfl, fun b hb h => hF b hb (h 0 (by decide)) (h 1 (by decide)) (h 2 (by decide)) (h 3 (by decide)) (h 4 (by decide)) (h 5 (by decide)) (h 6 (by decide)) (h 7 (by decide)) (h 8 (by decide)), ⟨hB, _, _, _, _, _, _, _, _, _, _, ⟨h_o, h_ts, h_ps, h_bs, h_rw, h_gs, h_fa, h_ba, h_it⟩, hTP, hMS, hMK⟩, by unfold rd_count; rw [if_neg (by rw [in_t (by decide) hwh]; decide), ix_nI (by omega)]; exact Or.inr (Or.inr (Or.inr (Or.inr (⟨by omega, by rw [c188, c202]; rfl⟩))))⟩) dX6_count_211
                    · refine lv_iconst (v := nI 2) E.1.1 E.1.2.1 dX6_count_205 rfl ?_
                      refine lv_goto (tgt := 210) E.1.1 E.1.2.1 dX6_count_206 (by decide) ?_
                      refine k_add E dX6_count_210 ?_
                      exact k_miret E hQ hlk hr hw (Nat.le_of_ble_eq_true rfl) (Nat.le_of_ble_eq_true rfl) (⟨rfl, fun b hb h => hF b hb (h 0 (by decide)) (h 1 (by decide)) (h 2 (by decide)) (h 3 (by decide)) (h 4 (by decide)) (h 5 (by decide)) (h 6 (by decide)) (h 7 (by decide)) (h 8 (by decide)), ⟨hB, _, _, _, _, _, _, _, _, _, _, ⟨h_o, h_ts, h_ps, h_bs, h_rw, h_gs, h_fa, h_ba, h_it⟩, hTP, hMS, hMK⟩, by unfold rd_count; rw [if_neg (by rw [in_t (by decide) hwh]; decide), ix_nI (by omega)]; exact Or.inr (Or.inr (Or.inr (Or.inr (⟨by omega, by rw [c188, c202]; rfl⟩))))⟩) dX6_count_211
                · refine lv_aload_n E.1.1 E.1.2.1 dX6_count_175 rfl (lv_at hl 3 rfl) ?_
                  refine k_mi hw (va_runV (As := []) (rest := []) E.1 (m_allStates l D cy L f H.size A base SS kp kb KS hA ⟨hB, _, _, _, _, _, _, _, _, _, _, ⟨h_o, h_ts, h_ps, h_bs, h_rw, h_gs, h_fa, h_ba, h_it⟩, hTP, hMS, hMK⟩ nn hnn) ⟨callB_of 0 E.1.2.2.2.2 (gd_own w3_171) rfl rfl rfl (E.1.2.2.2.2 _ w1_10) (E.1.2.2.2.2 _ w3_168) hd_X6_allStates (by rw [hR]; exact ⟨Nat.le_of_ble_eq_true rfl, Nat.le_of_ble_eq_true rfl⟩), E.1.2.2.2.2 _ w3_170, E.1.2.2.2.2 _ ws_40⟩ (pw_preV (q := (RX6, TX6, 12)) E.2 hw h_o rfl) rfl rfl hl.1 rfl (lv_room (Nat.le_of_ble_eq_true rfl)) dX6_count_176 (by rw [hR]; exact ⟨Nat.le_of_ble_eq_true rfl, Nat.le_of_ble_eq_true rfl⟩)) (fun r L1 f H locs hp hw => ?_)
                  obtain ⟨hL1, hfr, ⟨hB3, fr3, pb3, ns3, T3, P3, B3, rr3, G3, Fa3, kb3, hMC3, hTP3, hMS3, hMK3⟩, hr3⟩ := hp
                  have hL1 : L = L1 := hL1
                  subst hL1
                  have hr3 : r = _ := hr3
                  subst hr3
                  have hF : ∀ b ∈ L, b ≠ (A 0) → b ≠ (A 1) → b ≠ (A 2) → b ≠ (A 3) → b ≠ (A 4) → b ≠ (A 5) → b ≠ (A 6) → b ≠ (A 7) → b ≠ (A 8) → f b = f0 b := fun b hb h0 h1 h2 h3 h4 h5 h6 h7 h8 => (hfr b (hLs b hb) (fun i hi => by rcases (show i = 0 ∨ i = 1 ∨ i = 2 ∨ i = 3 ∨ i = 4 ∨ i = 5 ∨ i = 6 ∨ i = 7 ∨ i = 8 by omega) with rfl | rfl | rfl | rfl | rfl | rfl | rfl | rfl | rfl <;> assumption)).trans (hF b hb h0 h1 h2 h3 h4 h5 h6 h7 h8)
                  refine lv_goto (tgt := 211) E.1.1 E.1.2.1 dX6_count_179 (by decide) ?_
                  exact k_miret E hQ hlk hr hw (Nat.le_of_ble_eq_true rfl) (Nat.le_of_ble_eq_true rfl) (⟨rfl, fun b hb h => hF b hb (h 0 (by decide)) (h 1 (by decide)) (h 2 (by decide)) (h 3 (by decide)) (h 4 (by decide)) (h 5 (by decide)) (h 6 (by decide)) (h 7 (by decide)) (h 8 (by decide)), ⟨hB3, fr3, pb3, ns3, T3, P3, B3, rr3, G3, Fa3, kb3, hMC3, hTP3, hMS3, hMK3⟩, by unfold rd_count; rw [if_neg (by rw [in_t (by decide) hwh]; decide), ix_nI (by omega)]; exact Or.inr (Or.inr (Or.inr (Or.inl ⟨by omega, nn, hnn, rfl⟩)))⟩) dX6_count_211
              · refine lv_aload_n E.1.1 E.1.2.1 dX6_count_163 rfl (lv_at hl 3 rfl) ?_
                refine k_get (v := .int (nI base)) E inlX6 rfl 0 (by decide) w2_232 rfl hw h_o rfl dX6_count_164 ?_
                refine lv_goto (tgt := 211) E.1.1 E.1.2.1 dX6_count_167 (by decide) ?_
                exact k_miret E hQ hlk hr hw (Nat.le_of_ble_eq_true rfl) (Nat.le_of_ble_eq_true rfl) (⟨rfl, fun b hb h => hF b hb (h 0 (by decide)) (h 1 (by decide)) (h 2 (by decide)) (h 3 (by decide)) (h 4 (by decide)) (h 5 (by decide)) (h 6 (by decide)) (h 7 (by decide)) (h 8 (by decide)), ⟨hB, _, _, _, _, _, _, _, _, _, _, ⟨h_o, h_ts, h_ps, h_bs, h_rw, h_gs, h_fa, h_ba, h_it⟩, hTP, hMS, hMK⟩, by unfold rd_count; rw [if_neg (by rw [in_t (by decide) hwh]; decide), ix_nI (by omega)]; exact Or.inr (Or.inr (Or.inl ⟨by omega, rfl⟩))⟩) dX6_count_211
            · refine lv_iload_n E.1.1 E.1.2.1 dX6_count_154 rfl (lv_at hl 2 rfl) ?_
              refine lv_goto (tgt := 211) E.1.1 E.1.2.1 dX6_count_155 (by decide) ?_
              exact k_miret E hQ hlk hr hw (Nat.le_of_ble_eq_true rfl) (Nat.le_of_ble_eq_true rfl) (⟨rfl, fun b hb h => hF b hb (h 0 (by decide)) (h 1 (by decide)) (h 2 (by decide)) (h 3 (by decide)) (h 4 (by decide)) (h 5 (by decide)) (h 6 (by decide)) (h 7 (by decide)) (h 8 (by decide)), ⟨hB, _, _, _, _, _, _, _, _, _, _, ⟨h_o, h_ts, h_ps, h_bs, h_rw, h_gs, h_fa, h_ba, h_it⟩, hTP, hMS, hMK⟩, by unfold rd_count; rw [if_neg (by rw [in_t (by decide) hwh]; decide), ix_nI (by omega)]; exact Or.inr (Or.inl ⟨by omega, by rw [show i = 6 by omega]⟩)⟩) dX6_count_211
          · refine lv_iload_n E.1.1 E.1.2.1 dX6_count_145 rfl (lv_at hl 1 rfl) ?_
            refine lv_goto (tgt := 211) E.1.1 E.1.2.1 dX6_count_146 (by decide) ?_
            exact k_miret E hQ hlk hr hw (Nat.le_of_ble_eq_true rfl) (Nat.le_of_ble_eq_true rfl) (⟨rfl, fun b hb h => hF b hb (h 0 (by decide)) (h 1 (by decide)) (h 2 (by decide)) (h 3 (by decide)) (h 4 (by decide)) (h 5 (by decide)) (h 6 (by decide)) (h 7 (by decide)) (h 8 (by decide)), ⟨hB, _, _, _, _, _, _, _, _, _, _, ⟨h_o, h_ts, h_ps, h_bs, h_rw, h_gs, h_fa, h_ba, h_it⟩, hTP, hMS, hMK⟩, by unfold rd_count; rw [if_neg (by rw [in_t (by decide) hwh]; decide), ix_nI (by omega)]; exact Or.inl ⟨by omega, by rw [show i = 6 by omega]⟩⟩) dX6_count_211
        · refine lv_iload_n E.1.1 E.1.2.1 dX6_count_26 rfl (lv_at hl 1 rfl) ?_
          refine lv_aload_n E.1.1 E.1.2.1 dX6_count_27 rfl (lv_at hl 3 rfl) ?_
          refine k_get (v := .ref (A 3)) E inlX6 rfl 3 (by decide) w2_235 rfl hw h_o rfl dX6_count_28 ?_
          refine lv_iconst (v := nI 3) E.1.1 E.1.2.1 dX6_count_31 rfl ?_
          refine lv_iload E.1.1 E.1.2.1 dX6_count_32 (lv_at hl 0 rfl) ?_
          refine k_mul E dX6_count_34 ?_
          refine k_lald E hw (v := wd (B i) 0) h_bs (by omega) (by omega) (rw3_at' B i (k := 0) (by decide)) dX6_count_35 ?_
          refine lv_lconst (v := 0) E.1.1 E.1.2.1 dX6_count_36 rfl ?_
          refine W.lcmp E.1.1 E.1.2.1 dX6_count_37 ?_
          refine lv_if_ne (tgt := 73) E.1.1 E.1.2.1 dX6_count_38 (by decide) (fun c38 => ?_) (fun c38 => ?_)
          · refine lv_iconst (v := nI 1) E.1.1 E.1.2.1 dX6_count_73 rfl ?_
            refine lv_goto (tgt := 78) E.1.1 E.1.2.1 dX6_count_74 (by decide) ?_
            refine k_add E dX6_count_78 ?_
            refine k_top E (nI (fa_cnt (fun j => dB (∃ n, SS j n = true)) (i + 1))) (by rw [fa_cnt_yes (p := (fun j => dB (∃ n, SS j n = true))) (n := i) (dB_t (Classical.not_not.mp (fun q => c38 ((lg_cmp_eq _ _).mpr ((any_wd (hMS i (by omega)).1).mpr q).1))))]) ?_
            refine lv_istore_n (lv' := [(2, .int (nI (fa_cnt (fun j => dB (∃ n, SS j n = true)) (i + 1)))), (4, .int (nI i)), (3, .int (nI (fa_cnt (fun j => dB (∀ i, i < j → SS i ≠ SS j)) i))), (0, .ref (A 0)), (1, .int (nI wh))]) E.1.1 E.1.2.1 dX6_count_79 rfl hl (by decide) rfl (fun ls hl => ?_)
            refine lv_iconst (v := nI 1) E.1.1 E.1.2.1 dX6_count_80 rfl ?_
            refine k_top E (b2i (dB (∀ y, y < 0 → SS y ≠ SS i))) (by rw [dB_t (fun y hy => absurd hy (by omega))]; rfl) ?_
            refine lv_istore (lv' := [(5, .int (b2i (dB (∀ y, y < 0 → SS y ≠ SS i)))), (2, .int (nI (fa_cnt (fun j => dB (∃ n, SS j n = true)) (i + 1)))), (4, .int (nI i)), (3, .int (nI (fa_cnt (fun j => dB (∀ i, i < j → SS i ≠ SS j)) i))), (0, .ref (A 0)), (1, .int (nI wh))]) E.1.1 E.1.2.1 dX6_count_81 hl (by decide) rfl (fun ls hl => ?_)
            refine lv_iconst (v := nI 0) E.1.1 E.1.2.1 dX6_count_83 rfl ?_
            refine lv_istore (lv' := [(6, .int (nI 0)), (5, .int (b2i (dB (∀ y, y < 0 → SS y ≠ SS i)))), (2, .int (nI (fa_cnt (fun j => dB (∃ n, SS j n = true)) (i + 1)))), (4, .int (nI i)), (3, .int (nI (fa_cnt (fun j => dB (∀ i, i < j → SS i ≠ SS j)) i))), (0, .ref (A 0)), (1, .int (nI wh))]) E.1.1 E.1.2.1 dX6_count_84 hl (by decide) rfl (fun ls hl => ?_)
            have lp86 : ∀ (k : Nat) (q1 : Nat) (f : Nat → va_E) (H : Heap) (locs : List Loc) (ls : Array Slot), (i - q1 < k) → (q1 ≤ i) → (cel L f (A 0) (.inr (6, [.int (nI base), .ref (A 1), .ref (A 2), .ref (A 3), .ref (A 4), .int (nI fr), .int (nI pb), .ref (A 5), .int (nI ns), .ref (A 6), .ref (A 7), .ref (A 8)]))) → (cel L f (A 1) (.inl (cy 0, 84, .inl (fun k => nI (T k))))) → (cel L f (A 2) (.inl (cy 0, 84, .inl (fun k => nI (P k))))) → (cel L f (A 3) (.inl (cy 1, 252, .inr (.inl (rw3 B))))) → (cel L f (A 4) (.inl (cy 2, 4096, .inl (fun k => b2i (rr k))))) → (cel L f (A 5) (.inl (cy 0, 325, .inl G))) → (cel L f (A 6) (.inl (cy 0, 65, .inl Fa))) → (cel L f (A 7) (.inl (cy 0, 2, .inl (fun k => nI (kb1 k))))) → (cel L f (A 8) (.inl (cy 2, 2, .inl (fun k => b2i (kp k))))) → (∀ b ∈ L, b ≠ (A 0) → b ≠ (A 1) → b ≠ (A 2) → b ≠ (A 3) → b ≠ (A 4) → b ≠ (A 5) → b ≠ (A 6) → b ≠ (A 7) → b ≠ (A 8) → f b = f0 b) → (WW D (AW L sz) s.heap L f H locs) → (lv_has ls 7 [(6, .int (nI q1)), (5, .int (b2i (dB (∀ y, y < q1 → SS y ≠ SS i)))), (4, .int (nI i)), (2, .int (nI (fa_cnt (fun j => dB (∃ n, SS j n = true)) (i + 1)))), (3, .int (nI (fa_cnt (fun j => dB (∀ i, i < j → SS i ≠ SS j)) i))), (0, .ref (A 0)), (1, .int (nI wh))]) → W p l e R s m args below meth c H locs 0 0 Q (F0 m 86 ls []) := by
              intro k
              induction k with
              | zero => intro _ _ _ _ _ hk; exact absurd hk (Nat.not_lt_zero _)
              | succ k ih86 =>
                intro q1 f H locs ls hk hq1 h_o h_ts h_ps h_bs h_rw h_gs h_fa h_ba h_it hF hw hl
                refine lv_iload E.1.1 E.1.2.1 dX6_count_86 (lv_at hl 0 rfl) ?_
                refine lv_iload E.1.1 E.1.2.1 dX6_count_88 (lv_at hl 2 rfl) ?_
                refine k_ge (tgt := 122) E dX6_count_90 (by decide) (by omega) (by omega) (fun c90 => ?_) (fun c90 => ?_)
                · refine lv_iload_n E.1.1 E.1.2.1 dX6_count_122 rfl (lv_at hl 4 rfl) ?_
                  refine lv_iload E.1.1 E.1.2.1 dX6_count_123 (lv_at hl 1 rfl) ?_
                  refine k_if0 (tgt := 132) E dX6_count_125 (by decide) (fun c125 => ?_) (fun c125 => ?_)
                  · refine lv_iconst (v := nI 0) E.1.1 E.1.2.1 dX6_count_132 rfl ?_
                    refine k_add E dX6_count_133 ?_
                    refine k_top E (nI (fa_cnt (fun j => dB (∀ i, i < j → SS i ≠ SS j)) (i + 1))) (by rw [fa_cnt_no (p := (fun j => dB (∀ i, i < j → SS i ≠ SS j))) (n := i) (dB_f (fun q => absurd (dB_t q) (by rw [show q1 = i by omega] at c125; rw [c125]; decide))), Nat.add_zero]) ?_
                    refine lv_istore_n (lv' := [(3, .int (nI (fa_cnt (fun j => dB (∀ i, i < j → SS i ≠ SS j)) (i + 1)))), (6, .int (nI q1)), (5, .int (b2i (dB (∀ y, y < q1 → SS y ≠ SS i)))), (4, .int (nI i)), (2, .int (nI (fa_cnt (fun j => dB (∃ n, SS j n = true)) (i + 1)))), (0, .ref (A 0)), (1, .int (nI wh))]) E.1.1 E.1.2.1 dX6_count_134 rfl hl (by decide) rfl (fun ls hl => ?_)
                    refine lv_iinc (v := nI (i + 1)) (lv' := [(4, .int (nI (i + 1))), (3, .int (nI (fa_cnt (fun j => dB (∀ i, i < j → SS i ≠ SS j)) (i + 1)))), (6, .int (nI q1)), (5, .int (b2i (dB (∀ y, y < q1 → SS y ≠ SS i)))), (2, .int (nI (fa_cnt (fun j => dB (∃ n, SS j n = true)) (i + 1)))), (0, .ref (A 0)), (1, .int (nI wh))]) E.1.1 E.1.2.1 dX6_count_135 hl (k := 3) rfl (nI_1 _) (by decide) rfl (fun ls hl => ?_)
                    refine lv_goto (tgt := 19) E.1.1 E.1.2.1 dX6_count_138 (by decide) ?_
                    exact ih19  (i + 1) f H locs ls (by omega) (by omega) h_o h_ts h_ps h_bs h_rw h_gs h_fa h_ba h_it hF hw (lv_sub hl [0, 4, 1, 5, 6] rfl)
                  · refine lv_iconst (v := nI 1) E.1.1 E.1.2.1 dX6_count_128 rfl ?_
                    refine lv_goto (tgt := 133) E.1.1 E.1.2.1 dX6_count_129 (by decide) ?_
                    refine k_add E dX6_count_133 ?_
                    refine k_top E (nI (fa_cnt (fun j => dB (∀ i, i < j → SS i ≠ SS j)) (i + 1))) (by rw [fa_cnt_yes (p := (fun j => dB (∀ i, i < j → SS i ≠ SS j))) (n := i) (dB_t (by rw [show q1 = i by omega] at c125; exact dB_iff.mp c125))]) ?_
                    refine lv_istore_n (lv' := [(3, .int (nI (fa_cnt (fun j => dB (∀ i, i < j → SS i ≠ SS j)) (i + 1)))), (6, .int (nI q1)), (5, .int (b2i (dB (∀ y, y < q1 → SS y ≠ SS i)))), (4, .int (nI i)), (2, .int (nI (fa_cnt (fun j => dB (∃ n, SS j n = true)) (i + 1)))), (0, .ref (A 0)), (1, .int (nI wh))]) E.1.1 E.1.2.1 dX6_count_134 rfl hl (by decide) rfl (fun ls hl => ?_)
                    refine lv_iinc (v := nI (i + 1)) (lv' := [(4, .int (nI (i + 1))), (3, .int (nI (fa_cnt (fun j => dB (∀ i, i < j → SS i ≠ SS j)) (i + 1)))), (6, .int (nI q1)), (5, .int (b2i (dB (∀ y, y < q1 → SS y ≠ SS i)))), (2, .int (nI (fa_cnt (fun j => dB (∃ n, SS j n = true)) (i + 1)))), (0, .ref (A 0)), (1, .int (nI wh))]) E.1.1 E.1.2.1 dX6_count_135 hl (k := 3) rfl (nI_1 _) (by decide) rfl (fun ls hl => ?_)
                    refine lv_goto (tgt := 19) E.1.1 E.1.2.1 dX6_count_138 (by decide) ?_
                    exact ih19  (i + 1) f H locs ls (by omega) (by omega) h_o h_ts h_ps h_bs h_rw h_gs h_fa h_ba h_it hF hw (lv_sub hl [0, 4, 1, 5, 6] rfl)
                · refine lv_iload E.1.1 E.1.2.1 dX6_count_93 (lv_at hl 1 rfl) ?_
                  refine k_if0 (tgt := 113) E dX6_count_95 (by decide) (fun c95 => ?_) (fun c95 => ?_)
                  · refine lv_iconst (v := nI 0) E.1.1 E.1.2.1 dX6_count_113 rfl ?_
                    refine k_top E (b2i (dB (∀ y, y < (q1 + 1) → SS y ≠ SS i))) (by rw [dB_f (fun h => absurd (dB_t (show ∀ y, y < q1 → SS y ≠ SS i from fun y hy => h y (by omega))) (by rw [c95]; decide))]; rfl) ?_
                    refine lv_istore (lv' := [(5, .int (b2i (dB (∀ y, y < (q1 + 1) → SS y ≠ SS i)))), (6, .int (nI q1)), (4, .int (nI i)), (2, .int (nI (fa_cnt (fun j => dB (∃ n, SS j n = true)) (i + 1)))), (3, .int (nI (fa_cnt (fun j => dB (∀ i, i < j → SS i ≠ SS j)) i))), (0, .ref (A 0)), (1, .int (nI wh))]) E.1.1 E.1.2.1 dX6_count_114 hl (by decide) rfl (fun ls hl => ?_)
                    refine lv_iinc (v := nI (q1 + 1)) (lv' := [(6, .int (nI (q1 + 1))), (5, .int (b2i (dB (∀ y, y < (q1 + 1) → SS y ≠ SS i)))), (4, .int (nI i)), (2, .int (nI (fa_cnt (fun j => dB (∃ n, SS j n = true)) (i + 1)))), (3, .int (nI (fa_cnt (fun j => dB (∀ i, i < j → SS i ≠ SS j)) i))), (0, .ref (A 0)), (1, .int (nI wh))]) E.1.1 E.1.2.1 dX6_count_116 hl (k := 1) rfl (nI_1 _) (by decide) rfl (fun ls hl => ?_)
                    refine lv_goto (tgt := 86) E.1.1 E.1.2.1 dX6_count_119 (by decide) ?_
                    exact ih86  (q1 + 1) f H locs ls (by omega) (by omega) h_o h_ts h_ps h_bs h_rw h_gs h_fa h_ba h_it hF hw (lv_sub hl [0, 1, 2, 3, 4, 5, 6] rfl)
                  · refine lv_aload_n E.1.1 E.1.2.1 dX6_count_98 rfl (lv_at hl 5 rfl) ?_
                    refine lv_iload E.1.1 E.1.2.1 dX6_count_99 (lv_at hl 0 rfl) ?_
                    refine lv_iload E.1.1 E.1.2.1 dX6_count_101 (lv_at hl 2 rfl) ?_
                    refine k_ri (va_runV (As := [.int (nI q1), .int (nI i)]) (rest := []) E.1 (m_areSame l D cy L f H.size A base fr pb ns T P B rr G hA hTP q1 i (by omega) (by omega) h_o h_ts h_ps h_bs) ⟨callB_of 2 E.1.2.2.2.2 (gd_own w3_83) rfl rfl rfl (E.1.2.2.2.2 _ w1_10) (E.1.2.2.2.2 _ w3_80) hd_X6_areSame (by rw [hR]; exact ⟨Nat.le_of_ble_eq_true rfl, Nat.le_of_ble_eq_true rfl⟩), E.1.2.2.2.2 _ w3_82, E.1.2.2.2.2 _ ws_34⟩ (pw_preV (q := (RX6, TX6, 12)) E.2 hw h_o rfl) rfl rfl hl.1 rfl (lv_room (Nat.le_of_ble_eq_true rfl)) dX6_count_103 ⟨Nat.zero_le _, Nat.zero_le _⟩) ?_
                    refine k_if1 (tgt := 113) E dX6_count_106 (by decide) (fun c106 => ?_) (fun c106 => ?_)
                    · refine lv_iconst (v := nI 0) E.1.1 E.1.2.1 dX6_count_113 rfl ?_
                      refine k_top E (b2i (dB (∀ y, y < (q1 + 1) → SS y ≠ SS i))) (by rw [dB_f (fun h => h q1 (by omega) ((same_iff (hMS q1 (by omega)).1 (hMS i (by omega)).1).mp (dB_iff.mp c106)))]; rfl) ?_
                      refine lv_istore (lv' := [(5, .int (b2i (dB (∀ y, y < (q1 + 1) → SS y ≠ SS i)))), (6, .int (nI q1)), (4, .int (nI i)), (2, .int (nI (fa_cnt (fun j => dB (∃ n, SS j n = true)) (i + 1)))), (3, .int (nI (fa_cnt (fun j => dB (∀ i, i < j → SS i ≠ SS j)) i))), (0, .ref (A 0)), (1, .int (nI wh))]) E.1.1 E.1.2.1 dX6_count_114 hl (by decide) rfl (fun ls hl => ?_)
                      refine lv_iinc (v := nI (q1 + 1)) (lv' := [(6, .int (nI (q1 + 1))), (5, .int (b2i (dB (∀ y, y < (q1 + 1) → SS y ≠ SS i)))), (4, .int (nI i)), (2, .int (nI (fa_cnt (fun j => dB (∃ n, SS j n = true)) (i + 1)))), (3, .int (nI (fa_cnt (fun j => dB (∀ i, i < j → SS i ≠ SS j)) i))), (0, .ref (A 0)), (1, .int (nI wh))]) E.1.1 E.1.2.1 dX6_count_116 hl (k := 1) rfl (nI_1 _) (by decide) rfl (fun ls hl => ?_)
                      refine lv_goto (tgt := 86) E.1.1 E.1.2.1 dX6_count_119 (by decide) ?_
                      exact ih86  (q1 + 1) f H locs ls (by omega) (by omega) h_o h_ts h_ps h_bs h_rw h_gs h_fa h_ba h_it hF hw (lv_sub hl [0, 1, 2, 3, 4, 5, 6] rfl)
                    · refine lv_iconst (v := nI 1) E.1.1 E.1.2.1 dX6_count_109 rfl ?_
                      refine lv_goto (tgt := 114) E.1.1 E.1.2.1 dX6_count_110 (by decide) ?_
                      refine k_top E (b2i (dB (∀ y, y < (q1 + 1) → SS y ≠ SS i))) (by rw [dB_t (lt_s (dB_iff.mp c95) (fun q => absurd (dB_t ((same_iff (hMS q1 (by omega)).1 (hMS i (by omega)).1).mpr q)) (by rw [c106]; decide)))]; rfl) ?_
                      refine lv_istore (lv' := [(5, .int (b2i (dB (∀ y, y < (q1 + 1) → SS y ≠ SS i)))), (6, .int (nI q1)), (4, .int (nI i)), (2, .int (nI (fa_cnt (fun j => dB (∃ n, SS j n = true)) (i + 1)))), (3, .int (nI (fa_cnt (fun j => dB (∀ i, i < j → SS i ≠ SS j)) i))), (0, .ref (A 0)), (1, .int (nI wh))]) E.1.1 E.1.2.1 dX6_count_114 hl (by decide) rfl (fun ls hl => ?_)
                      refine lv_iinc (v := nI (q1 + 1)) (lv' := [(6, .int (nI (q1 + 1))), (5, .int (b2i (dB (∀ y, y < (q1 + 1) → SS y ≠ SS i)))), (4, .int (nI i)), (2, .int (nI (fa_cnt (fun j => dB (∃ n, SS j n = true)) (i + 1)))), (3, .int (nI (fa_cnt (fun j => dB (∀ i, i < j → SS i ≠ SS j)) i))), (0, .ref (A 0)), (1, .int (nI wh))]) E.1.1 E.1.2.1 dX6_count_116 hl (k := 1) rfl (nI_1 _) (by decide) rfl (fun ls hl => ?_)
                      refine lv_goto (tgt := 86) E.1.1 E.1.2.1 dX6_count_119 (by decide) ?_
                      exact ih86  (q1 + 1) f H locs ls (by omega) (by omega) h_o h_ts h_ps h_bs h_rw h_gs h_fa h_ba h_it hF hw (lv_sub hl [0, 1, 2, 3, 4, 5, 6] rfl)
            exact lp86 (i - 0 + 1) 0 f H locs ls (Nat.lt_succ_self _) (by omega) h_o h_ts h_ps h_bs h_rw h_gs h_fa h_ba h_it hF hw (lv_sub hl [0, 1, 3, 2, 4, 5, 6] rfl)
          · refine lv_aload_n E.1.1 E.1.2.1 dX6_count_41 rfl (lv_at hl 3 rfl) ?_
            refine k_get (v := .ref (A 3)) E inlX6 rfl 3 (by decide) w2_235 rfl hw h_o rfl dX6_count_42 ?_
            refine lv_iconst (v := nI 3) E.1.1 E.1.2.1 dX6_count_45 rfl ?_
            refine lv_iload E.1.1 E.1.2.1 dX6_count_46 (lv_at hl 0 rfl) ?_
            refine k_mul E dX6_count_48 ?_
            refine lv_iconst (v := nI 1) E.1.1 E.1.2.1 dX6_count_49 rfl ?_
            refine k_add E dX6_count_50 ?_
            refine k_lald E hw (v := wd (B i) 1) h_bs (by omega) (by omega) (rw3_at' B i (k := 1) (by decide)) dX6_count_51 ?_
            refine lv_lconst (v := 0) E.1.1 E.1.2.1 dX6_count_52 rfl ?_
            refine W.lcmp E.1.1 E.1.2.1 dX6_count_53 ?_
            refine lv_if_ne (tgt := 73) E.1.1 E.1.2.1 dX6_count_54 (by decide) (fun c54 => ?_) (fun c54 => ?_)
            · refine lv_iconst (v := nI 1) E.1.1 E.1.2.1 dX6_count_73 rfl ?_
              refine lv_goto (tgt := 78) E.1.1 E.1.2.1 dX6_count_74 (by decide) ?_
              refine k_add E dX6_count_78 ?_
              refine k_top E (nI (fa_cnt (fun j => dB (∃ n, SS j n = true)) (i + 1))) (by rw [fa_cnt_yes (p := (fun j => dB (∃ n, SS j n = true))) (n := i) (dB_t (Classical.not_not.mp (fun q => c54 ((lg_cmp_eq _ _).mpr ((any_wd (hMS i (by omega)).1).mpr q).2.1))))]) ?_
              refine lv_istore_n (lv' := [(2, .int (nI (fa_cnt (fun j => dB (∃ n, SS j n = true)) (i + 1)))), (4, .int (nI i)), (3, .int (nI (fa_cnt (fun j => dB (∀ i, i < j → SS i ≠ SS j)) i))), (0, .ref (A 0)), (1, .int (nI wh))]) E.1.1 E.1.2.1 dX6_count_79 rfl hl (by decide) rfl (fun ls hl => ?_)
              refine lv_iconst (v := nI 1) E.1.1 E.1.2.1 dX6_count_80 rfl ?_
              refine k_top E (b2i (dB (∀ y, y < 0 → SS y ≠ SS i))) (by rw [dB_t (fun y hy => absurd hy (by omega))]; rfl) ?_
              refine lv_istore (lv' := [(5, .int (b2i (dB (∀ y, y < 0 → SS y ≠ SS i)))), (2, .int (nI (fa_cnt (fun j => dB (∃ n, SS j n = true)) (i + 1)))), (4, .int (nI i)), (3, .int (nI (fa_cnt (fun j => dB (∀ i, i < j → SS i ≠ SS j)) i))), (0, .ref (A 0)), (1, .int (nI wh))]) E.1.1 E.1.2.1 dX6_count_81 hl (by decide) rfl (fun ls hl => ?_)
              refine lv_iconst (v := nI 0) E.1.1 E.1.2.1 dX6_count_83 rfl ?_
              refine lv_istore (lv' := [(6, .int (nI 0)), (5, .int (b2i (dB (∀ y, y < 0 → SS y ≠ SS i)))), (2, .int (nI (fa_cnt (fun j => dB (∃ n, SS j n = true)) (i + 1)))), (4, .int (nI i)), (3, .int (nI (fa_cnt (fun j => dB (∀ i, i < j → SS i ≠ SS j)) i))), (0, .ref (A 0)), (1, .int (nI wh))]) E.1.1 E.1.2.1 dX6_count_84 hl (by decide) rfl (fun ls hl => ?_)
              have lp86 : ∀ (k : Nat) (q1 : Nat) (f : Nat → va_E) (H : Heap) (locs : List Loc) (ls : Array Slot), (i - q1 < k) → (q1 ≤ i) → (cel L f (A 0) (.inr (6, [.int (nI base), .ref (A 1), .ref (A 2), .ref (A 3), .ref (A 4), .int (nI fr), .int (nI pb), .ref (A 5), .int (nI ns), .ref (A 6), .ref (A 7), .ref (A 8)]))) → (cel L f (A 1) (.inl (cy 0, 84, .inl (fun k => nI (T k))))) → (cel L f (A 2) (.inl (cy 0, 84, .inl (fun k => nI (P k))))) → (cel L f (A 3) (.inl (cy 1, 252, .inr (.inl (rw3 B))))) → (cel L f (A 4) (.inl (cy 2, 4096, .inl (fun k => b2i (rr k))))) → (cel L f (A 5) (.inl (cy 0, 325, .inl G))) → (cel L f (A 6) (.inl (cy 0, 65, .inl Fa))) → (cel L f (A 7) (.inl (cy 0, 2, .inl (fun k => nI (kb1 k))))) → (cel L f (A 8) (.inl (cy 2, 2, .inl (fun k => b2i (kp k))))) → (∀ b ∈ L, b ≠ (A 0) → b ≠ (A 1) → b ≠ (A 2) → b ≠ (A 3) → b ≠ (A 4) → b ≠ (A 5) → b ≠ (A 6) → b ≠ (A 7) → b ≠ (A 8) → f b = f0 b) → (WW D (AW L sz) s.heap L f H locs) → (lv_has ls 7 [(6, .int (nI q1)), (5, .int (b2i (dB (∀ y, y < q1 → SS y ≠ SS i)))), (4, .int (nI i)), (2, .int (nI (fa_cnt (fun j => dB (∃ n, SS j n = true)) (i + 1)))), (3, .int (nI (fa_cnt (fun j => dB (∀ i, i < j → SS i ≠ SS j)) i))), (0, .ref (A 0)), (1, .int (nI wh))]) → W p l e R s m args below meth c H locs 0 0 Q (F0 m 86 ls []) := by
                intro k
                induction k with
                | zero => intro _ _ _ _ _ hk; exact absurd hk (Nat.not_lt_zero _)
                | succ k ih86 =>
                  intro q1 f H locs ls hk hq1 h_o h_ts h_ps h_bs h_rw h_gs h_fa h_ba h_it hF hw hl
                  refine lv_iload E.1.1 E.1.2.1 dX6_count_86 (lv_at hl 0 rfl) ?_
                  refine lv_iload E.1.1 E.1.2.1 dX6_count_88 (lv_at hl 2 rfl) ?_
                  refine k_ge (tgt := 122) E dX6_count_90 (by decide) (by omega) (by omega) (fun c90 => ?_) (fun c90 => ?_)
                  · refine lv_iload_n E.1.1 E.1.2.1 dX6_count_122 rfl (lv_at hl 4 rfl) ?_
                    refine lv_iload E.1.1 E.1.2.1 dX6_count_123 (lv_at hl 1 rfl) ?_
                    refine k_if0 (tgt := 132) E dX6_count_125 (by decide) (fun c125 => ?_) (fun c125 => ?_)
                    · refine lv_iconst (v := nI 0) E.1.1 E.1.2.1 dX6_count_132 rfl ?_
                      refine k_add E dX6_count_133 ?_
                      refine k_top E (nI (fa_cnt (fun j => dB (∀ i, i < j → SS i ≠ SS j)) (i + 1))) (by rw [fa_cnt_no (p := (fun j => dB (∀ i, i < j → SS i ≠ SS j))) (n := i) (dB_f (fun q => absurd (dB_t q) (by rw [show q1 = i by omega] at c125; rw [c125]; decide))), Nat.add_zero]) ?_
                      refine lv_istore_n (lv' := [(3, .int (nI (fa_cnt (fun j => dB (∀ i, i < j → SS i ≠ SS j)) (i + 1)))), (6, .int (nI q1)), (5, .int (b2i (dB (∀ y, y < q1 → SS y ≠ SS i)))), (4, .int (nI i)), (2, .int (nI (fa_cnt (fun j => dB (∃ n, SS j n = true)) (i + 1)))), (0, .ref (A 0)), (1, .int (nI wh))]) E.1.1 E.1.2.1 dX6_count_134 rfl hl (by decide) rfl (fun ls hl => ?_)
                      refine lv_iinc (v := nI (i + 1)) (lv' := [(4, .int (nI (i + 1))), (3, .int (nI (fa_cnt (fun j => dB (∀ i, i < j → SS i ≠ SS j)) (i + 1)))), (6, .int (nI q1)), (5, .int (b2i (dB (∀ y, y < q1 → SS y ≠ SS i)))), (2, .int (nI (fa_cnt (fun j => dB (∃ n, SS j n = true)) (i + 1)))), (0, .ref (A 0)), (1, .int (nI wh))]) E.1.1 E.1.2.1 dX6_count_135 hl (k := 3) rfl (nI_1 _) (by decide) rfl (fun ls hl => ?_)
                      refine lv_goto (tgt := 19) E.1.1 E.1.2.1 dX6_count_138 (by decide) ?_
                      exact ih19  (i + 1) f H locs ls (by omega) (by omega) h_o h_ts h_ps h_bs h_rw h_gs h_fa h_ba h_it hF hw (lv_sub hl [0, 4, 1, 5, 6] rfl)
                    · refine lv_iconst (v := nI 1) E.1.1 E.1.2.1 dX6_count_128 rfl ?_
                      refine lv_goto (tgt := 133) E.1.1 E.1.2.1 dX6_count_129 (by decide) ?_
                      refine k_add E dX6_count_133 ?_
                      refine k_top E (nI (fa_cnt (fun j => dB (∀ i, i < j → SS i ≠ SS j)) (i + 1))) (by rw [fa_cnt_yes (p := (fun j => dB (∀ i, i < j → SS i ≠ SS j))) (n := i) (dB_t (by rw [show q1 = i by omega] at c125; exact dB_iff.mp c125))]) ?_
                      refine lv_istore_n (lv' := [(3, .int (nI (fa_cnt (fun j => dB (∀ i, i < j → SS i ≠ SS j)) (i + 1)))), (6, .int (nI q1)), (5, .int (b2i (dB (∀ y, y < q1 → SS y ≠ SS i)))), (4, .int (nI i)), (2, .int (nI (fa_cnt (fun j => dB (∃ n, SS j n = true)) (i + 1)))), (0, .ref (A 0)), (1, .int (nI wh))]) E.1.1 E.1.2.1 dX6_count_134 rfl hl (by decide) rfl (fun ls hl => ?_)
                      refine lv_iinc (v := nI (i + 1)) (lv' := [(4, .int (nI (i + 1))), (3, .int (nI (fa_cnt (fun j => dB (∀ i, i < j → SS i ≠ SS j)) (i + 1)))), (6, .int (nI q1)), (5, .int (b2i (dB (∀ y, y < q1 → SS y ≠ SS i)))), (2, .int (nI (fa_cnt (fun j => dB (∃ n, SS j n = true)) (i + 1)))), (0, .ref (A 0)), (1, .int (nI wh))]) E.1.1 E.1.2.1 dX6_count_135 hl (k := 3) rfl (nI_1 _) (by decide) rfl (fun ls hl => ?_)
                      refine lv_goto (tgt := 19) E.1.1 E.1.2.1 dX6_count_138 (by decide) ?_
                      exact ih19  (i + 1) f H locs ls (by omega) (by omega) h_o h_ts h_ps h_bs h_rw h_gs h_fa h_ba h_it hF hw (lv_sub hl [0, 4, 1, 5, 6] rfl)
                  · refine lv_iload E.1.1 E.1.2.1 dX6_count_93 (lv_at hl 1 rfl) ?_
                    refine k_if0 (tgt := 113) E dX6_count_95 (by decide) (fun c95 => ?_) (fun c95 => ?_)
                    · refine lv_iconst (v := nI 0) E.1.1 E.1.2.1 dX6_count_113 rfl ?_
                      refine k_top E (b2i (dB (∀ y, y < (q1 + 1) → SS y ≠ SS i))) (by rw [dB_f (fun h => absurd (dB_t (show ∀ y, y < q1 → SS y ≠ SS i from fun y hy => h y (by omega))) (by rw [c95]; decide))]; rfl) ?_
                      refine lv_istore (lv' := [(5, .int (b2i (dB (∀ y, y < (q1 + 1) → SS y ≠ SS i)))), (6, .int (nI q1)), (4, .int (nI i)), (2, .int (nI (fa_cnt (fun j => dB (∃ n, SS j n = true)) (i + 1)))), (3, .int (nI (fa_cnt (fun j => dB (∀ i, i < j → SS i ≠ SS j)) i))), (0, .ref (A 0)), (1, .int (nI wh))]) E.1.1 E.1.2.1 dX6_count_114 hl (by decide) rfl (fun ls hl => ?_)
                      refine lv_iinc (v := nI (q1 + 1)) (lv' := [(6, .int (nI (q1 + 1))), (5, .int (b2i (dB (∀ y, y < (q1 + 1) → SS y ≠ SS i)))), (4, .int (nI i)), (2, .int (nI (fa_cnt (fun j => dB (∃ n, SS j n = true)) (i + 1)))), (3, .int (nI (fa_cnt (fun j => dB (∀ i, i < j → SS i ≠ SS j)) i))), (0, .ref (A 0)), (1, .int (nI wh))]) E.1.1 E.1.2.1 dX6_count_116 hl (k := 1) rfl (nI_1 _) (by decide) rfl (fun ls hl => ?_)
                      refine lv_goto (tgt := 86) E.1.1 E.1.2.1 dX6_count_119 (by decide) ?_
                      exact ih86  (q1 + 1) f H locs ls (by omega) (by omega) h_o h_ts h_ps h_bs h_rw h_gs h_fa h_ba h_it hF hw (lv_sub hl [0, 1, 2, 3, 4, 5, 6] rfl)
                    · refine lv_aload_n E.1.1 E.1.2.1 dX6_count_98 rfl (lv_at hl 5 rfl) ?_
                      refine lv_iload E.1.1 E.1.2.1 dX6_count_99 (lv_at hl 0 rfl) ?_
                      refine lv_iload E.1.1 E.1.2.1 dX6_count_101 (lv_at hl 2 rfl) ?_
                      refine k_ri (va_runV (As := [.int (nI q1), .int (nI i)]) (rest := []) E.1 (m_areSame l D cy L f H.size A base fr pb ns T P B rr G hA hTP q1 i (by omega) (by omega) h_o h_ts h_ps h_bs) ⟨callB_of 2 E.1.2.2.2.2 (gd_own w3_83) rfl rfl rfl (E.1.2.2.2.2 _ w1_10) (E.1.2.2.2.2 _ w3_80) hd_X6_areSame (by rw [hR]; exact ⟨Nat.le_of_ble_eq_true rfl, Nat.le_of_ble_eq_true rfl⟩), E.1.2.2.2.2 _ w3_82, E.1.2.2.2.2 _ ws_34⟩ (pw_preV (q := (RX6, TX6, 12)) E.2 hw h_o rfl) rfl rfl hl.1 rfl (lv_room (Nat.le_of_ble_eq_true rfl)) dX6_count_103 ⟨Nat.zero_le _, Nat.zero_le _⟩) ?_
                      refine k_if1 (tgt := 113) E dX6_count_106 (by decide) (fun c106 => ?_) (fun c106 => ?_)
                      · refine lv_iconst (v := nI 0) E.1.1 E.1.2.1 dX6_count_113 rfl ?_
                        refine k_top E (b2i (dB (∀ y, y < (q1 + 1) → SS y ≠ SS i))) (by rw [dB_f (fun h => h q1 (by omega) ((same_iff (hMS q1 (by omega)).1 (hMS i (by omega)).1).mp (dB_iff.mp c106)))]; rfl) ?_
                        refine lv_istore (lv' := [(5, .int (b2i (dB (∀ y, y < (q1 + 1) → SS y ≠ SS i)))), (6, .int (nI q1)), (4, .int (nI i)), (2, .int (nI (fa_cnt (fun j => dB (∃ n, SS j n = true)) (i + 1)))), (3, .int (nI (fa_cnt (fun j => dB (∀ i, i < j → SS i ≠ SS j)) i))), (0, .ref (A 0)), (1, .int (nI wh))]) E.1.1 E.1.2.1 dX6_count_114 hl (by decide) rfl (fun ls hl => ?_)
                        refine lv_iinc (v := nI (q1 + 1)) (lv' := [(6, .int (nI (q1 + 1))), (5, .int (b2i (dB (∀ y, y < (q1 + 1) → SS y ≠ SS i)))), (4, .int (nI i)), (2, .int (nI (fa_cnt (fun j => dB (∃ n, SS j n = true)) (i + 1)))), (3, .int (nI (fa_cnt (fun j => dB (∀ i, i < j → SS i ≠ SS j)) i))), (0, .ref (A 0)), (1, .int (nI wh))]) E.1.1 E.1.2.1 dX6_count_116 hl (k := 1) rfl (nI_1 _) (by decide) rfl (fun ls hl => ?_)
                        refine lv_goto (tgt := 86) E.1.1 E.1.2.1 dX6_count_119 (by decide) ?_
                        exact ih86  (q1 + 1) f H locs ls (by omega) (by omega) h_o h_ts h_ps h_bs h_rw h_gs h_fa h_ba h_it hF hw (lv_sub hl [0, 1, 2, 3, 4, 5, 6] rfl)
                      · refine lv_iconst (v := nI 1) E.1.1 E.1.2.1 dX6_count_109 rfl ?_
                        refine lv_goto (tgt := 114) E.1.1 E.1.2.1 dX6_count_110 (by decide) ?_
                        refine k_top E (b2i (dB (∀ y, y < (q1 + 1) → SS y ≠ SS i))) (by rw [dB_t (lt_s (dB_iff.mp c95) (fun q => absurd (dB_t ((same_iff (hMS q1 (by omega)).1 (hMS i (by omega)).1).mpr q)) (by rw [c106]; decide)))]; rfl) ?_
                        refine lv_istore (lv' := [(5, .int (b2i (dB (∀ y, y < (q1 + 1) → SS y ≠ SS i)))), (6, .int (nI q1)), (4, .int (nI i)), (2, .int (nI (fa_cnt (fun j => dB (∃ n, SS j n = true)) (i + 1)))), (3, .int (nI (fa_cnt (fun j => dB (∀ i, i < j → SS i ≠ SS j)) i))), (0, .ref (A 0)), (1, .int (nI wh))]) E.1.1 E.1.2.1 dX6_count_114 hl (by decide) rfl (fun ls hl => ?_)
                        refine lv_iinc (v := nI (q1 + 1)) (lv' := [(6, .int (nI (q1 + 1))), (5, .int (b2i (dB (∀ y, y < (q1 + 1) → SS y ≠ SS i)))), (4, .int (nI i)), (2, .int (nI (fa_cnt (fun j => dB (∃ n, SS j n = true)) (i + 1)))), (3, .int (nI (fa_cnt (fun j => dB (∀ i, i < j → SS i ≠ SS j)) i))), (0, .ref (A 0)), (1, .int (nI wh))]) E.1.1 E.1.2.1 dX6_count_116 hl (k := 1) rfl (nI_1 _) (by decide) rfl (fun ls hl => ?_)
                        refine lv_goto (tgt := 86) E.1.1 E.1.2.1 dX6_count_119 (by decide) ?_
                        exact ih86  (q1 + 1) f H locs ls (by omega) (by omega) h_o h_ts h_ps h_bs h_rw h_gs h_fa h_ba h_it hF hw (lv_sub hl [0, 1, 2, 3, 4, 5, 6] rfl)
              exact lp86 (i - 0 + 1) 0 f H locs ls (Nat.lt_succ_self _) (by omega) h_o h_ts h_ps h_bs h_rw h_gs h_fa h_ba h_it hF hw (lv_sub hl [0, 1, 3, 2, 4, 5, 6] rfl)
            · refine lv_aload_n E.1.1 E.1.2.1 dX6_count_57 rfl (lv_at hl 3 rfl) ?_
              refine k_get (v := .ref (A 3)) E inlX6 rfl 3 (by decide) w2_235 rfl hw h_o rfl dX6_count_58 ?_
              refine lv_iconst (v := nI 3) E.1.1 E.1.2.1 dX6_count_61 rfl ?_
              refine lv_iload E.1.1 E.1.2.1 dX6_count_62 (lv_at hl 0 rfl) ?_
              refine k_mul E dX6_count_64 ?_
              refine lv_iconst (v := nI 2) E.1.1 E.1.2.1 dX6_count_65 rfl ?_
              refine k_add E dX6_count_66 ?_
              refine k_lald E hw (v := wd (B i) 2) h_bs (by omega) (by omega) (rw3_at' B i (k := 2) (by decide)) dX6_count_67 ?_
              refine lv_lconst (v := 0) E.1.1 E.1.2.1 dX6_count_68 rfl ?_
              refine W.lcmp E.1.1 E.1.2.1 dX6_count_69 ?_
              refine lv_if_eq (tgt := 77) E.1.1 E.1.2.1 dX6_count_70 (by decide) (fun c70 => ?_) (fun c70 => ?_)
              · refine lv_iconst (v := nI 0) E.1.1 E.1.2.1 dX6_count_77 rfl ?_
                refine k_add E dX6_count_78 ?_
                refine k_top E (nI (fa_cnt (fun j => dB (∃ n, SS j n = true)) (i + 1))) (by rw [fa_cnt_no (p := (fun j => dB (∃ n, SS j n = true))) (n := i) (dB_f ((any_wd (hMS i (by omega)).1).mp ⟨(lg_cmp_eq _ _).mp c38, (lg_cmp_eq _ _).mp c54, (lg_cmp_eq _ _).mp c70⟩)), Nat.add_zero]) ?_
                refine lv_istore_n (lv' := [(2, .int (nI (fa_cnt (fun j => dB (∃ n, SS j n = true)) (i + 1)))), (4, .int (nI i)), (3, .int (nI (fa_cnt (fun j => dB (∀ i, i < j → SS i ≠ SS j)) i))), (0, .ref (A 0)), (1, .int (nI wh))]) E.1.1 E.1.2.1 dX6_count_79 rfl hl (by decide) rfl (fun ls hl => ?_)
                refine lv_iconst (v := nI 1) E.1.1 E.1.2.1 dX6_count_80 rfl ?_
                refine k_top E (b2i (dB (∀ y, y < 0 → SS y ≠ SS i))) (by rw [dB_t (fun y hy => absurd hy (by omega))]; rfl) ?_
                refine lv_istore (lv' := [(5, .int (b2i (dB (∀ y, y < 0 → SS y ≠ SS i)))), (2, .int (nI (fa_cnt (fun j => dB (∃ n, SS j n = true)) (i + 1)))), (4, .int (nI i)), (3, .int (nI (fa_cnt (fun j => dB (∀ i, i < j → SS i ≠ SS j)) i))), (0, .ref (A 0)), (1, .int (nI wh))]) E.1.1 E.1.2.1 dX6_count_81 hl (by decide) rfl (fun ls hl => ?_)
                refine lv_iconst (v := nI 0) E.1.1 E.1.2.1 dX6_count_83 rfl ?_
                refine lv_istore (lv' := [(6, .int (nI 0)), (5, .int (b2i (dB (∀ y, y < 0 → SS y ≠ SS i)))), (2, .int (nI (fa_cnt (fun j => dB (∃ n, SS j n = true)) (i + 1)))), (4, .int (nI i)), (3, .int (nI (fa_cnt (fun j => dB (∀ i, i < j → SS i ≠ SS j)) i))), (0, .ref (A 0)), (1, .int (nI wh))]) E.1.1 E.1.2.1 dX6_count_84 hl (by decide) rfl (fun ls hl => ?_)
                have lp86 : ∀ (k : Nat) (q1 : Nat) (f : Nat → va_E) (H : Heap) (locs : List Loc) (ls : Array Slot), (i - q1 < k) → (q1 ≤ i) → (cel L f (A 0) (.inr (6, [.int (nI base), .ref (A 1), .ref (A 2), .ref (A 3), .ref (A 4), .int (nI fr), .int (nI pb), .ref (A 5), .int (nI ns), .ref (A 6), .ref (A 7), .ref (A 8)]))) → (cel L f (A 1) (.inl (cy 0, 84, .inl (fun k => nI (T k))))) → (cel L f (A 2) (.inl (cy 0, 84, .inl (fun k => nI (P k))))) → (cel L f (A 3) (.inl (cy 1, 252, .inr (.inl (rw3 B))))) → (cel L f (A 4) (.inl (cy 2, 4096, .inl (fun k => b2i (rr k))))) → (cel L f (A 5) (.inl (cy 0, 325, .inl G))) → (cel L f (A 6) (.inl (cy 0, 65, .inl Fa))) → (cel L f (A 7) (.inl (cy 0, 2, .inl (fun k => nI (kb1 k))))) → (cel L f (A 8) (.inl (cy 2, 2, .inl (fun k => b2i (kp k))))) → (∀ b ∈ L, b ≠ (A 0) → b ≠ (A 1) → b ≠ (A 2) → b ≠ (A 3) → b ≠ (A 4) → b ≠ (A 5) → b ≠ (A 6) → b ≠ (A 7) → b ≠ (A 8) → f b = f0 b) → (WW D (AW L sz) s.heap L f H locs) → (lv_has ls 7 [(6, .int (nI q1)), (5, .int (b2i (dB (∀ y, y < q1 → SS y ≠ SS i)))), (4, .int (nI i)), (2, .int (nI (fa_cnt (fun j => dB (∃ n, SS j n = true)) (i + 1)))), (3, .int (nI (fa_cnt (fun j => dB (∀ i, i < j → SS i ≠ SS j)) i))), (0, .ref (A 0)), (1, .int (nI wh))]) → W p l e R s m args below meth c H locs 0 0 Q (F0 m 86 ls []) := by
                  intro k
                  induction k with
                  | zero => intro _ _ _ _ _ hk; exact absurd hk (Nat.not_lt_zero _)
                  | succ k ih86 =>
                    intro q1 f H locs ls hk hq1 h_o h_ts h_ps h_bs h_rw h_gs h_fa h_ba h_it hF hw hl
                    refine lv_iload E.1.1 E.1.2.1 dX6_count_86 (lv_at hl 0 rfl) ?_
                    refine lv_iload E.1.1 E.1.2.1 dX6_count_88 (lv_at hl 2 rfl) ?_
                    refine k_ge (tgt := 122) E dX6_count_90 (by decide) (by omega) (by omega) (fun c90 => ?_) (fun c90 => ?_)
                    · refine lv_iload_n E.1.1 E.1.2.1 dX6_count_122 rfl (lv_at hl 4 rfl) ?_
                      refine lv_iload E.1.1 E.1.2.1 dX6_count_123 (lv_at hl 1 rfl) ?_
                      refine k_if0 (tgt := 132) E dX6_count_125 (by decide) (fun c125 => ?_) (fun c125 => ?_)
                      · refine lv_iconst (v := nI 0) E.1.1 E.1.2.1 dX6_count_132 rfl ?_
                        refine k_add E dX6_count_133 ?_
                        refine k_top E (nI (fa_cnt (fun j => dB (∀ i, i < j → SS i ≠ SS j)) (i + 1))) (by rw [fa_cnt_no (p := (fun j => dB (∀ i, i < j → SS i ≠ SS j))) (n := i) (dB_f (fun q => absurd (dB_t q) (by rw [show q1 = i by omega] at c125; rw [c125]; decide))), Nat.add_zero]) ?_
                        refine lv_istore_n (lv' := [(3, .int (nI (fa_cnt (fun j => dB (∀ i, i < j → SS i ≠ SS j)) (i + 1)))), (6, .int (nI q1)), (5, .int (b2i (dB (∀ y, y < q1 → SS y ≠ SS i)))), (4, .int (nI i)), (2, .int (nI (fa_cnt (fun j => dB (∃ n, SS j n = true)) (i + 1)))), (0, .ref (A 0)), (1, .int (nI wh))]) E.1.1 E.1.2.1 dX6_count_134 rfl hl (by decide) rfl (fun ls hl => ?_)
                        refine lv_iinc (v := nI (i + 1)) (lv' := [(4, .int (nI (i + 1))), (3, .int (nI (fa_cnt (fun j => dB (∀ i, i < j → SS i ≠ SS j)) (i + 1)))), (6, .int (nI q1)), (5, .int (b2i (dB (∀ y, y < q1 → SS y ≠ SS i)))), (2, .int (nI (fa_cnt (fun j => dB (∃ n, SS j n = true)) (i + 1)))), (0, .ref (A 0)), (1, .int (nI wh))]) E.1.1 E.1.2.1 dX6_count_135 hl (k := 3) rfl (nI_1 _) (by decide) rfl (fun ls hl => ?_)
                        refine lv_goto (tgt := 19) E.1.1 E.1.2.1 dX6_count_138 (by decide) ?_
                        exact ih19  (i + 1) f H locs ls (by omega) (by omega) h_o h_ts h_ps h_bs h_rw h_gs h_fa h_ba h_it hF hw (lv_sub hl [0, 4, 1, 5, 6] rfl)
                      · refine lv_iconst (v := nI 1) E.1.1 E.1.2.1 dX6_count_128 rfl ?_
                        refine lv_goto (tgt := 133) E.1.1 E.1.2.1 dX6_count_129 (by decide) ?_
                        refine k_add E dX6_count_133 ?_
                        refine k_top E (nI (fa_cnt (fun j => dB (∀ i, i < j → SS i ≠ SS j)) (i + 1))) (by rw [fa_cnt_yes (p := (fun j => dB (∀ i, i < j → SS i ≠ SS j))) (n := i) (dB_t (by rw [show q1 = i by omega] at c125; exact dB_iff.mp c125))]) ?_
                        refine lv_istore_n (lv' := [(3, .int (nI (fa_cnt (fun j => dB (∀ i, i < j → SS i ≠ SS j)) (i + 1)))), (6, .int (nI q1)), (5, .int (b2i (dB (∀ y, y < q1 → SS y ≠ SS i)))), (4, .int (nI i)), (2, .int (nI (fa_cnt (fun j => dB (∃ n, SS j n = true)) (i + 1)))), (0, .ref (A 0)), (1, .int (nI wh))]) E.1.1 E.1.2.1 dX6_count_134 rfl hl (by decide) rfl (fun ls hl => ?_)
                        refine lv_iinc (v := nI (i + 1)) (lv' := [(4, .int (nI (i + 1))), (3, .int (nI (fa_cnt (fun j => dB (∀ i, i < j → SS i ≠ SS j)) (i + 1)))), (6, .int (nI q1)), (5, .int (b2i (dB (∀ y, y < q1 → SS y ≠ SS i)))), (2, .int (nI (fa_cnt (fun j => dB (∃ n, SS j n = true)) (i + 1)))), (0, .ref (A 0)), (1, .int (nI wh))]) E.1.1 E.1.2.1 dX6_count_135 hl (k := 3) rfl (nI_1 _) (by decide) rfl (fun ls hl => ?_)
                        refine lv_goto (tgt := 19) E.1.1 E.1.2.1 dX6_count_138 (by decide) ?_
                        exact ih19  (i + 1) f H locs ls (by omega) (by omega) h_o h_ts h_ps h_bs h_rw h_gs h_fa h_ba h_it hF hw (lv_sub hl [0, 4, 1, 5, 6] rfl)
                    · refine lv_iload E.1.1 E.1.2.1 dX6_count_93 (lv_at hl 1 rfl) ?_
                      refine k_if0 (tgt := 113) E dX6_count_95 (by decide) (fun c95 => ?_) (fun c95 => ?_)
                      · refine lv_iconst (v := nI 0) E.1.1 E.1.2.1 dX6_count_113 rfl ?_
                        refine k_top E (b2i (dB (∀ y, y < (q1 + 1) → SS y ≠ SS i))) (by rw [dB_f (fun h => absurd (dB_t (show ∀ y, y < q1 → SS y ≠ SS i from fun y hy => h y (by omega))) (by rw [c95]; decide))]; rfl) ?_
                        refine lv_istore (lv' := [(5, .int (b2i (dB (∀ y, y < (q1 + 1) → SS y ≠ SS i)))), (6, .int (nI q1)), (4, .int (nI i)), (2, .int (nI (fa_cnt (fun j => dB (∃ n, SS j n = true)) (i + 1)))), (3, .int (nI (fa_cnt (fun j => dB (∀ i, i < j → SS i ≠ SS j)) i))), (0, .ref (A 0)), (1, .int (nI wh))]) E.1.1 E.1.2.1 dX6_count_114 hl (by decide) rfl (fun ls hl => ?_)
                        refine lv_iinc (v := nI (q1 + 1)) (lv' := [(6, .int (nI (q1 + 1))), (5, .int (b2i (dB (∀ y, y < (q1 + 1) → SS y ≠ SS i)))), (4, .int (nI i)), (2, .int (nI (fa_cnt (fun j => dB (∃ n, SS j n = true)) (i + 1)))), (3, .int (nI (fa_cnt (fun j => dB (∀ i, i < j → SS i ≠ SS j)) i))), (0, .ref (A 0)), (1, .int (nI wh))]) E.1.1 E.1.2.1 dX6_count_116 hl (k := 1) rfl (nI_1 _) (by decide) rfl (fun ls hl => ?_)
                        refine lv_goto (tgt := 86) E.1.1 E.1.2.1 dX6_count_119 (by decide) ?_
                        exact ih86  (q1 + 1) f H locs ls (by omega) (by omega) h_o h_ts h_ps h_bs h_rw h_gs h_fa h_ba h_it hF hw (lv_sub hl [0, 1, 2, 3, 4, 5, 6] rfl)
                      · refine lv_aload_n E.1.1 E.1.2.1 dX6_count_98 rfl (lv_at hl 5 rfl) ?_
                        refine lv_iload E.1.1 E.1.2.1 dX6_count_99 (lv_at hl 0 rfl) ?_
                        refine lv_iload E.1.1 E.1.2.1 dX6_count_101 (lv_at hl 2 rfl) ?_
                        refine k_ri (va_runV (As := [.int (nI q1), .int (nI i)]) (rest := []) E.1 (m_areSame l D cy L f H.size A base fr pb ns T P B rr G hA hTP q1 i (by omega) (by omega) h_o h_ts h_ps h_bs) ⟨callB_of 2 E.1.2.2.2.2 (gd_own w3_83) rfl rfl rfl (E.1.2.2.2.2 _ w1_10) (E.1.2.2.2.2 _ w3_80) hd_X6_areSame (by rw [hR]; exact ⟨Nat.le_of_ble_eq_true rfl, Nat.le_of_ble_eq_true rfl⟩), E.1.2.2.2.2 _ w3_82, E.1.2.2.2.2 _ ws_34⟩ (pw_preV (q := (RX6, TX6, 12)) E.2 hw h_o rfl) rfl rfl hl.1 rfl (lv_room (Nat.le_of_ble_eq_true rfl)) dX6_count_103 ⟨Nat.zero_le _, Nat.zero_le _⟩) ?_
                        refine k_if1 (tgt := 113) E dX6_count_106 (by decide) (fun c106 => ?_) (fun c106 => ?_)
                        · refine lv_iconst (v := nI 0) E.1.1 E.1.2.1 dX6_count_113 rfl ?_
                          refine k_top E (b2i (dB (∀ y, y < (q1 + 1) → SS y ≠ SS i))) (by rw [dB_f (fun h => h q1 (by omega) ((same_iff (hMS q1 (by omega)).1 (hMS i (by omega)).1).mp (dB_iff.mp c106)))]; rfl) ?_
                          refine lv_istore (lv' := [(5, .int (b2i (dB (∀ y, y < (q1 + 1) → SS y ≠ SS i)))), (6, .int (nI q1)), (4, .int (nI i)), (2, .int (nI (fa_cnt (fun j => dB (∃ n, SS j n = true)) (i + 1)))), (3, .int (nI (fa_cnt (fun j => dB (∀ i, i < j → SS i ≠ SS j)) i))), (0, .ref (A 0)), (1, .int (nI wh))]) E.1.1 E.1.2.1 dX6_count_114 hl (by decide) rfl (fun ls hl => ?_)
                          refine lv_iinc (v := nI (q1 + 1)) (lv' := [(6, .int (nI (q1 + 1))), (5, .int (b2i (dB (∀ y, y < (q1 + 1) → SS y ≠ SS i)))), (4, .int (nI i)), (2, .int (nI (fa_cnt (fun j => dB (∃ n, SS j n = true)) (i + 1)))), (3, .int (nI (fa_cnt (fun j => dB (∀ i, i < j → SS i ≠ SS j)) i))), (0, .ref (A 0)), (1, .int (nI wh))]) E.1.1 E.1.2.1 dX6_count_116 hl (k := 1) rfl (nI_1 _) (by decide) rfl (fun ls hl => ?_)
                          refine lv_goto (tgt := 86) E.1.1 E.1.2.1 dX6_count_119 (by decide) ?_
                          exact ih86  (q1 + 1) f H locs ls (by omega) (by omega) h_o h_ts h_ps h_bs h_rw h_gs h_fa h_ba h_it hF hw (lv_sub hl [0, 1, 2, 3, 4, 5, 6] rfl)
                        · refine lv_iconst (v := nI 1) E.1.1 E.1.2.1 dX6_count_109 rfl ?_
                          refine lv_goto (tgt := 114) E.1.1 E.1.2.1 dX6_count_110 (by decide) ?_
                          refine k_top E (b2i (dB (∀ y, y < (q1 + 1) → SS y ≠ SS i))) (by rw [dB_t (lt_s (dB_iff.mp c95) (fun q => absurd (dB_t ((same_iff (hMS q1 (by omega)).1 (hMS i (by omega)).1).mpr q)) (by rw [c106]; decide)))]; rfl) ?_
                          refine lv_istore (lv' := [(5, .int (b2i (dB (∀ y, y < (q1 + 1) → SS y ≠ SS i)))), (6, .int (nI q1)), (4, .int (nI i)), (2, .int (nI (fa_cnt (fun j => dB (∃ n, SS j n = true)) (i + 1)))), (3, .int (nI (fa_cnt (fun j => dB (∀ i, i < j → SS i ≠ SS j)) i))), (0, .ref (A 0)), (1, .int (nI wh))]) E.1.1 E.1.2.1 dX6_count_114 hl (by decide) rfl (fun ls hl => ?_)
                          refine lv_iinc (v := nI (q1 + 1)) (lv' := [(6, .int (nI (q1 + 1))), (5, .int (b2i (dB (∀ y, y < (q1 + 1) → SS y ≠ SS i)))), (4, .int (nI i)), (2, .int (nI (fa_cnt (fun j => dB (∃ n, SS j n = true)) (i + 1)))), (3, .int (nI (fa_cnt (fun j => dB (∀ i, i < j → SS i ≠ SS j)) i))), (0, .ref (A 0)), (1, .int (nI wh))]) E.1.1 E.1.2.1 dX6_count_116 hl (k := 1) rfl (nI_1 _) (by decide) rfl (fun ls hl => ?_)
                          refine lv_goto (tgt := 86) E.1.1 E.1.2.1 dX6_count_119 (by decide) ?_
                          exact ih86  (q1 + 1) f H locs ls (by omega) (by omega) h_o h_ts h_ps h_bs h_rw h_gs h_fa h_ba h_it hF hw (lv_sub hl [0, 1, 2, 3, 4, 5, 6] rfl)
                exact lp86 (i - 0 + 1) 0 f H locs ls (Nat.lt_succ_self _) (by omega) h_o h_ts h_ps h_bs h_rw h_gs h_fa h_ba h_it hF hw (lv_sub hl [0, 1, 3, 2, 4, 5, 6] rfl)
              · refine lv_iconst (v := nI 1) E.1.1 E.1.2.1 dX6_count_73 rfl ?_
                refine lv_goto (tgt := 78) E.1.1 E.1.2.1 dX6_count_74 (by decide) ?_
                refine k_add E dX6_count_78 ?_
                refine k_top E (nI (fa_cnt (fun j => dB (∃ n, SS j n = true)) (i + 1))) (by rw [fa_cnt_yes (p := (fun j => dB (∃ n, SS j n = true))) (n := i) (dB_t (Classical.not_not.mp (fun q => c70 ((lg_cmp_eq _ _).mpr ((any_wd (hMS i (by omega)).1).mpr q).2.2))))]) ?_
                refine lv_istore_n (lv' := [(2, .int (nI (fa_cnt (fun j => dB (∃ n, SS j n = true)) (i + 1)))), (4, .int (nI i)), (3, .int (nI (fa_cnt (fun j => dB (∀ i, i < j → SS i ≠ SS j)) i))), (0, .ref (A 0)), (1, .int (nI wh))]) E.1.1 E.1.2.1 dX6_count_79 rfl hl (by decide) rfl (fun ls hl => ?_)
                refine lv_iconst (v := nI 1) E.1.1 E.1.2.1 dX6_count_80 rfl ?_
                refine k_top E (b2i (dB (∀ y, y < 0 → SS y ≠ SS i))) (by rw [dB_t (fun y hy => absurd hy (by omega))]; rfl) ?_
                refine lv_istore (lv' := [(5, .int (b2i (dB (∀ y, y < 0 → SS y ≠ SS i)))), (2, .int (nI (fa_cnt (fun j => dB (∃ n, SS j n = true)) (i + 1)))), (4, .int (nI i)), (3, .int (nI (fa_cnt (fun j => dB (∀ i, i < j → SS i ≠ SS j)) i))), (0, .ref (A 0)), (1, .int (nI wh))]) E.1.1 E.1.2.1 dX6_count_81 hl (by decide) rfl (fun ls hl => ?_)
                refine lv_iconst (v := nI 0) E.1.1 E.1.2.1 dX6_count_83 rfl ?_
                refine lv_istore (lv' := [(6, .int (nI 0)), (5, .int (b2i (dB (∀ y, y < 0 → SS y ≠ SS i)))), (2, .int (nI (fa_cnt (fun j => dB (∃ n, SS j n = true)) (i + 1)))), (4, .int (nI i)), (3, .int (nI (fa_cnt (fun j => dB (∀ i, i < j → SS i ≠ SS j)) i))), (0, .ref (A 0)), (1, .int (nI wh))]) E.1.1 E.1.2.1 dX6_count_84 hl (by decide) rfl (fun ls hl => ?_)
                have lp86 : ∀ (k : Nat) (q1 : Nat) (f : Nat → va_E) (H : Heap) (locs : List Loc) (ls : Array Slot), (i - q1 < k) → (q1 ≤ i) → (cel L f (A 0) (.inr (6, [.int (nI base), .ref (A 1), .ref (A 2), .ref (A 3), .ref (A 4), .int (nI fr), .int (nI pb), .ref (A 5), .int (nI ns), .ref (A 6), .ref (A 7), .ref (A 8)]))) → (cel L f (A 1) (.inl (cy 0, 84, .inl (fun k => nI (T k))))) → (cel L f (A 2) (.inl (cy 0, 84, .inl (fun k => nI (P k))))) → (cel L f (A 3) (.inl (cy 1, 252, .inr (.inl (rw3 B))))) → (cel L f (A 4) (.inl (cy 2, 4096, .inl (fun k => b2i (rr k))))) → (cel L f (A 5) (.inl (cy 0, 325, .inl G))) → (cel L f (A 6) (.inl (cy 0, 65, .inl Fa))) → (cel L f (A 7) (.inl (cy 0, 2, .inl (fun k => nI (kb1 k))))) → (cel L f (A 8) (.inl (cy 2, 2, .inl (fun k => b2i (kp k))))) → (∀ b ∈ L, b ≠ (A 0) → b ≠ (A 1) → b ≠ (A 2) → b ≠ (A 3) → b ≠ (A 4) → b ≠ (A 5) → b ≠ (A 6) → b ≠ (A 7) → b ≠ (A 8) → f b = f0 b) → (WW D (AW L sz) s.heap L f H locs) → (lv_has ls 7 [(6, .int (nI q1)), (5, .int (b2i (dB (∀ y, y < q1 → SS y ≠ SS i)))), (4, .int (nI i)), (2, .int (nI (fa_cnt (fun j => dB (∃ n, SS j n = true)) (i + 1)))), (3, .int (nI (fa_cnt (fun j => dB (∀ i, i < j → SS i ≠ SS j)) i))), (0, .ref (A 0)), (1, .int (nI wh))]) → W p l e R s m args below meth c H locs 0 0 Q (F0 m 86 ls []) := by
                  intro k
                  induction k with
                  | zero => intro _ _ _ _ _ hk; exact absurd hk (Nat.not_lt_zero _)
                  | succ k ih86 =>
                    intro q1 f H locs ls hk hq1 h_o h_ts h_ps h_bs h_rw h_gs h_fa h_ba h_it hF hw hl
                    refine lv_iload E.1.1 E.1.2.1 dX6_count_86 (lv_at hl 0 rfl) ?_
                    refine lv_iload E.1.1 E.1.2.1 dX6_count_88 (lv_at hl 2 rfl) ?_
                    refine k_ge (tgt := 122) E dX6_count_90 (by decide) (by omega) (by omega) (fun c90 => ?_) (fun c90 => ?_)
                    · refine lv_iload_n E.1.1 E.1.2.1 dX6_count_122 rfl (lv_at hl 4 rfl) ?_
                      refine lv_iload E.1.1 E.1.2.1 dX6_count_123 (lv_at hl 1 rfl) ?_
                      refine k_if0 (tgt := 132) E dX6_count_125 (by decide) (fun c125 => ?_) (fun c125 => ?_)
                      · refine lv_iconst (v := nI 0) E.1.1 E.1.2.1 dX6_count_132 rfl ?_
                        refine k_add E dX6_count_133 ?_
                        refine k_top E (nI (fa_cnt (fun j => dB (∀ i, i < j → SS i ≠ SS j)) (i + 1))) (by rw [fa_cnt_no (p := (fun j => dB (∀ i, i < j → SS i ≠ SS j))) (n := i) (dB_f (fun q => absurd (dB_t q) (by rw [show q1 = i by omega] at c125; rw [c125]; decide))), Nat.add_zero]) ?_
                        refine lv_istore_n (lv' := [(3, .int (nI (fa_cnt (fun j => dB (∀ i, i < j → SS i ≠ SS j)) (i + 1)))), (6, .int (nI q1)), (5, .int (b2i (dB (∀ y, y < q1 → SS y ≠ SS i)))), (4, .int (nI i)), (2, .int (nI (fa_cnt (fun j => dB (∃ n, SS j n = true)) (i + 1)))), (0, .ref (A 0)), (1, .int (nI wh))]) E.1.1 E.1.2.1 dX6_count_134 rfl hl (by decide) rfl (fun ls hl => ?_)
                        refine lv_iinc (v := nI (i + 1)) (lv' := [(4, .int (nI (i + 1))), (3, .int (nI (fa_cnt (fun j => dB (∀ i, i < j → SS i ≠ SS j)) (i + 1)))), (6, .int (nI q1)), (5, .int (b2i (dB (∀ y, y < q1 → SS y ≠ SS i)))), (2, .int (nI (fa_cnt (fun j => dB (∃ n, SS j n = true)) (i + 1)))), (0, .ref (A 0)), (1, .int (nI wh))]) E.1.1 E.1.2.1 dX6_count_135 hl (k := 3) rfl (nI_1 _) (by decide) rfl (fun ls hl => ?_)
                        refine lv_goto (tgt := 19) E.1.1 E.1.2.1 dX6_count_138 (by decide) ?_
                        exact ih19  (i + 1) f H locs ls (by omega) (by omega) h_o h_ts h_ps h_bs h_rw h_gs h_fa h_ba h_it hF hw (lv_sub hl [0, 4, 1, 5, 6] rfl)
                      · refine lv_iconst (v := nI 1) E.1.1 E.1.2.1 dX6_count_128 rfl ?_
                        refine lv_goto (tgt := 133) E.1.1 E.1.2.1 dX6_count_129 (by decide) ?_
                        refine k_add E dX6_count_133 ?_
                        refine k_top E (nI (fa_cnt (fun j => dB (∀ i, i < j → SS i ≠ SS j)) (i + 1))) (by rw [fa_cnt_yes (p := (fun j => dB (∀ i, i < j → SS i ≠ SS j))) (n := i) (dB_t (by rw [show q1 = i by omega] at c125; exact dB_iff.mp c125))]) ?_
                        refine lv_istore_n (lv' := [(3, .int (nI (fa_cnt (fun j => dB (∀ i, i < j → SS i ≠ SS j)) (i + 1)))), (6, .int (nI q1)), (5, .int (b2i (dB (∀ y, y < q1 → SS y ≠ SS i)))), (4, .int (nI i)), (2, .int (nI (fa_cnt (fun j => dB (∃ n, SS j n = true)) (i + 1)))), (0, .ref (A 0)), (1, .int (nI wh))]) E.1.1 E.1.2.1 dX6_count_134 rfl hl (by decide) rfl (fun ls hl => ?_)
                        refine lv_iinc (v := nI (i + 1)) (lv' := [(4, .int (nI (i + 1))), (3, .int (nI (fa_cnt (fun j => dB (∀ i, i < j → SS i ≠ SS j)) (i + 1)))), (6, .int (nI q1)), (5, .int (b2i (dB (∀ y, y < q1 → SS y ≠ SS i)))), (2, .int (nI (fa_cnt (fun j => dB (∃ n, SS j n = true)) (i + 1)))), (0, .ref (A 0)), (1, .int (nI wh))]) E.1.1 E.1.2.1 dX6_count_135 hl (k := 3) rfl (nI_1 _) (by decide) rfl (fun ls hl => ?_)
                        refine lv_goto (tgt := 19) E.1.1 E.1.2.1 dX6_count_138 (by decide) ?_
                        exact ih19  (i + 1) f H locs ls (by omega) (by omega) h_o h_ts h_ps h_bs h_rw h_gs h_fa h_ba h_it hF hw (lv_sub hl [0, 4, 1, 5, 6] rfl)
                    · refine lv_iload E.1.1 E.1.2.1 dX6_count_93 (lv_at hl 1 rfl) ?_
                      refine k_if0 (tgt := 113) E dX6_count_95 (by decide) (fun c95 => ?_) (fun c95 => ?_)
                      · refine lv_iconst (v := nI 0) E.1.1 E.1.2.1 dX6_count_113 rfl ?_
                        refine k_top E (b2i (dB (∀ y, y < (q1 + 1) → SS y ≠ SS i))) (by rw [dB_f (fun h => absurd (dB_t (show ∀ y, y < q1 → SS y ≠ SS i from fun y hy => h y (by omega))) (by rw [c95]; decide))]; rfl) ?_
                        refine lv_istore (lv' := [(5, .int (b2i (dB (∀ y, y < (q1 + 1) → SS y ≠ SS i)))), (6, .int (nI q1)), (4, .int (nI i)), (2, .int (nI (fa_cnt (fun j => dB (∃ n, SS j n = true)) (i + 1)))), (3, .int (nI (fa_cnt (fun j => dB (∀ i, i < j → SS i ≠ SS j)) i))), (0, .ref (A 0)), (1, .int (nI wh))]) E.1.1 E.1.2.1 dX6_count_114 hl (by decide) rfl (fun ls hl => ?_)
                        refine lv_iinc (v := nI (q1 + 1)) (lv' := [(6, .int (nI (q1 + 1))), (5, .int (b2i (dB (∀ y, y < (q1 + 1) → SS y ≠ SS i)))), (4, .int (nI i)), (2, .int (nI (fa_cnt (fun j => dB (∃ n, SS j n = true)) (i + 1)))), (3, .int (nI (fa_cnt (fun j => dB (∀ i, i < j → SS i ≠ SS j)) i))), (0, .ref (A 0)), (1, .int (nI wh))]) E.1.1 E.1.2.1 dX6_count_116 hl (k := 1) rfl (nI_1 _) (by decide) rfl (fun ls hl => ?_)
                        refine lv_goto (tgt := 86) E.1.1 E.1.2.1 dX6_count_119 (by decide) ?_
                        exact ih86  (q1 + 1) f H locs ls (by omega) (by omega) h_o h_ts h_ps h_bs h_rw h_gs h_fa h_ba h_it hF hw (lv_sub hl [0, 1, 2, 3, 4, 5, 6] rfl)
                      · refine lv_aload_n E.1.1 E.1.2.1 dX6_count_98 rfl (lv_at hl 5 rfl) ?_
                        refine lv_iload E.1.1 E.1.2.1 dX6_count_99 (lv_at hl 0 rfl) ?_
                        refine lv_iload E.1.1 E.1.2.1 dX6_count_101 (lv_at hl 2 rfl) ?_
                        refine k_ri (va_runV (As := [.int (nI q1), .int (nI i)]) (rest := []) E.1 (m_areSame l D cy L f H.size A base fr pb ns T P B rr G hA hTP q1 i (by omega) (by omega) h_o h_ts h_ps h_bs) ⟨callB_of 2 E.1.2.2.2.2 (gd_own w3_83) rfl rfl rfl (E.1.2.2.2.2 _ w1_10) (E.1.2.2.2.2 _ w3_80) hd_X6_areSame (by rw [hR]; exact ⟨Nat.le_of_ble_eq_true rfl, Nat.le_of_ble_eq_true rfl⟩), E.1.2.2.2.2 _ w3_82, E.1.2.2.2.2 _ ws_34⟩ (pw_preV (q := (RX6, TX6, 12)) E.2 hw h_o rfl) rfl rfl hl.1 rfl (lv_room (Nat.le_of_ble_eq_true rfl)) dX6_count_103 ⟨Nat.zero_le _, Nat.zero_le _⟩) ?_
                        refine k_if1 (tgt := 113) E dX6_count_106 (by decide) (fun c106 => ?_) (fun c106 => ?_)
                        · refine lv_iconst (v := nI 0) E.1.1 E.1.2.1 dX6_count_113 rfl ?_
                          refine k_top E (b2i (dB (∀ y, y < (q1 + 1) → SS y ≠ SS i))) (by rw [dB_f (fun h => h q1 (by omega) ((same_iff (hMS q1 (by omega)).1 (hMS i (by omega)).1).mp (dB_iff.mp c106)))]; rfl) ?_
                          refine lv_istore (lv' := [(5, .int (b2i (dB (∀ y, y < (q1 + 1) → SS y ≠ SS i)))), (6, .int (nI q1)), (4, .int (nI i)), (2, .int (nI (fa_cnt (fun j => dB (∃ n, SS j n = true)) (i + 1)))), (3, .int (nI (fa_cnt (fun j => dB (∀ i, i < j → SS i ≠ SS j)) i))), (0, .ref (A 0)), (1, .int (nI wh))]) E.1.1 E.1.2.1 dX6_count_114 hl (by decide) rfl (fun ls hl => ?_)
                          refine lv_iinc (v := nI (q1 + 1)) (lv' := [(6, .int (nI (q1 + 1))), (5, .int (b2i (dB (∀ y, y < (q1 + 1) → SS y ≠ SS i)))), (4, .int (nI i)), (2, .int (nI (fa_cnt (fun j => dB (∃ n, SS j n = true)) (i + 1)))), (3, .int (nI (fa_cnt (fun j => dB (∀ i, i < j → SS i ≠ SS j)) i))), (0, .ref (A 0)), (1, .int (nI wh))]) E.1.1 E.1.2.1 dX6_count_116 hl (k := 1) rfl (nI_1 _) (by decide) rfl (fun ls hl => ?_)
                          refine lv_goto (tgt := 86) E.1.1 E.1.2.1 dX6_count_119 (by decide) ?_
                          exact ih86  (q1 + 1) f H locs ls (by omega) (by omega) h_o h_ts h_ps h_bs h_rw h_gs h_fa h_ba h_it hF hw (lv_sub hl [0, 1, 2, 3, 4, 5, 6] rfl)
                        · refine lv_iconst (v := nI 1) E.1.1 E.1.2.1 dX6_count_109 rfl ?_
                          refine lv_goto (tgt := 114) E.1.1 E.1.2.1 dX6_count_110 (by decide) ?_
                          refine k_top E (b2i (dB (∀ y, y < (q1 + 1) → SS y ≠ SS i))) (by rw [dB_t (lt_s (dB_iff.mp c95) (fun q => absurd (dB_t ((same_iff (hMS q1 (by omega)).1 (hMS i (by omega)).1).mpr q)) (by rw [c106]; decide)))]; rfl) ?_
                          refine lv_istore (lv' := [(5, .int (b2i (dB (∀ y, y < (q1 + 1) → SS y ≠ SS i)))), (6, .int (nI q1)), (4, .int (nI i)), (2, .int (nI (fa_cnt (fun j => dB (∃ n, SS j n = true)) (i + 1)))), (3, .int (nI (fa_cnt (fun j => dB (∀ i, i < j → SS i ≠ SS j)) i))), (0, .ref (A 0)), (1, .int (nI wh))]) E.1.1 E.1.2.1 dX6_count_114 hl (by decide) rfl (fun ls hl => ?_)
                          refine lv_iinc (v := nI (q1 + 1)) (lv' := [(6, .int (nI (q1 + 1))), (5, .int (b2i (dB (∀ y, y < (q1 + 1) → SS y ≠ SS i)))), (4, .int (nI i)), (2, .int (nI (fa_cnt (fun j => dB (∃ n, SS j n = true)) (i + 1)))), (3, .int (nI (fa_cnt (fun j => dB (∀ i, i < j → SS i ≠ SS j)) i))), (0, .ref (A 0)), (1, .int (nI wh))]) E.1.1 E.1.2.1 dX6_count_116 hl (k := 1) rfl (nI_1 _) (by decide) rfl (fun ls hl => ?_)
                          refine lv_goto (tgt := 86) E.1.1 E.1.2.1 dX6_count_119 (by decide) ?_
                          exact ih86  (q1 + 1) f H locs ls (by omega) (by omega) h_o h_ts h_ps h_bs h_rw h_gs h_fa h_ba h_it hF hw (lv_sub hl [0, 1, 2, 3, 4, 5, 6] rfl)
                exact lp86 (i - 0 + 1) 0 f H locs ls (Nat.lt_succ_self _) (by omega) h_o h_ts h_ps h_bs h_rw h_gs h_fa h_ba h_it hF hw (lv_sub hl [0, 1, 3, 2, 4, 5, 6] rfl)
    exact lp19 (6 - 0 + 1) 0 f H locs ls (Nat.lt_succ_self _) (by omega) h_o h_ts h_ps h_bs h_rw h_gs h_fa h_ba h_it hF hw (lv_sub hl [0, 2, 1, 3, 4] rfl)
  · refine lv_bipush (v := -2) E.1.1 E.1.2.1 dX6_count_9 rfl ?_
    exact k_miret E hQ hlk hr hw (Nat.le_of_ble_eq_true rfl) (Nat.le_of_ble_eq_true rfl) (⟨rfl, fun b hb h => hF b hb (h 0 (by decide)) (h 1 (by decide)) (h 2 (by decide)) (h 3 (by decide)) (h 4 (by decide)) (h 5 (by decide)) (h 6 (by decide)) (h 7 (by decide)) (h 8 (by decide)), ⟨hB, _, _, _, _, _, _, _, _, _, _, ⟨h_o, h_ts, h_ps, h_bs, h_rw, h_gs, h_fa, h_ba, h_it⟩, hTP, hMS, hMK⟩, by unfold rd_count; rw [if_pos (show i32in what 0 (nI 4) = false from c6)]⟩) dX6_count_11
