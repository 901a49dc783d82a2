set_option maxHeartbeats 4000000 in
set_option maxRecDepth 100000 in
theorem c_reduce (l : Launch) (D : va_G) (cy : Nat → ClassId) (L : List Nat) (f0 : Nat → va_E) (sz : Nat) (d r0 t per : Nat) (b : Nat → Bool) (hb1 : t + per ≤ 3776) (hper : 0 < per) (h_d : cel L f0 d (.inr (0, [.ref r0, .int (nI t), .int (nI per)]))) (h_row : cel L f0 r0 (.inl (cy 1, 59, .inr (.inl (wd b))))) : Met l yX0_reduce (.code yX0_reduce cX0_reduce 2 (Option.some FieldType.boolean) :: wsL_law) { frames := 3, cells := 0, slots := 0, locals := 65 } (va_Pc [.ref d] (PW D cy L f0 sz)) (va_Qi (fun (r : Int32) (u : List Nat × (Nat → va_E)) => L = u.1 ∧ (∀ b ∈ L, b ≠ d → b ≠ r0 → u.2 b = f0 b) ∧ ((r = b2i true ∧ ∃ x q b2, cel L u.2 d (.inr (0, [.ref r0, .int (nI x), .int (nI q)])) ∧ cel L u.2 r0 (.inl (cy 1, 59, .inr (.inl (wd b2)))) ∧ SetIs (den t per b) x q b2) ∨ (r = b2i false ∧ ∃ i1 i2 g, cel L u.2 d (.inr (0, [.ref r0, .int i1, .int i2])) ∧ cel L u.2 r0 (.inl (cy 1, 59, .inr (.inl g))) ∧ ¬ Fits (den t per b)))) (PB D (AW L sz)) (AW L sz)) 0 0 (AW L sz) := by
  refine m_start (by decide) (Nat.le_of_ble_eq_true rfl) ?_
  intro p e R Q s m args below meth c ls hsz hR hQ E hr hlk hnm hw hl
  have hl : lv_has ls 2 [(0, .ref d)] := hl
  obtain ⟨H, hH⟩ : ∃ X, X = s.heap := ⟨_, rfl⟩
  obtain ⟨locs, hlocs⟩ : ∃ X : List Loc, X = [] := ⟨_, rfl⟩
  have hw0 := hw
  obtain ⟨f, hf0⟩ : ∃ X, X = f0 := ⟨_, rfl⟩
  rw [← hf0] at h_d h_row
  have hw : WW D (AW L sz) s.heap L f H locs := by rw [hH, hlocs, hf0]; exact hw
  have hF : ∀ b ∈ L, b ≠ d → b ≠ r0 → f b = f0 b := fun b hb h0 h1 => by rw [hf0]
  suffices hgo : W p l e R s m args below meth c H locs 0 0 Q (F0 m 0 ls []) by rw [hH, hlocs] at hgo; exact hgo
  clear hH hlocs hw0 hf0
  have hLs : ∀ b ∈ L, b ∈ L := fun _ h => h
  have n_d_row : d ≠ r0 := h_d.ne h_row (by simp)
  have n_row_d : r0 ≠ d := h_row.ne h_d (by simp)
  refine lv_aload_n E.1.1 E.1.2.1 dX0_reduce_0 rfl (lv_at hl 0 rfl) ?_
  refine k_rip (va_runV (As := []) (rest := []) E.1 (c_leastPeriod l D cy L f H.size d r0 t per b (by omega) hper h_d h_row) ⟨callB_of 0 E.1.2.2.2.2 (gd_own w1_115) rfl rfl rfl (E.1.2.2.2.2 _ w1_2) (E.1.2.2.2.2 _ w1_112) hd_X0_leastPeriod (by rw [hR]; exact ⟨Nat.le_of_ble_eq_true rfl, Nat.le_of_ble_eq_true rfl⟩), E.1.2.2.2.2 _ w1_114, E.1.2.2.2.2 _ ws_2⟩ (pw_preV (q := (RX0, TX0, 3)) E.2 hw h_d rfl) rfl rfl hl.1 rfl (lv_room (Nat.le_of_ble_eq_true rfl)) dX0_reduce_1 ⟨Nat.zero_le _, Nat.zero_le _⟩) (fun r hp => ?_)
  obtain ⟨q, rfl, hq⟩ := hp
  have hq60 : q ≤ 60 := by rcases hq with h | h <;> omega
  refine lv_istore_n (lv' := [(1, .int (nI q)), (0, .ref d)]) E.1.1 E.1.2.1 dX0_reduce_4 rfl hl (by decide) rfl (fun ls hl => ?_)
  refine lv_iload_n E.1.1 E.1.2.1 dX0_reduce_5 rfl (lv_at hl 0 rfl) ?_
  refine k_z1 (tgt := 11) E dX0_reduce_6 (by decide) (by omega) (fun c6 => ?_) (fun c6 => ?_)
  · have hqper : q ≤ per := by rcases hq with h | h <;> omega
    refine lv_aload_n E.1.1 E.1.2.1 dX0_reduce_11 rfl (lv_at hl 1 rfl) ?_
    refine lv_iload_n E.1.1 E.1.2.1 dX0_reduce_12 rfl (lv_at hl 0 rfl) ?_
    refine k_put (ty0 := tyX0) E inlX0 rfl tyX0_ok nmX0 2 (by decide) w1_38 rfl rfl hw [.ref r0, .int (nI t), .int (nI q)] h_d (rfl) (rfl) (Nat.le_of_ble_eq_true rfl) rfl dX0_reduce_13 (fun f H locs h_d hfr hw => ?_)
    have h_row := h_row.kp hfr n_row_d
    have hF : ∀ b ∈ L, b ≠ d → b ≠ r0 → f b = f0 b := fun b hb h0 h1 => (hfr b h0).trans (hF b hb h0 h1)
    refine lv_aload_n E.1.1 E.1.2.1 dX0_reduce_16 rfl (lv_at hl 1 rfl) ?_
    refine lv_aload_n E.1.1 E.1.2.1 dX0_reduce_17 rfl (lv_at hl 1 rfl) ?_
    refine k_rip (va_runV (As := []) (rest := [.ref d]) E.1 (c_leastStart l D cy L f H.size d r0 t q b (by omega) h_d h_row) ⟨callB_of 0 E.1.2.2.2.2 (gd_own w1_130) rfl rfl rfl (E.1.2.2.2.2 _ w1_2) (E.1.2.2.2.2 _ w1_127) hd_X0_leastStart (by rw [hR]; exact ⟨Nat.le_of_ble_eq_true rfl, Nat.le_of_ble_eq_true rfl⟩), E.1.2.2.2.2 _ w1_129, E.1.2.2.2.2 _ ws_4⟩ (pw_preV (q := (RX0, TX0, 3)) E.2 hw h_d rfl) rfl rfl hl.1 rfl (lv_room (Nat.le_of_ble_eq_true rfl)) dX0_reduce_18 ⟨Nat.zero_le _, Nat.zero_le _⟩) (fun r hp => ?_)
    obtain ⟨x, rfl, hx⟩ := hp
    have hxt := hx.1
    refine k_put (ty0 := tyX0) E inlX0 rfl tyX0_ok nmX0 1 (by decide) w1_35 rfl rfl hw [.ref r0, .int (nI x), .int (nI q)] h_d (rfl) (rfl) (Nat.le_of_ble_eq_true rfl) rfl dX0_reduce_21 (fun f H locs h_d hfr hw => ?_)
    have h_row := h_row.kp hfr n_row_d
    have hF : ∀ b ∈ L, b ≠ d → b ≠ r0 → f b = f0 b := fun b hb h0 h1 => (hfr b h0).trans (hF b hb h0 h1)
    refine lv_aload_n E.1.1 E.1.2.1 dX0_reduce_24 rfl (lv_at hl 1 rfl) ?_
    refine k_mv hw (va_runV (As := []) (rest := []) E.1 (c_clearBehind l D cy L f H.size d r0 x q b (by omega) h_d h_row) ⟨callB_of 0 E.1.2.2.2.2 (gd_own w1_134) rfl rfl rfl (E.1.2.2.2.2 _ w1_2) (E.1.2.2.2.2 _ w1_131) hd_X0_clearBehind (by rw [hR]; exact ⟨Nat.le_of_ble_eq_true rfl, Nat.le_of_ble_eq_true rfl⟩), E.1.2.2.2.2 _ w1_133, E.1.2.2.2.2 _ ws_5⟩ (pw_preV (q := (RX0, TX0, 3)) E.2 hw h_d rfl) rfl rfl hl.1 rfl (lv_room (Nat.le_of_ble_eq_true rfl)) dX0_reduce_25 (by rw [hR]; exact ⟨Nat.le_of_ble_eq_true rfl, Nat.le_of_ble_eq_true rfl⟩)) (fun L1 f H locs hp hw => ?_)
    obtain ⟨hL1, hfr, h_row⟩ := hp
    have hL1 : L = L1 := hL1
    subst hL1
    have h_row : cel L f r0 (.inl (cy 1, 59, .inr (.inl (wd (bclr b (x + q) 192))))) := h_row
    have h_d := h_d.keep (fun _ h => h) (hfr _ h_d.1 n_d_row)
    have hF : ∀ b ∈ L, b ≠ d → b ≠ r0 → f b = f0 b := fun b hb h0 h1 => (hfr b (hLs b hb) h1).trans (hF b hb h0 h1)
    refine lv_aload_n E.1.1 E.1.2.1 dX0_reduce_28 rfl (lv_at hl 1 rfl) ?_
    refine k_get (v := .int (nI x)) E inlX0 rfl 1 (by decide) w1_35 rfl hw h_d rfl dX0_reduce_29 ?_
    refine lv_bipush (v := nI 120) E.1.1 E.1.2.1 dX0_reduce_32 rfl ?_
    refine k_gt (tgt := 41) E dX0_reduce_34 (by decide) (by omega) (by omega) (fun c34 => ?_) (fun c34 => ?_)
    · refine lv_iconst (v := nI 0) E.1.1 E.1.2.1 dX0_reduce_41 rfl ?_
      refine k_top E (b2i false) rfl ?_
      exact k_mzret E hQ hlk hr hw (Nat.le_of_ble_eq_true rfl) (Nat.le_of_ble_eq_true rfl) (⟨rfl, hF, Or.inr ⟨rfl, _, _, _, h_d, h_row, red_unfit hper hq c6 hx c34⟩⟩) dX0_reduce_42
    · refine lv_iconst (v := nI 1) E.1.1 E.1.2.1 dX0_reduce_37 rfl ?_
      refine lv_goto (tgt := 42) E.1.1 E.1.2.1 dX0_reduce_38 (by decide) ?_
      refine k_top E (b2i true) rfl ?_
      exact k_mzret E hQ hlk hr hw (Nat.le_of_ble_eq_true rfl) (Nat.le_of_ble_eq_true rfl) (⟨rfl, hF, Or.inl ⟨rfl, x, q, _, h_d, h_row, red_set hper hq c6 hx c34⟩⟩) dX0_reduce_42
  · refine lv_iconst (v := nI 0) E.1.1 E.1.2.1 dX0_reduce_9 rfl ?_
    refine k_top E (b2i false) rfl ?_
    exact k_mzret E hQ hlk hr hw (Nat.le_of_ble_eq_true rfl) (Nat.le_of_ble_eq_true rfl) (⟨rfl, hF, Or.inr ⟨rfl, _, _, _, h_d, h_row, red_unfit0 hper (c6 ▸ hq)⟩⟩) dX0_reduce_10
