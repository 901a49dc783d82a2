theorem rw3_none : rw3 (fun _ _ => false) = fun _ => 0 := by
  funext w
  unfold rw3
  exact wd_zero (fun _ _ => rfl)
theorem ad_of {L M : List Nat} (hl : M.length = 12) (hn : M.Nodup) (hL : ∀ x ∈ M, x ∈ L) : AdOK L M (fun i => M.getD i 0) := by
  refine ⟨fun i hi => ?_, fun i j hi hj e => ?_, hL⟩
  · have h : i < M.length := by omega
    show M.getD i 0 ∈ M
    rw [List.getD_eq_getElem?_getD, List.getElem?_eq_getElem h]
    exact List.getElem_mem h
  · have h1 : i < M.length := by omega
    have h2 : j < M.length := by omega
    have e2 : M.getD i 0 = M.getD j 0 := e
    rw [List.getD_eq_getElem?_getD, List.getD_eq_getElem?_getD, List.getElem?_eq_getElem h1, List.getElem?_eq_getElem h2] at e2
    have e3 : M[i]? = M[j]? := by rw [List.getElem?_eq_getElem h1, List.getElem?_eq_getElem h2]; exact congrArg some e2
    exact (List.getElem?_inj h1 hn).mp e3
set_option maxHeartbeats 4000000 in
set_option maxRecDepth 100000 in
theorem c_Draft_init (l : Launch) (D : va_G) (cy : Nat → ClassId) (L : List Nat) (f0 : Nat → va_E) (sz : Nat) (h0 : Nat) (h_o : cel L f0 h0 (.inr (0, [.null, .int 0, .int 0]))) : Met l yX0_init (.code yX0_init cX0_init 1 none :: wsL_law) { frames := 1, cells := 1, slots := 59, locals := 12 } (va_Pc [.ref h0] (PW D cy L f0 sz)) (va_Qv (fun u : List Nat × (Nat → va_E) => (∀ b ∈ L, b ∈ u.1) ∧ (∀ b ∈ L, b ≠ h0 → u.2 b = f0 b) ∧ ∃ row, row ∉ L ∧ cel u.1 u.2 row (.inl (cy 1, 59, .inr (.inl (fun _ => 0)))) ∧ cel u.1 u.2 h0 (.inr (0, [.ref row, .int 0, .int 0]))) (PB D (AW L sz)) (AW L sz)) 1 59 (AW L sz) := by
  refine m_start (by decide) (Nat.le_of_ble_eq_true rfl) ?_
  intro p e R Q s m args below meth c ls hsz hR hQ E hr hlk hnm hw hl
  have hl : lv_has ls 1 [(0, .ref h0)] := hl
  obtain ⟨H, hH⟩ : ∃ X, X = s.heap := ⟨_, rfl⟩
  obtain ⟨locs, hlocs⟩ : ∃ X : List Loc, X = [] := ⟨_, rfl⟩
  have hw0 := hw
  obtain ⟨f, hf0⟩ : ∃ X, X = f0 := ⟨_, rfl⟩
  rw [← hf0] at h_o
  have hw : WW D (AW L sz) s.heap L f H locs := by rw [hH, hlocs, hf0]; exact hw
  have hF : ∀ b ∈ L, b ≠ h0 → f b = f0 b := fun b hb h0 => by rw [hf0]
  suffices hgo : W p l e R s m args below meth c H locs 0 0 Q (F0 m 0 ls []) by rw [hH, hlocs] at hgo; exact hgo
  clear hH hlocs hw0 hf0
  have hLs : ∀ b ∈ L, b ∈ L := fun _ h => h
  refine lv_aload_n E.1.1 E.1.2.1 dX0_init_0 rfl (lv_at hl 0 rfl) ?_
  refine W.objInit E.1.1 E.1.2.1 E.1.2.2.2.1 (E.1.2.2.2.2 _ w1_29) (E.1.2.2.2.2 _ w1_18) (E.1.2.2.2.2 _ w1_19) rfl (by rw [E.1.2.2.1]; exact hl.1) rfl dX0_init_1 (by rw [hR]; exact Nat.le_of_ble_eq_true rfl) (by rw [hR]; exact Nat.le_of_ble_eq_true rfl) ?_
  refine W.eq (g2 := F0 m 4 ls []) rfl ?_
  refine lv_aload_n E.1.1 E.1.2.1 dX0_init_4 rfl (lv_at hl 0 rfl) ?_
  refine lv_bipush (v := nI 59) E.1.1 E.1.2.1 dX0_init_5 rfl ?_
  refine k_newa (atype := .long) E rfl w1_46 1 rfl hw (59, .inr (.inl (fun _ => 0))) (fun cB => rfl) (by omega) (by decide) (by rw [hR]; exact Nat.le_of_ble_eq_true rfl) (by rw [hR]; exact Nat.le_of_ble_eq_true rfl) dX0_init_7 (fun row f H hq_row h_row hfr hw => ?_)
  have n_o_row : h0 ≠ row := fun h => hq_row (h ▸ h_o.1)
  have n_row_o := Ne.symm n_o_row
  have h_o := h_o.keep (sub_snoc (a := row)) (hfr _ n_o_row)
  have hd_row : ∀ b ∈ L, b ≠ row := fun b hb h => hq_row (h ▸ hLs b hb)
  have hF : ∀ b ∈ L, b ≠ h0 → f b = f0 b := fun b hb h0 => (hfr b (hd_row b hb)).trans (hF b hb h0)
  have hLs : ∀ b ∈ L, b ∈ L ++ [row] := fun b hb => List.mem_append_left _ (hLs b hb)
  refine W.cs (cells' := 1) (slots' := 59) rfl rfl ?_
  refine k_putF (ty0 := tyX0) E inlX0 rfl tyX0_ok nmX0 0 (by decide) w1_30 rfl rfl hnm rfl hw [.ref row, .int 0, .int 0] h_o (rfl) (rfl) (Nat.le_of_ble_eq_true rfl) rfl dX0_init_9 (fun f H locs h_o hfr hw => ?_)
  have h_row := h_row.kp hfr n_row_o
  have hF : ∀ b ∈ L, b ≠ h0 → f b = f0 b := fun b hb h0 => (hfr b h0).trans (hF b hb h0)
  exact k_mvret E hQ hlk hr hw (Nat.le_of_ble_eq_true rfl) (Nat.le_of_ble_eq_true rfl) (⟨hLs, hF, row, fun h => hd_row row h rfl, h_row, h_o⟩) dX0_init_12

set_option maxHeartbeats 4000000 in
set_option maxRecDepth 100000 in
theorem c_Tracer_init (l : Launch) (D : va_G) (cy : Nat → ClassId) (L : List Nat) (f0 : Nat → va_E) (sz : Nat) (h0 : Nat) (h_o : cel L f0 h0 (.inr (4, [.null, .null, .int 0, .int 0, .int 0, .int 0]))) : Met l yX4_init (.code yX4_init cX4_init 1 none :: wsL_law) { frames := 1, cells := 2, slots := 515, locals := 12 } (va_Pc [.ref h0] (PW D cy L f0 sz)) (va_Qv (fun u : List Nat × (Nat → va_E) => (∀ b ∈ L, b ∈ u.1) ∧ (∀ b ∈ L, b ≠ h0 → u.2 b = f0 b) ∧ ∃ ro go, ro ∉ L ∧ go ∉ L ∧ cel u.1 u.2 ro (.inl (cy 1, 195, .inr (.inl (fun _ => 0)))) ∧ cel u.1 u.2 go (.inl (cy 0, 320, .inl (fun _ => 0))) ∧ cel u.1 u.2 h0 (.inr (4, [.ref ro, .ref go, .int 0, .int 0, .int 0, .int 0]))) (PB D (AW L sz)) (AW L sz)) 2 515 (AW L sz) := by
  refine m_start (by decide) (Nat.le_of_ble_eq_true rfl) ?_
  intro p e R Q s m args below meth c ls hsz hR hQ E hr hlk hnm hw hl
  have hl : lv_has ls 1 [(0, .ref h0)] := hl
  obtain ⟨H, hH⟩ : ∃ X, X = s.heap := ⟨_, rfl⟩
  obtain ⟨locs, hlocs⟩ : ∃ X : List Loc, X = [] := ⟨_, rfl⟩
  have hw0 := hw
  obtain ⟨f, hf0⟩ : ∃ X, X = f0 := ⟨_, rfl⟩
  rw [← hf0] at h_o
  have hw : WW D (AW L sz) s.heap L f H locs := by rw [hH, hlocs, hf0]; exact hw
  have hF : ∀ b ∈ L, b ≠ h0 → f b = f0 b := fun b hb h0 => by rw [hf0]
  suffices hgo : W p l e R s m args below meth c H locs 0 0 Q (F0 m 0 ls []) by rw [hH, hlocs] at hgo; exact hgo
  clear hH hlocs hw0 hf0
  have hLs : ∀ b ∈ L, b ∈ L := fun _ h => h
  refine lv_aload_n E.1.1 E.1.2.1 dX4_init_0 rfl (lv_at hl 0 rfl) ?_
  refine W.objInit E.1.1 E.1.2.1 E.1.2.2.2.1 (E.1.2.2.2.2 _ w1_52) (E.1.2.2.2.2 _ w1_18) (E.1.2.2.2.2 _ w1_19) rfl (by rw [E.1.2.2.1]; exact hl.1) rfl dX4_init_1 (by rw [hR]; exact Nat.le_of_ble_eq_true rfl) (by rw [hR]; exact Nat.le_of_ble_eq_true rfl) ?_
  refine W.eq (g2 := F0 m 4 ls []) rfl ?_
  refine lv_aload_n E.1.1 E.1.2.1 dX4_init_4 rfl (lv_at hl 0 rfl) ?_
  refine lv_sipush (v := nI 195) E.1.1 E.1.2.1 dX4_init_5 rfl ?_
  refine k_newa (atype := .long) E rfl w1_46 1 rfl hw (195, .inr (.inl (fun _ => 0))) (fun cB => rfl) (by omega) (by decide) (by rw [hR]; exact Nat.le_of_ble_eq_true rfl) (by rw [hR]; exact Nat.le_of_ble_eq_true rfl) dX4_init_8 (fun ro f H hq_ro h_ro hfr hw => ?_)
  have n_o_ro : h0 ≠ ro := fun h => hq_ro (h ▸ h_o.1)
  have n_ro_o := Ne.symm n_o_ro
  have h_o := h_o.keep (sub_snoc (a := ro)) (hfr _ n_o_ro)
  have hd_ro : ∀ b ∈ L, b ≠ ro := fun b hb h => hq_ro (h ▸ hLs b hb)
  have hF : ∀ b ∈ L, b ≠ h0 → f b = f0 b := fun b hb h0 => (hfr b (hd_ro b hb)).trans (hF b hb h0)
  have hLs : ∀ b ∈ L, b ∈ L ++ [ro] := fun b hb => List.mem_append_left _ (hLs b hb)
  refine W.cs (cells' := 1) (slots' := 195) rfl rfl ?_
  refine k_putF (ty0 := tyX4) E inlX4 rfl tyX4_ok nmX4 0 (by decide) w1_53 rfl rfl hnm rfl hw [.ref ro, .null, .int 0, .int 0, .int 0, .int 0] h_o (rfl) (rfl) (Nat.le_of_ble_eq_true rfl) rfl dX4_init_10 (fun f H locs h_o hfr hw => ?_)
  have h_ro := h_ro.kp hfr n_ro_o
  have hF : ∀ b ∈ L, b ≠ h0 → f b = f0 b := fun b hb h0 => (hfr b h0).trans (hF b hb h0)
  refine lv_aload_n E.1.1 E.1.2.1 dX4_init_13 rfl (lv_at hl 0 rfl) ?_
  refine lv_sipush (v := nI 320) E.1.1 E.1.2.1 dX4_init_14 rfl ?_
  refine k_newa (atype := .int) E rfl w1_72 0 rfl hw (320, .inl (fun _ => 0)) (fun cB => rfl) (by omega) (by decide) (by rw [hR]; exact Nat.le_of_ble_eq_true rfl) (by rw [hR]; exact Nat.le_of_ble_eq_true rfl) dX4_init_17 (fun go f H hq_go h_go hfr hw => ?_)
  have n_o_go : h0 ≠ go := fun h => hq_go (h ▸ h_o.1)
  have n_go_o := Ne.symm n_o_go
  have h_o := h_o.keep (sub_snoc (a := go)) (hfr _ n_o_go)
  have n_ro_go : ro ≠ go := fun h => hq_go (h ▸ h_ro.1)
  have n_go_ro := Ne.symm n_ro_go
  have h_ro := h_ro.keep (sub_snoc (a := go)) (hfr _ n_ro_go)
  have hd_go : ∀ b ∈ L, b ≠ go := fun b hb h => hq_go (h ▸ hLs b hb)
  have hF : ∀ b ∈ L, b ≠ h0 → f b = f0 b := fun b hb h0 => (hfr b (hd_go b hb)).trans (hF b hb h0)
  have hLs : ∀ b ∈ L, b ∈ (L ++ [ro]) ++ [go] := fun b hb => List.mem_append_left _ (hLs b hb)
  refine W.cs (cells' := 2) (slots' := 515) rfl rfl ?_
  refine k_putF (ty0 := tyX4) E inlX4 rfl tyX4_ok nmX4 1 (by decide) w1_54 rfl rfl hnm rfl hw [.ref ro, .ref go, .int 0, .int 0, .int 0, .int 0] h_o (rfl) (rfl) (Nat.le_of_ble_eq_true rfl) rfl dX4_init_19 (fun f H locs h_o hfr hw => ?_)
  have h_ro := h_ro.kp hfr n_ro_o
  have h_go := h_go.kp hfr n_go_o
  have hF : ∀ b ∈ L, b ≠ h0 → f b = f0 b := fun b hb h0 => (hfr b h0).trans (hF b hb h0)
  exact k_mvret E hQ hlk hr hw (Nat.le_of_ble_eq_true rfl) (Nat.le_of_ble_eq_true rfl) (⟨hLs, hF, ro, go, fun h => hd_ro ro h rfl, fun h => hd_go go h rfl, h_ro, h_go, h_o⟩) dX4_init_22

set_option maxHeartbeats 4000000 in
set_option maxRecDepth 100000 in
theorem c_Image_init (l : Launch) (D : va_G) (cy : Nat → ClassId) (L : List Nat) (f0 : Nat → va_E) (sz : Nat) (h0 : Nat) (h_o : cel L f0 h0 (.inr (1, [.null, .int 0, .int 0]))) : Met l yX1_init (.code yX1_init cX1_init 1 none :: wsL_law) { frames := 1, cells := 1, slots := 6, locals := 12 } (va_Pc [.ref h0] (PW D cy L f0 sz)) (va_Qv (fun u : List Nat × (Nat → va_E) => (∀ b ∈ L, b ∈ u.1) ∧ (∀ b ∈ L, b ≠ h0 → u.2 b = f0 b) ∧ ∃ se, se ∉ L ∧ cel u.1 u.2 se (.inl (cy 4, 6, .inr (.inr (.inr (.inr (fun _ => none)))))) ∧ cel u.1 u.2 h0 (.inr (1, [.ref se, .int (nI 2), .int (b2i false)]))) (PB D (AW L sz)) (AW L sz)) 1 6 (AW L sz) := by
  refine m_start (by decide) (Nat.le_of_ble_eq_true rfl) ?_
  intro p e R Q s m args below meth c ls hsz hR hQ E hr hlk hnm hw hl
  have hl : lv_has ls 1 [(0, .ref h0)] := hl
  obtain ⟨H, hH⟩ : ∃ X, X = s.heap := ⟨_, rfl⟩
  obtain ⟨locs, hlocs⟩ : ∃ X : List Loc, X = [] := ⟨_, rfl⟩
  have hw0 := hw
  obtain ⟨f, hf0⟩ : ∃ X, X = f0 := ⟨_, rfl⟩
  rw [← hf0] at h_o
  have hw : WW D (AW L sz) s.heap L f H locs := by rw [hH, hlocs, hf0]; exact hw
  have hF : ∀ b ∈ L, b ≠ h0 → f b = f0 b := fun b hb h0 => by rw [hf0]
  suffices hgo : W p l e R s m args below meth c H locs 0 0 Q (F0 m 0 ls []) by rw [hH, hlocs] at hgo; exact hgo
  clear hH hlocs hw0 hf0
  have hLs : ∀ b ∈ L, b ∈ L := fun _ h => h
  refine lv_aload_n E.1.1 E.1.2.1 dX1_init_0 rfl (lv_at hl 0 rfl) ?_
  refine W.objInit E.1.1 E.1.2.1 E.1.2.2.2.1 (E.1.2.2.2.2 _ w1_77) (E.1.2.2.2.2 _ w1_18) (E.1.2.2.2.2 _ w1_19) rfl (by rw [E.1.2.2.1]; exact hl.1) rfl dX1_init_1 (by rw [hR]; exact Nat.le_of_ble_eq_true rfl) (by rw [hR]; exact Nat.le_of_ble_eq_true rfl) ?_
  refine W.eq (g2 := F0 m 4 ls []) rfl ?_
  refine lv_aload_n E.1.1 E.1.2.1 dX1_init_4 rfl (lv_at hl 0 rfl) ?_
  refine lv_bipush (v := nI 6) E.1.1 E.1.2.1 dX1_init_5 rfl ?_
  refine k_newq E w1_78 E.2.2.2.2 4 rfl hw (by decide) (by decide) (by rw [hR]; exact Nat.le_of_ble_eq_true rfl) (by rw [hR]; exact Nat.le_of_ble_eq_true rfl) dX1_init_7 (fun se f H hq_se h_se hfr hw => ?_)
  have n_o_se : h0 ≠ se := fun h => hq_se (h ▸ h_o.1)
  have n_se_o := Ne.symm n_o_se
  have h_o := h_o.keep (sub_snoc (a := se)) (hfr _ n_o_se)
  have hd_se : ∀ b ∈ L, b ≠ se := fun b hb h => hq_se (h ▸ hLs b hb)
  have hF : ∀ b ∈ L, b ≠ h0 → f b = f0 b := fun b hb h0 => (hfr b (hd_se b hb)).trans (hF b hb h0)
  have hLs : ∀ b ∈ L, b ∈ L ++ [se] := fun b hb => List.mem_append_left _ (hLs b hb)
  refine W.cs (cells' := 1) (slots' := 6) rfl rfl ?_
  refine k_putF (ty0 := tyX1) E inlX1 rfl tyX1_ok nmX1 0 (by decide) w1_79 rfl rfl hnm rfl hw [.ref se, .int 0, .int 0] h_o (rfl) (rfl) (Nat.le_of_ble_eq_true rfl) rfl dX1_init_10 (fun f H locs h_o hfr hw => ?_)
  have h_se := h_se.kp hfr n_se_o
  have hF : ∀ b ∈ L, b ≠ h0 → f b = f0 b := fun b hb h0 => (hfr b h0).trans (hF b hb h0)
  refine lv_aload_n E.1.1 E.1.2.1 dX1_init_13 rfl (lv_at hl 0 rfl) ?_
  refine lv_iconst (v := nI 2) E.1.1 E.1.2.1 dX1_init_14 rfl ?_
  refine k_put (ty0 := tyX1) E inlX1 rfl tyX1_ok nmX1 1 (by decide) w1_80 rfl rfl hw [.ref se, .int (nI 2), .int 0] h_o (rfl) (rfl) (Nat.le_of_ble_eq_true rfl) rfl dX1_init_15 (fun f H locs h_o hfr hw => ?_)
  have h_se := h_se.kp hfr n_se_o
  have hF : ∀ b ∈ L, b ≠ h0 → f b = f0 b := fun b hb h0 => (hfr b h0).trans (hF b hb h0)
  refine lv_aload_n E.1.1 E.1.2.1 dX1_init_18 rfl (lv_at hl 0 rfl) ?_
  refine lv_iconst (v := nI 0) E.1.1 E.1.2.1 dX1_init_19 rfl ?_
  refine W.eq (g2 := F0 m 20 ls (.int (b2i false) :: .ref h0 :: [])) rfl ?_
  refine k_put (ty0 := tyX1) E inlX1 rfl tyX1_ok nmX1 2 (by decide) w1_81 rfl rfl hw [.ref se, .int (nI 2), .int (b2i false)] h_o (by decide +kernel) (by decide +kernel) (Nat.le_of_ble_eq_true rfl) rfl dX1_init_20 (fun f H locs h_o hfr hw => ?_)
  have h_se := h_se.kp hfr n_se_o
  have hF : ∀ b ∈ L, b ≠ h0 → f b = f0 b := fun b hb h0 => (hfr b h0).trans (hF b hb h0)
  exact k_mvret E hQ hlk hr hw (Nat.le_of_ble_eq_true rfl) (Nat.le_of_ble_eq_true rfl) (⟨hLs, hF, se, fun h => hd_se se h rfl, h_se, h_o⟩) dX1_init_23

set_option maxHeartbeats 4000000 in
set_option maxRecDepth 100000 in
theorem c_init (l : Launch) (D : va_G) (cy : Nat → ClassId) (L : List Nat) (f0 : Nat → va_E) (sz : Nat) (nm : Nat) (h_nm : cel L f0 nm (.inr (5, [.null, .null, .null, .null, .int 0]))) : Met l yX5_init (.code yX5_init cX5_init 2 none :: wsL_law) { frames := 6, cells := 15, slots := 940, locals := 129 } (va_Pc [.ref nm] (PW D cy L f0 sz)) (va_Qv (fun u : List Nat × (Nat → va_E) => (∀ b ∈ L, b ∈ u.1) ∧ (∀ b ∈ L, b ≠ nm → u.2 b = f0 b) ∧ ∃ (M : List Nat) (A : Nat → Nat), A 0 = nm ∧ AdOK u.1 M A ∧ (∀ i, 0 < i → i < 12 → A i ∉ L) ∧ NmW cy u.1 u.2 M A 2 (fun _ _ => false) (fun _ => false) (fun _ => 2) (fun _ _ _ => false)) (PB D (AW L sz)) (AW L sz)) 15 940 (AW L sz) := by
  refine m_start (by decide) (Nat.le_of_ble_eq_true rfl) ?_
  intro p e R Q s m args below meth c ls hsz hR hQ E hr hlk hnm hw hl
  have hl : lv_has ls 2 [(0, .ref nm)] := hl
  obtain ⟨H, hH⟩ : ∃ X, X = s.heap := ⟨_, rfl⟩
  obtain ⟨locs, hlocs⟩ : ∃ X : List Loc, X = [] := ⟨_, rfl⟩
  have hw0 := hw
  obtain ⟨f, hf0⟩ : ∃ X, X = f0 := ⟨_, rfl⟩
  rw [← hf0] at h_nm
  have hw : WW D (AW L sz) s.heap L f H locs := by rw [hH, hlocs, hf0]; exact hw
  have hF : ∀ b ∈ L, b ≠ nm → f b = f0 b := fun b hb h0 => by rw [hf0]
  suffices hgo : W p l e R s m args below meth c H locs 0 0 Q (F0 m 0 ls []) by rw [hH, hlocs] at hgo; exact hgo
  clear hH hlocs hw0 hf0
  have hLs : ∀ b ∈ L, b ∈ L := fun _ h => h
  refine lv_aload_n E.1.1 E.1.2.1 dX5_init_0 rfl (lv_at hl 0 rfl) ?_
  refine W.objInit E.1.1 E.1.2.1 E.1.2.2.2.1 (E.1.2.2.2.2 _ w1_17) (E.1.2.2.2.2 _ w1_18) (E.1.2.2.2.2 _ w1_19) rfl (by rw [E.1.2.2.1]; exact hl.1) rfl dX5_init_1 (by rw [hR]; exact Nat.le_of_ble_eq_true rfl) (by rw [hR]; exact Nat.le_of_ble_eq_true rfl) ?_
  refine W.eq (g2 := F0 m 4 ls []) rfl ?_
  refine lv_aload_n E.1.1 E.1.2.1 dX5_init_4 rfl (lv_at hl 0 rfl) ?_
  refine lv_bipush (v := nI 6) E.1.1 E.1.2.1 dX5_init_5 rfl ?_
  refine k_newq E w1_20 E.2.2.2.2 4 rfl hw (by decide) (by decide) (by rw [hR]; exact Nat.le_of_ble_eq_true rfl) (by rw [hR]; exact Nat.le_of_ble_eq_true rfl) dX5_init_7 (fun sl f H hq_sl h_sl hfr hw => ?_)
  have n_nm_sl : nm ≠ sl := fun h => hq_sl (h ▸ h_nm.1)
  have n_sl_nm := Ne.symm n_nm_sl
  have h_nm := h_nm.keep (sub_snoc (a := sl)) (hfr _ n_nm_sl)
  have hd_sl : ∀ b ∈ L, b ≠ sl := fun b hb h => hq_sl (h ▸ hLs b hb)
  have hF : ∀ b ∈ L, b ≠ nm → f b = f0 b := fun b hb h0 => (hfr b (hd_sl b hb)).trans (hF b hb h0)
  have hLs : ∀ b ∈ L, b ∈ L ++ [sl] := fun b hb => List.mem_append_left _ (hLs b hb)
  refine W.cs (cells' := 1) (slots' := 6) rfl rfl ?_
  refine k_putF (ty0 := tyX5) E inlX5 rfl tyX5_ok nmX5 0 (by decide) w1_231 rfl rfl hnm rfl hw [.ref sl, .null, .null, .null, .int 0] h_nm (rfl) (rfl) (Nat.le_of_ble_eq_true rfl) rfl dX5_init_10 (fun f H locs h_nm hfr hw => ?_)
  have h_sl := h_sl.kp hfr n_sl_nm
  have hF : ∀ b ∈ L, b ≠ nm → f b = f0 b := fun b hb h0 => (hfr b h0).trans (hF b hb h0)
  refine lv_aload_n E.1.1 E.1.2.1 dX5_init_13 rfl (lv_at hl 0 rfl) ?_
  refine lv_iconst (v := nI 2) E.1.1 E.1.2.1 dX5_init_14 rfl ?_
  refine k_newq E w1_22 E.2.2.2.1 3 rfl hw (by decide) (by decide) (by rw [hR]; exact Nat.le_of_ble_eq_true rfl) (by rw [hR]; exact Nat.le_of_ble_eq_true rfl) dX5_init_15 (fun im f H hq_im h_im hfr hw => ?_)
  have n_nm_im : nm ≠ im := fun h => hq_im (h ▸ h_nm.1)
  have n_im_nm := Ne.symm n_nm_im
  have h_nm := h_nm.keep (sub_snoc (a := im)) (hfr _ n_nm_im)
  have n_sl_im : sl ≠ im := fun h => hq_im (h ▸ h_sl.1)
  have n_im_sl := Ne.symm n_sl_im
  have h_sl := h_sl.keep (sub_snoc (a := im)) (hfr _ n_sl_im)
  have hd_im : ∀ b ∈ L, b ≠ im := fun b hb h => hq_im (h ▸ hLs b hb)
  have hF : ∀ b ∈ L, b ≠ nm → f b = f0 b := fun b hb h0 => (hfr b (hd_im b hb)).trans (hF b hb h0)
  have hLs : ∀ b ∈ L, b ∈ (L ++ [sl]) ++ [im] := fun b hb => List.mem_append_left _ (hLs b hb)
  refine W.cs (cells' := 2) (slots' := 8) rfl rfl ?_
  refine k_putF (ty0 := tyX5) E inlX5 rfl tyX5_ok nmX5 1 (by decide) w1_232 rfl rfl hnm rfl hw [.ref sl, .ref im, .null, .null, .int 0] h_nm (rfl) (rfl) (Nat.le_of_ble_eq_true rfl) rfl dX5_init_18 (fun f H locs h_nm hfr hw => ?_)
  have h_sl := h_sl.kp hfr n_sl_nm
  have h_im := h_im.kp hfr n_im_nm
  have hF : ∀ b ∈ L, b ≠ nm → f b = f0 b := fun b hb h0 => (hfr b h0).trans (hF b hb h0)
  refine lv_aload_n E.1.1 E.1.2.1 dX5_init_21 rfl (lv_at hl 0 rfl) ?_
  refine k_new (ci := 0) (ty0 := tyX0) E inlX0 rfl tyX0_ok w1_24 w1_25 w1_2 hw [.null, .int 0, .int 0] (fun j hj => by rcases (show j = 0 ∨ j = 1 ∨ j = 2 by omega) with rfl | rfl | rfl <;> rfl) (by rw [hR]; exact Nat.le_of_ble_eq_true rfl) (by rw [hR]; exact Nat.le_of_ble_eq_true rfl) dX5_init_22 (fun d f H hq_d h_d hfr hw => ?_)
  have n_nm_d : nm ≠ d := fun h => hq_d (h ▸ h_nm.1)
  have n_d_nm := Ne.symm n_nm_d
  have h_nm := h_nm.keep (sub_snoc (a := d)) (hfr _ n_nm_d)
  have n_sl_d : sl ≠ d := fun h => hq_d (h ▸ h_sl.1)
  have n_d_sl := Ne.symm n_sl_d
  have h_sl := h_sl.keep (sub_snoc (a := d)) (hfr _ n_sl_d)
  have n_im_d : im ≠ d := fun h => hq_d (h ▸ h_im.1)
  have n_d_im := Ne.symm n_im_d
  have h_im := h_im.keep (sub_snoc (a := d)) (hfr _ n_im_d)
  have hd_d : ∀ b ∈ L, b ≠ d := fun b hb h => hq_d (h ▸ hLs b hb)
  have hF : ∀ b ∈ L, b ≠ nm → f b = f0 b := fun b hb h0 => (hfr b (hd_d b hb)).trans (hF b hb h0)
  have hLs : ∀ b ∈ L, b ∈ ((L ++ [sl]) ++ [im]) ++ [d] := fun b hb => List.mem_append_left _ (hLs b hb)
  refine W.cs (cells' := 3) (slots' := 11) rfl rfl ?_
  refine lv_dup E.1.1 E.1.2.1 dX5_init_25 rfl ?_
  refine k_mv hw (va_runIN (As := []) (rest := [.ref d, .ref nm]) E.1 (c_Draft_init l D cy (((L ++ [sl]) ++ [im]) ++ [d]) f H.size d h_d) ⟨va_cnB 0 E.1.2.2.2.2 (gd_own w1_28) rfl rfl rfl (E.2.2.1 _ (List.mem_of_getElem? (i := 0) rfl)) (E.1.2.2.2.2 _ w1_2) hd_X0_init (by rw [hR]; exact ⟨Nat.le_of_ble_eq_true rfl, Nat.le_of_ble_eq_true rfl⟩), rfl, E.1.2.2.2.2 _ w1_27⟩ (pw_pre E.2 hw) rfl rfl hl.1 rfl (lv_room (Nat.le_of_ble_eq_true rfl)) dX5_init_26 (by rw [hR]; exact ⟨Nat.le_of_ble_eq_true rfl, Nat.le_of_ble_eq_true rfl⟩)) (fun L1 f H locs hp hw => ?_)
  refine W.cs (cells' := 4) (slots' := 70) rfl rfl ?_
  have o_d := h_d
  obtain ⟨hLn, hfr, row, hq_row, h_row, h_d⟩ := hp
  obtain ⟨L51, hLx⟩ : ∃ X, X = L1 := ⟨_, rfl⟩
  dsimp only at hLn hfr h_row h_d
  rw [← hLx] at hLn hw h_row h_d
  clear hLx
  have hd_row : ∀ b ∈ L, b ≠ row := fun b hb h => hq_row (h ▸ hLs b hb)
  have n_nm_row : nm ≠ row := fun h => hq_row (h ▸ h_nm.1)
  have n_row_nm := Ne.symm n_nm_row
  have n_sl_row : sl ≠ row := fun h => hq_row (h ▸ h_sl.1)
  have n_row_sl := Ne.symm n_sl_row
  have n_im_row : im ≠ row := fun h => hq_row (h ▸ h_im.1)
  have n_row_im := Ne.symm n_im_row
  have n_d_row : d ≠ row := fun h => hq_row (h ▸ o_d.1)
  have n_row_d := Ne.symm n_d_row
  have h_nm := h_nm.keep hLn (hfr _ h_nm.1 n_nm_d)
  have h_sl := h_sl.keep hLn (hfr _ h_sl.1 n_sl_d)
  have h_im := h_im.keep hLn (hfr _ h_im.1 n_im_d)
  have hF : ∀ b ∈ L, b ≠ nm → f b = f0 b := fun b hb h0 => (hfr b (hLs b hb) (hd_d b hb)).trans (hF b hb h0)
  have hLs : ∀ b ∈ L, b ∈ L51 := fun b hb => hLn b (hLs b hb)
  refine k_putF (ty0 := tyX5) E inlX5 rfl tyX5_ok nmX5 2 (by decide) w1_233 rfl rfl hnm rfl hw [.ref sl, .ref im, .ref d, .null, .int 0] h_nm (rfl) (rfl) (Nat.le_of_ble_eq_true rfl) rfl dX5_init_29 (fun f H locs h_nm hfr hw => ?_)
  have h_sl := h_sl.kp hfr n_sl_nm
  have h_im := h_im.kp hfr n_im_nm
  have h_d := h_d.kp hfr n_d_nm
  have h_row := h_row.kp hfr n_row_nm
  have hF : ∀ b ∈ L, b ≠ nm → f b = f0 b := fun b hb h0 => (hfr b h0).trans (hF b hb h0)
  refine lv_aload_n E.1.1 E.1.2.1 dX5_init_32 rfl (lv_at hl 0 rfl) ?_
  refine k_new (ci := 4) (ty0 := tyX4) E inlX4 rfl tyX4_ok w1_47 w1_48 w1_3 hw [.null, .null, .int 0, .int 0, .int 0, .int 0] (fun j hj => by rcases (show j = 0 ∨ j = 1 ∨ j = 2 ∨ j = 3 ∨ j = 4 ∨ j = 5 by omega) with rfl | rfl | rfl | rfl | rfl | rfl <;> rfl) (by rw [hR]; exact Nat.le_of_ble_eq_true rfl) (by rw [hR]; exact Nat.le_of_ble_eq_true rfl) dX5_init_33 (fun tr f H hq_tr h_tr hfr hw => ?_)
  have n_nm_tr : nm ≠ tr := fun h => hq_tr (h ▸ h_nm.1)
  have n_tr_nm := Ne.symm n_nm_tr
  have h_nm := h_nm.keep (sub_snoc (a := tr)) (hfr _ n_nm_tr)
  have n_sl_tr : sl ≠ tr := fun h => hq_tr (h ▸ h_sl.1)
  have n_tr_sl := Ne.symm n_sl_tr
  have h_sl := h_sl.keep (sub_snoc (a := tr)) (hfr _ n_sl_tr)
  have n_im_tr : im ≠ tr := fun h => hq_tr (h ▸ h_im.1)
  have n_tr_im := Ne.symm n_im_tr
  have h_im := h_im.keep (sub_snoc (a := tr)) (hfr _ n_im_tr)
  have n_d_tr : d ≠ tr := fun h => hq_tr (h ▸ h_d.1)
  have n_tr_d := Ne.symm n_d_tr
  have h_d := h_d.keep (sub_snoc (a := tr)) (hfr _ n_d_tr)
  have n_row_tr : row ≠ tr := fun h => hq_tr (h ▸ h_row.1)
  have n_tr_row := Ne.symm n_row_tr
  have h_row := h_row.keep (sub_snoc (a := tr)) (hfr _ n_row_tr)
  have hd_tr : ∀ b ∈ L, b ≠ tr := fun b hb h => hq_tr (h ▸ hLs b hb)
  have hF : ∀ b ∈ L, b ≠ nm → f b = f0 b := fun b hb h0 => (hfr b (hd_tr b hb)).trans (hF b hb h0)
  have hLs : ∀ b ∈ L, b ∈ L51 ++ [tr] := fun b hb => List.mem_append_left _ (hLs b hb)
  refine W.cs (cells' := 5) (slots' := 76) rfl rfl ?_
  refine lv_dup E.1.1 E.1.2.1 dX5_init_36 rfl ?_
  refine k_mv hw (va_runIN (As := []) (rest := [.ref tr, .ref nm]) E.1 (c_Tracer_init l D cy (L51 ++ [tr]) f H.size tr h_tr) ⟨va_cnB 0 E.1.2.2.2.2 (gd_own w1_51) rfl rfl rfl (E.2.2.1 _ (List.mem_of_getElem? (i := 7) rfl)) (E.1.2.2.2.2 _ w1_3) hd_X4_init (by rw [hR]; exact ⟨Nat.le_of_ble_eq_true rfl, Nat.le_of_ble_eq_true rfl⟩), rfl, E.1.2.2.2.2 _ w1_50⟩ (pw_pre E.2 hw) rfl rfl hl.1 rfl (lv_room (Nat.le_of_ble_eq_true rfl)) dX5_init_37 (by rw [hR]; exact ⟨Nat.le_of_ble_eq_true rfl, Nat.le_of_ble_eq_true rfl⟩)) (fun L1 f H locs hp hw => ?_)
  refine W.cs (cells' := 7) (slots' := 591) rfl rfl ?_
  have o_tr := h_tr
  obtain ⟨hLn, hfr, rows, goes, hq_rows, hq_goes, h_rows, h_goes, h_tr⟩ := hp
  obtain ⟨L101, hLx⟩ : ∃ X, X = L1 := ⟨_, rfl⟩
  dsimp only at hLn hfr h_rows h_goes h_tr
  rw [← hLx] at hLn hw h_rows h_goes h_tr
  clear hLx
  have hd_rows : ∀ b ∈ L, b ≠ rows := fun b hb h => hq_rows (h ▸ hLs b hb)
  have n_nm_rows : nm ≠ rows := fun h => hq_rows (h ▸ h_nm.1)
  have n_rows_nm := Ne.symm n_nm_rows
  have n_sl_rows : sl ≠ rows := fun h => hq_rows (h ▸ h_sl.1)
  have n_rows_sl := Ne.symm n_sl_rows
  have n_im_rows : im ≠ rows := fun h => hq_rows (h ▸ h_im.1)
  have n_rows_im := Ne.symm n_im_rows
  have n_d_rows : d ≠ rows := fun h => hq_rows (h ▸ h_d.1)
  have n_rows_d := Ne.symm n_d_rows
  have n_row_rows : row ≠ rows := fun h => hq_rows (h ▸ h_row.1)
  have n_rows_row := Ne.symm n_row_rows
  have n_tr_rows : tr ≠ rows := fun h => hq_rows (h ▸ o_tr.1)
  have n_rows_tr := Ne.symm n_tr_rows
  have hd_goes : ∀ b ∈ L, b ≠ goes := fun b hb h => hq_goes (h ▸ hLs b hb)
  have n_nm_goes : nm ≠ goes := fun h => hq_goes (h ▸ h_nm.1)
  have n_goes_nm := Ne.symm n_nm_goes
  have n_sl_goes : sl ≠ goes := fun h => hq_goes (h ▸ h_sl.1)
  have n_goes_sl := Ne.symm n_sl_goes
  have n_im_goes : im ≠ goes := fun h => hq_goes (h ▸ h_im.1)
  have n_goes_im := Ne.symm n_im_goes
  have n_d_goes : d ≠ goes := fun h => hq_goes (h ▸ h_d.1)
  have n_goes_d := Ne.symm n_d_goes
  have n_row_goes : row ≠ goes := fun h => hq_goes (h ▸ h_row.1)
  have n_goes_row := Ne.symm n_row_goes
  have n_tr_goes : tr ≠ goes := fun h => hq_goes (h ▸ o_tr.1)
  have n_goes_tr := Ne.symm n_tr_goes
  have h_nm := h_nm.keep hLn (hfr _ h_nm.1 n_nm_tr)
  have h_sl := h_sl.keep hLn (hfr _ h_sl.1 n_sl_tr)
  have h_im := h_im.keep hLn (hfr _ h_im.1 n_im_tr)
  have h_d := h_d.keep hLn (hfr _ h_d.1 n_d_tr)
  have h_row := h_row.keep hLn (hfr _ h_row.1 n_row_tr)
  have hF : ∀ b ∈ L, b ≠ nm → f b = f0 b := fun b hb h0 => (hfr b (hLs b hb) (hd_tr b hb)).trans (hF b hb h0)
  have hLs : ∀ b ∈ L, b ∈ L101 := fun b hb => hLn b (hLs b hb)
  have n_goes_rows : goes ≠ rows := h_goes.ne h_rows (by simp)
  have n_rows_goes := Ne.symm n_goes_rows
  refine k_putF (ty0 := tyX5) E inlX5 rfl tyX5_ok nmX5 3 (by decide) w1_234 rfl rfl hnm rfl hw [.ref sl, .ref im, .ref d, .ref tr, .int 0] h_nm (rfl) (rfl) (Nat.le_of_ble_eq_true rfl) rfl dX5_init_40 (fun f H locs h_nm hfr hw => ?_)
  have h_sl := h_sl.kp hfr n_sl_nm
  have h_im := h_im.kp hfr n_im_nm
  have h_d := h_d.kp hfr n_d_nm
  have h_row := h_row.kp hfr n_row_nm
  have h_tr := h_tr.kp hfr n_tr_nm
  have h_rows := h_rows.kp hfr n_rows_nm
  have h_goes := h_goes.kp hfr n_goes_nm
  have hF : ∀ b ∈ L, b ≠ nm → f b = f0 b := fun b hb h0 => (hfr b h0).trans (hF b hb h0)
  refine lv_iconst (v := nI 0) E.1.1 E.1.2.1 dX5_init_43 rfl ?_
  refine lv_istore_n (lv' := [(1, .int (nI 0)), (0, .ref nm)]) E.1.1 E.1.2.1 dX5_init_44 rfl hl (by decide) rfl (fun ls hl => ?_)
  refine lv_iload_n E.1.1 E.1.2.1 dX5_init_45 rfl (lv_at hl 0 rfl) ?_
  refine lv_iconst (v := nI 2) E.1.1 E.1.2.1 dX5_init_46 rfl ?_
  refine k_ge (tgt := 69) E dX5_init_47 (by decide) (by omega) (by omega) (fun c47 => absurd c47 (by decide)) (fun c47 => ?_)
  refine lv_aload_n E.1.1 E.1.2.1 dX5_init_50 rfl (lv_at hl 1 rfl) ?_
  refine k_get (v := .ref im) E inlX5 rfl 1 (by decide) w1_232 rfl hw h_nm rfl dX5_init_51 ?_
  refine lv_iload_n E.1.1 E.1.2.1 dX5_init_54 rfl (lv_at hl 0 rfl) ?_
  refine k_new (ci := 1) (ty0 := tyX1) E inlX1 rfl tyX1_ok w1_22 w1_73 w1_4 hw [.null, .int 0, .int 0] (fun j hj => by rcases (show j = 0 ∨ j = 1 ∨ j = 2 by omega) with rfl | rfl | rfl <;> rfl) (by rw [hR]; exact Nat.le_of_ble_eq_true rfl) (by rw [hR]; exact Nat.le_of_ble_eq_true rfl) dX5_init_55 (fun g0 f H hq_g0 h_g0 hfr hw => ?_)
  have n_nm_g0 : nm ≠ g0 := fun h => hq_g0 (h ▸ h_nm.1)
  have n_g0_nm := Ne.symm n_nm_g0
  have h_nm := h_nm.keep (sub_snoc (a := g0)) (hfr _ n_nm_g0)
  have n_sl_g0 : sl ≠ g0 := fun h => hq_g0 (h ▸ h_sl.1)
  have n_g0_sl := Ne.symm n_sl_g0
  have h_sl := h_sl.keep (sub_snoc (a := g0)) (hfr _ n_sl_g0)
  have n_im_g0 : im ≠ g0 := fun h => hq_g0 (h ▸ h_im.1)
  have n_g0_im := Ne.symm n_im_g0
  have h_im := h_im.keep (sub_snoc (a := g0)) (hfr _ n_im_g0)
  have n_d_g0 : d ≠ g0 := fun h => hq_g0 (h ▸ h_d.1)
  have n_g0_d := Ne.symm n_d_g0
  have h_d := h_d.keep (sub_snoc (a := g0)) (hfr _ n_d_g0)
  have n_row_g0 : row ≠ g0 := fun h => hq_g0 (h ▸ h_row.1)
  have n_g0_row := Ne.symm n_row_g0
  have h_row := h_row.keep (sub_snoc (a := g0)) (hfr _ n_row_g0)
  have n_tr_g0 : tr ≠ g0 := fun h => hq_g0 (h ▸ h_tr.1)
  have n_g0_tr := Ne.symm n_tr_g0
  have h_tr := h_tr.keep (sub_snoc (a := g0)) (hfr _ n_tr_g0)
  have n_rows_g0 : rows ≠ g0 := fun h => hq_g0 (h ▸ h_rows.1)
  have n_g0_rows := Ne.symm n_rows_g0
  have h_rows := h_rows.keep (sub_snoc (a := g0)) (hfr _ n_rows_g0)
  have n_goes_g0 : goes ≠ g0 := fun h => hq_g0 (h ▸ h_goes.1)
  have n_g0_goes := Ne.symm n_goes_g0
  have h_goes := h_goes.keep (sub_snoc (a := g0)) (hfr _ n_goes_g0)
  have hd_g0 : ∀ b ∈ L, b ≠ g0 := fun b hb h => hq_g0 (h ▸ hLs b hb)
  have hF : ∀ b ∈ L, b ≠ nm → f b = f0 b := fun b hb h0 => (hfr b (hd_g0 b hb)).trans (hF b hb h0)
  have hLs : ∀ b ∈ L, b ∈ L101 ++ [g0] := fun b hb => List.mem_append_left _ (hLs b hb)
  refine W.cs (cells' := 8) (slots' := 594) rfl rfl ?_
  refine lv_dup E.1.1 E.1.2.1 dX5_init_58 rfl ?_
  refine k_mv hw (va_runIN (As := []) (rest := [.ref g0, .int (nI 0), .ref im]) E.1 (c_Image_init l D cy (L101 ++ [g0]) f H.size g0 h_g0) ⟨va_cnB 0 E.1.2.2.2.2 (gd_own w1_76) rfl rfl rfl (E.2.2.1 _ (List.mem_of_getElem? (i := 8) rfl)) (E.1.2.2.2.2 _ w1_4) hd_X1_init (by rw [hR]; exact ⟨Nat.le_of_ble_eq_true rfl, Nat.le_of_ble_eq_true rfl⟩), rfl, E.1.2.2.2.2 _ w1_75⟩ (pw_pre E.2 hw) rfl rfl hl.1 rfl (lv_room (Nat.le_of_ble_eq_true rfl)) dX5_init_59 (by rw [hR]; exact ⟨Nat.le_of_ble_eq_true rfl, Nat.le_of_ble_eq_true rfl⟩)) (fun L1 f H locs hp hw => ?_)
  refine W.cs (cells' := 9) (slots' := 600) rfl rfl ?_
  have o_g0 := h_g0
  obtain ⟨hLn, hfr, s0, hq_s0, h_s0, h_g0⟩ := hp
  obtain ⟨L191, hLx⟩ : ∃ X, X = L1 := ⟨_, rfl⟩
  dsimp only at hLn hfr h_s0 h_g0
  rw [← hLx] at hLn hw h_s0 h_g0
  clear hLx
  have hd_s0 : ∀ b ∈ L, b ≠ s0 := fun b hb h => hq_s0 (h ▸ hLs b hb)
  have n_nm_s0 : nm ≠ s0 := fun h => hq_s0 (h ▸ h_nm.1)
  have n_s0_nm := Ne.symm n_nm_s0
  have n_sl_s0 : sl ≠ s0 := fun h => hq_s0 (h ▸ h_sl.1)
  have n_s0_sl := Ne.symm n_sl_s0
  have n_im_s0 : im ≠ s0 := fun h => hq_s0 (h ▸ h_im.1)
  have n_s0_im := Ne.symm n_im_s0
  have n_d_s0 : d ≠ s0 := fun h => hq_s0 (h ▸ h_d.1)
  have n_s0_d := Ne.symm n_d_s0
  have n_row_s0 : row ≠ s0 := fun h => hq_s0 (h ▸ h_row.1)
  have n_s0_row := Ne.symm n_row_s0
  have n_tr_s0 : tr ≠ s0 := fun h => hq_s0 (h ▸ h_tr.1)
  have n_s0_tr := Ne.symm n_tr_s0
  have n_rows_s0 : rows ≠ s0 := fun h => hq_s0 (h ▸ h_rows.1)
  have n_s0_rows := Ne.symm n_rows_s0
  have n_goes_s0 : goes ≠ s0 := fun h => hq_s0 (h ▸ h_goes.1)
  have n_s0_goes := Ne.symm n_goes_s0
  have n_g0_s0 : g0 ≠ s0 := fun h => hq_s0 (h ▸ o_g0.1)
  have n_s0_g0 := Ne.symm n_g0_s0
  have h_nm := h_nm.keep hLn (hfr _ h_nm.1 n_nm_g0)
  have h_sl := h_sl.keep hLn (hfr _ h_sl.1 n_sl_g0)
  have h_im := h_im.keep hLn (hfr _ h_im.1 n_im_g0)
  have h_d := h_d.keep hLn (hfr _ h_d.1 n_d_g0)
  have h_row := h_row.keep hLn (hfr _ h_row.1 n_row_g0)
  have h_tr := h_tr.keep hLn (hfr _ h_tr.1 n_tr_g0)
  have h_rows := h_rows.keep hLn (hfr _ h_rows.1 n_rows_g0)
  have h_goes := h_goes.keep hLn (hfr _ h_goes.1 n_goes_g0)
  have hF : ∀ b ∈ L, b ≠ nm → f b = f0 b := fun b hb h0 => (hfr b (hLs b hb) (hd_g0 b hb)).trans (hF b hb h0)
  have hLs : ∀ b ∈ L, b ∈ L191 := fun b hb => hLn b (hLs b hb)
  refine k_aast E hw 3 1 (fun k => if k = 0 then some g0 else none) h_im rfl h_g0 rfl (by omega) (by omega) (fun k hk => rfl) dX5_init_62 (fun f H locs h_im hfr hw => ?_)
  have h_nm := h_nm.kp hfr n_nm_im
  have h_sl := h_sl.kp hfr n_sl_im
  have h_d := h_d.kp hfr n_d_im
  have h_row := h_row.kp hfr n_row_im
  have h_tr := h_tr.kp hfr n_tr_im
  have h_rows := h_rows.kp hfr n_rows_im
  have h_goes := h_goes.kp hfr n_goes_im
  have h_g0 := h_g0.kp hfr n_g0_im
  have h_s0 := h_s0.kp hfr n_s0_im
  have hF : ∀ b ∈ L, b ≠ nm → f b = f0 b := fun b hb h0 => (hfr b (hd_im b hb)).trans (hF b hb h0)
  refine lv_iinc (v := nI 1) (lv' := [(1, .int (nI 1)), (0, .ref nm)]) E.1.1 E.1.2.1 dX5_init_63 hl (k := 0) rfl (rfl) (by decide) rfl (fun ls hl => ?_)
  refine lv_goto (tgt := 45) E.1.1 E.1.2.1 dX5_init_66 (by decide) ?_
  refine lv_iload_n E.1.1 E.1.2.1 dX5_init_45 rfl (lv_at hl 0 rfl) ?_
  refine lv_iconst (v := nI 2) E.1.1 E.1.2.1 dX5_init_46 rfl ?_
  refine k_ge (tgt := 69) E dX5_init_47 (by decide) (by omega) (by omega) (fun c47 => absurd c47 (by decide)) (fun c47 => ?_)
  refine lv_aload_n E.1.1 E.1.2.1 dX5_init_50 rfl (lv_at hl 1 rfl) ?_
  refine k_get (v := .ref im) E inlX5 rfl 1 (by decide) w1_232 rfl hw h_nm rfl dX5_init_51 ?_
  refine lv_iload_n E.1.1 E.1.2.1 dX5_init_54 rfl (lv_at hl 0 rfl) ?_
  refine k_new (ci := 1) (ty0 := tyX1) E inlX1 rfl tyX1_ok w1_22 w1_73 w1_4 hw [.null, .int 0, .int 0] (fun j hj => by rcases (show j = 0 ∨ j = 1 ∨ j = 2 by omega) with rfl | rfl | rfl <;> rfl) (by rw [hR]; exact Nat.le_of_ble_eq_true rfl) (by rw [hR]; exact Nat.le_of_ble_eq_true rfl) dX5_init_55 (fun g1 f H hq_g1 h_g1 hfr hw => ?_)
  have n_nm_g1 : nm ≠ g1 := fun h => hq_g1 (h ▸ h_nm.1)
  have n_g1_nm := Ne.symm n_nm_g1
  have h_nm := h_nm.keep (sub_snoc (a := g1)) (hfr _ n_nm_g1)
  have n_sl_g1 : sl ≠ g1 := fun h => hq_g1 (h ▸ h_sl.1)
  have n_g1_sl := Ne.symm n_sl_g1
  have h_sl := h_sl.keep (sub_snoc (a := g1)) (hfr _ n_sl_g1)
  have n_im_g1 : im ≠ g1 := fun h => hq_g1 (h ▸ h_im.1)
  have n_g1_im := Ne.symm n_im_g1
  have h_im := h_im.keep (sub_snoc (a := g1)) (hfr _ n_im_g1)
  have n_d_g1 : d ≠ g1 := fun h => hq_g1 (h ▸ h_d.1)
  have n_g1_d := Ne.symm n_d_g1
  have h_d := h_d.keep (sub_snoc (a := g1)) (hfr _ n_d_g1)
  have n_row_g1 : row ≠ g1 := fun h => hq_g1 (h ▸ h_row.1)
  have n_g1_row := Ne.symm n_row_g1
  have h_row := h_row.keep (sub_snoc (a := g1)) (hfr _ n_row_g1)
  have n_tr_g1 : tr ≠ g1 := fun h => hq_g1 (h ▸ h_tr.1)
  have n_g1_tr := Ne.symm n_tr_g1
  have h_tr := h_tr.keep (sub_snoc (a := g1)) (hfr _ n_tr_g1)
  have n_rows_g1 : rows ≠ g1 := fun h => hq_g1 (h ▸ h_rows.1)
  have n_g1_rows := Ne.symm n_rows_g1
  have h_rows := h_rows.keep (sub_snoc (a := g1)) (hfr _ n_rows_g1)
  have n_goes_g1 : goes ≠ g1 := fun h => hq_g1 (h ▸ h_goes.1)
  have n_g1_goes := Ne.symm n_goes_g1
  have h_goes := h_goes.keep (sub_snoc (a := g1)) (hfr _ n_goes_g1)
  have n_g0_g1 : g0 ≠ g1 := fun h => hq_g1 (h ▸ h_g0.1)
  have n_g1_g0 := Ne.symm n_g0_g1
  have h_g0 := h_g0.keep (sub_snoc (a := g1)) (hfr _ n_g0_g1)
  have n_s0_g1 : s0 ≠ g1 := fun h => hq_g1 (h ▸ h_s0.1)
  have n_g1_s0 := Ne.symm n_s0_g1
  have h_s0 := h_s0.keep (sub_snoc (a := g1)) (hfr _ n_s0_g1)
  have hd_g1 : ∀ b ∈ L, b ≠ g1 := fun b hb h => hq_g1 (h ▸ hLs b hb)
  have hF : ∀ b ∈ L, b ≠ nm → f b = f0 b := fun b hb h0 => (hfr b (hd_g1 b hb)).trans (hF b hb h0)
  have hLs : ∀ b ∈ L, b ∈ L191 ++ [g1] := fun b hb => List.mem_append_left _ (hLs b hb)
  refine W.cs (cells' := 10) (slots' := 603) rfl rfl ?_
  refine lv_dup E.1.1 E.1.2.1 dX5_init_58 rfl ?_
  refine k_mv hw (va_runIN (As := []) (rest := [.ref g1, .int (nI 1), .ref im]) E.1 (c_Image_init l D cy (L191 ++ [g1]) f H.size g1 h_g1) ⟨va_cnB 0 E.1.2.2.2.2 (gd_own w1_76) rfl rfl rfl (E.2.2.1 _ (List.mem_of_getElem? (i := 8) rfl)) (E.1.2.2.2.2 _ w1_4) hd_X1_init (by rw [hR]; exact ⟨Nat.le_of_ble_eq_true rfl, Nat.le_of_ble_eq_true rfl⟩), rfl, E.1.2.2.2.2 _ w1_75⟩ (pw_pre E.2 hw) rfl rfl hl.1 rfl (lv_room (Nat.le_of_ble_eq_true rfl)) dX5_init_59 (by rw [hR]; exact ⟨Nat.le_of_ble_eq_true rfl, Nat.le_of_ble_eq_true rfl⟩)) (fun L1 f H locs hp hw => ?_)
  refine W.cs (cells' := 11) (slots' := 609) rfl rfl ?_
  have o_g1 := h_g1
  obtain ⟨hLn, hfr, s1, hq_s1, h_s1, h_g1⟩ := hp
  obtain ⟨L283, hLx⟩ : ∃ X, X = L1 := ⟨_, rfl⟩
  dsimp only at hLn hfr h_s1 h_g1
  rw [← hLx] at hLn hw h_s1 h_g1
  clear hLx
  have hd_s1 : ∀ b ∈ L, b ≠ s1 := fun b hb h => hq_s1 (h ▸ hLs b hb)
  have n_nm_s1 : nm ≠ s1 := fun h => hq_s1 (h ▸ h_nm.1)
  have n_s1_nm := Ne.symm n_nm_s1
  have n_sl_s1 : sl ≠ s1 := fun h => hq_s1 (h ▸ h_sl.1)
  have n_s1_sl := Ne.symm n_sl_s1
  have n_im_s1 : im ≠ s1 := fun h => hq_s1 (h ▸ h_im.1)
  have n_s1_im := Ne.symm n_im_s1
  have n_d_s1 : d ≠ s1 := fun h => hq_s1 (h ▸ h_d.1)
  have n_s1_d := Ne.symm n_d_s1
  have n_row_s1 : row ≠ s1 := fun h => hq_s1 (h ▸ h_row.1)
  have n_s1_row := Ne.symm n_row_s1
  have n_tr_s1 : tr ≠ s1 := fun h => hq_s1 (h ▸ h_tr.1)
  have n_s1_tr := Ne.symm n_tr_s1
  have n_rows_s1 : rows ≠ s1 := fun h => hq_s1 (h ▸ h_rows.1)
  have n_s1_rows := Ne.symm n_rows_s1
  have n_goes_s1 : goes ≠ s1 := fun h => hq_s1 (h ▸ h_goes.1)
  have n_s1_goes := Ne.symm n_goes_s1
  have n_g0_s1 : g0 ≠ s1 := fun h => hq_s1 (h ▸ h_g0.1)
  have n_s1_g0 := Ne.symm n_g0_s1
  have n_s0_s1 : s0 ≠ s1 := fun h => hq_s1 (h ▸ h_s0.1)
  have n_s1_s0 := Ne.symm n_s0_s1
  have n_g1_s1 : g1 ≠ s1 := fun h => hq_s1 (h ▸ o_g1.1)
  have n_s1_g1 := Ne.symm n_g1_s1
  have h_nm := h_nm.keep hLn (hfr _ h_nm.1 n_nm_g1)
  have h_sl := h_sl.keep hLn (hfr _ h_sl.1 n_sl_g1)
  have h_im := h_im.keep hLn (hfr _ h_im.1 n_im_g1)
  have h_d := h_d.keep hLn (hfr _ h_d.1 n_d_g1)
  have h_row := h_row.keep hLn (hfr _ h_row.1 n_row_g1)
  have h_tr := h_tr.keep hLn (hfr _ h_tr.1 n_tr_g1)
  have h_rows := h_rows.keep hLn (hfr _ h_rows.1 n_rows_g1)
  have h_goes := h_goes.keep hLn (hfr _ h_goes.1 n_goes_g1)
  have h_g0 := h_g0.keep hLn (hfr _ h_g0.1 n_g0_g1)
  have h_s0 := h_s0.keep hLn (hfr _ h_s0.1 n_s0_g1)
  have hF : ∀ b ∈ L, b ≠ nm → f b = f0 b := fun b hb h0 => (hfr b (hLs b hb) (hd_g1 b hb)).trans (hF b hb h0)
  have hLs : ∀ b ∈ L, b ∈ L283 := fun b hb => hLn b (hLs b hb)
  refine k_aast E hw 3 1 (fun k => if k = 1 then some g1 else if k = 0 then some g0 else none) h_im rfl h_g1 rfl (by omega) (by omega) (fun k hk => rfl) dX5_init_62 (fun f H locs h_im hfr hw => ?_)
  have h_nm := h_nm.kp hfr n_nm_im
  have h_sl := h_sl.kp hfr n_sl_im
  have h_d := h_d.kp hfr n_d_im
  have h_row := h_row.kp hfr n_row_im
  have h_tr := h_tr.kp hfr n_tr_im
  have h_rows := h_rows.kp hfr n_rows_im
  have h_goes := h_goes.kp hfr n_goes_im
  have h_g0 := h_g0.kp hfr n_g0_im
  have h_s0 := h_s0.kp hfr n_s0_im
  have h_g1 := h_g1.kp hfr n_g1_im
  have h_s1 := h_s1.kp hfr n_s1_im
  have hF : ∀ b ∈ L, b ≠ nm → f b = f0 b := fun b hb h0 => (hfr b (hd_im b hb)).trans (hF b hb h0)
  refine lv_iinc (v := nI 2) (lv' := [(1, .int (nI 2)), (0, .ref nm)]) E.1.1 E.1.2.1 dX5_init_63 hl (k := 0) rfl (rfl) (by decide) rfl (fun ls hl => ?_)
  refine lv_goto (tgt := 45) E.1.1 E.1.2.1 dX5_init_66 (by decide) ?_
  refine lv_iload_n E.1.1 E.1.2.1 dX5_init_45 rfl (lv_at hl 0 rfl) ?_
  refine lv_iconst (v := nI 2) E.1.1 E.1.2.1 dX5_init_46 rfl ?_
  refine k_ge (tgt := 69) E dX5_init_47 (by decide) (by omega) (by omega) (fun c47 => ?_) (fun c47 => absurd c47 (by decide))
  refine lv_aload_n E.1.1 E.1.2.1 dX5_init_69 rfl (lv_at hl 1 rfl) ?_
  refine lv_iconst (v := nI 2) E.1.1 E.1.2.1 dX5_init_70 rfl ?_
  refine k_mv hw (va_runV (As := [.int (nI 2)]) (rest := []) E.1 (c_emptyAll l D cy L283 f H.size nm sl im d row tr rows goes 2 [nm, sl, im, d, row, tr, rows, goes, g0, g1, s0, s1] 0 0 0 0 0 0 0 (fun _ => 0) (fun _ _ => false) (fun _ => 0) (fun _ => none) (by decide) (by decide) (fun x hx => by
    simp only [List.mem_cons, List.not_mem_nil, or_false] at hx
    rcases hx with rfl | rfl | rfl | rfl | rfl | rfl | rfl | rfl | rfl | rfl | rfl | rfl
    · exact h_nm.1
    · exact h_sl.1
    · exact h_im.1
    · exact h_d.1
    · exact h_row.1
    · exact h_tr.1
    · exact h_rows.1
    · exact h_goes.1
    · exact h_g0.1
    · exact h_g1.1
    · exact h_s0.1
    · exact h_s1.1) (by simp) h_nm h_sl h_d h_row h_tr (by rw [rw3_none]; exact h_rows) h_goes) ⟨callB_of 1 E.1.2.2.2.2 (gd_own w1_93) rfl rfl rfl (E.1.2.2.2.2 _ w1_1) (E.1.2.2.2.2 _ w1_90) hd_X5_emptyAll (by rw [hR]; exact ⟨Nat.le_of_ble_eq_true rfl, Nat.le_of_ble_eq_true rfl⟩), E.1.2.2.2.2 _ w1_92, E.1.2.2.2.2 _ ws_0⟩ (pw_preV (q := (RX5, TX5, 5)) E.2 hw h_nm rfl) rfl rfl hl.1 rfl (lv_room (Nat.le_of_ble_eq_true rfl)) dX5_init_71 (by rw [hR]; exact ⟨Nat.le_of_ble_eq_true rfl, Nat.le_of_ble_eq_true rfl⟩)) (fun L77 f H locs hp hw => ?_)
  refine W.cs (cells' := 15) (slots' := 940) rfl rfl ?_
  obtain ⟨hLn, hfr, hScr, h_nm2, q, hq, h_sl2⟩ := hp
  dsimp only at hLn hfr hScr h_nm2 hq h_sl2
  have h_im := h_im.keep hLn (hfr _ h_im.1 n_im_nm n_im_sl n_im_d n_im_row n_im_tr n_im_rows n_im_goes)
  have h_g0 := h_g0.keep hLn (hfr _ h_g0.1 n_g0_nm n_g0_sl n_g0_d n_g0_row n_g0_tr n_g0_rows n_g0_goes)
  have h_g1 := h_g1.keep hLn (hfr _ h_g1.1 n_g1_nm n_g1_sl n_g1_d n_g1_row n_g1_tr n_g1_rows n_g1_goes)
  have h_s0 := h_s0.keep hLn (hfr _ h_s0.1 n_s0_nm n_s0_sl n_s0_d n_s0_row n_s0_tr n_s0_rows n_s0_goes)
  have h_s1 := h_s1.keep hLn (hfr _ h_s1.1 n_s1_nm n_s1_sl n_s1_d n_s1_row n_s1_tr n_s1_rows n_s1_goes)
  have hF : ∀ b ∈ L, b ≠ nm → f b = f0 b := fun b hb h0 => (hfr b (hLs b hb) h0 (hd_sl b hb) (hd_d b hb) (hd_row b hb) (hd_tr b hb) (hd_rows b hb) (hd_goes b hb)).trans (hF b hb h0)
  have hLs : ∀ b ∈ L, b ∈ L77 := fun b hb => hLn b (hLs b hb)
  have hx_d := hLn _ h_d.1
  have hx_row := hLn _ h_row.1
  have hx_tr := hLn _ h_tr.1
  have hx_rows := hLn _ h_rows.1
  have hx_goes := hLn _ h_goes.1
  have hND : [nm, sl, im, d, row, tr, rows, goes, g0, g1, s0, s1].Nodup := by
      simp only [List.nodup_cons, List.mem_cons, List.not_mem_nil, or_false, not_or, not_false_iff, List.nodup_nil, and_true]
      exact ⟨⟨n_nm_sl, n_nm_im, n_nm_d, n_nm_row, n_nm_tr, n_nm_rows, n_nm_goes, n_nm_g0, n_nm_g1, n_nm_s0, n_nm_s1⟩, ⟨n_sl_im, n_sl_d, n_sl_row, n_sl_tr, n_sl_rows, n_sl_goes, n_sl_g0, n_sl_g1, n_sl_s0, n_sl_s1⟩, ⟨n_im_d, n_im_row, n_im_tr, n_im_rows, n_im_goes, n_im_g0, n_im_g1, n_im_s0, n_im_s1⟩, ⟨n_d_row, n_d_tr, n_d_rows, n_d_goes, n_d_g0, n_d_g1, n_d_s0, n_d_s1⟩, ⟨n_row_tr, n_row_rows, n_row_goes, n_row_g0, n_row_g1, n_row_s0, n_row_s1⟩, ⟨n_tr_rows, n_tr_goes, n_tr_g0, n_tr_g1, n_tr_s0, n_tr_s1⟩, ⟨n_rows_goes, n_rows_g0, n_rows_g1, n_rows_s0, n_rows_s1⟩, ⟨n_goes_g0, n_goes_g1, n_goes_s0, n_goes_s1⟩, ⟨n_g0_g1, n_g0_s0, n_g0_s1⟩, ⟨n_g1_s0, n_g1_s1⟩, n_s0_s1⟩
  have hAd : AdOK L77 [nm, sl, im, d, row, tr, rows, goes, g0, g1, s0, s1] (fun i => [nm, sl, im, d, row, tr, rows, goes, g0, g1, s0, s1].getD i 0) := ad_of rfl hND (fun x hx => by
    simp only [List.mem_cons, List.not_mem_nil, or_false] at hx
    rcases hx with rfl | rfl | rfl | rfl | rfl | rfl | rfl | rfl | rfl | rfl | rfl | rfl
    · exact h_nm2.1
    · exact h_sl2.1
    · exact h_im.1
    · exact hx_d
    · exact hx_row
    · exact hx_tr
    · exact hx_rows
    · exact hx_goes
    · exact h_g0.1
    · exact h_g1.1
    · exact h_s0.1
    · exact h_s1.1)
  have hIA : ∀ k, k < 2 → (if k = 1 then some g1 else if k = 0 then some g0 else none) = some ([nm, sl, im, d, row, tr, rows, goes, g0, g1, s0, s1].getD (8 + k) 0) := fun k hk => by rcases (show k = 0 ∨ k = 1 by omega) with rfl | rfl <;> rfl
  obtain ⟨f, h_im, hfr, hw⟩ := k_swr (fun k => some ([nm, sl, im, d, row, tr, rows, goes, g0, g1, s0, s1].getD (8 + k) 0)) hw h_im hIA
  have h_g0 := h_g0.kp hfr n_g0_im
  have h_g1 := h_g1.kp hfr n_g1_im
  have h_s0 := h_s0.kp hfr n_s0_im
  have h_s1 := h_s1.kp hfr n_s1_im
  have h_nm2 := h_nm2.kp hfr n_nm_im
  have h_sl2 := h_sl2.kp hfr n_sl_im
  have hScr := hScr.keep (fun _ h => h) (hfr _ n_d_im) (hfr _ n_row_im) (hfr _ n_tr_im) (hfr _ n_rows_im) (hfr _ n_goes_im)
  have hq := hq.keep (f1 := f) (fun _ h => h) (fun b hb hn => hfr b (fun e => hn (by rw [e]; simp)))
  have hF : ∀ b ∈ L, b ≠ nm → f b = f0 b := fun b hb h0 => (hfr b (hd_im b hb)).trans (hF b hb h0)
  have hnew : ∀ i, 0 < i → i < 12 → ([nm, sl, im, d, row, tr, rows, goes, g0, g1, s0, s1].getD i 0) ∉ L := fun i h1 h2 => by
    rcases (show i = 1 ∨ i = 2 ∨ i = 3 ∨ i = 4 ∨ i = 5 ∨ i = 6 ∨ i = 7 ∨ i = 8 ∨ i = 9 ∨ i = 10 ∨ i = 11 by omega) with rfl | rfl | rfl | rfl | rfl | rfl | rfl | rfl | rfl | rfl | rfl
    · exact fun h => hd_sl sl h rfl
    · exact fun h => hd_im im h rfl
    · exact fun h => hd_d d h rfl
    · exact fun h => hd_row row h rfl
    · exact fun h => hd_tr tr h rfl
    · exact fun h => hd_rows rows h rfl
    · exact fun h => hd_goes goes h rfl
    · exact fun h => hd_g0 g0 h rfl
    · exact fun h => hd_g1 g1 h rfl
    · exact fun h => hd_s0 s0 h rfl
    · exact fun h => hd_s1 s1 h rfl
  exact k_mvret E hQ hlk hr hw (Nat.le_of_ble_eq_true rfl) (Nat.le_of_ble_eq_true rfl) (⟨hLs, hF, _, _, rfl, hAd, hnew, ⟨Or.inl rfl, h_nm2, ⟨fun _ => q, h_sl2, fun _ _ => hq⟩, hScr, h_im, ⟨_, h_g0, h_s0, fun h => absurd h (by decide)⟩, ⟨_, h_g1, h_s1, fun h => absurd h (by decide)⟩⟩⟩) dX5_init_74
