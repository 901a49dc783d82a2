theorem mad_of {M : List Nat} (hl : M.length = 9) (hn : M.Nodup) : MAd (fun i => M.getD i 0) := by
  intro i j hi hj e
  have h1 : i < M.length := by omega
  have h2 : j < M.length := by omega
  have e2 : M.getD i 0 = M.getD j 0 := e
  rw [List.getD_eq_getElem?_getD, List.getD_eq_getElem?_getD, List.getElem?_eq_getElem h1, List.getElem?_eq_getElem h2] at e2
  have e3 : M[i]? = M[j]? := by rw [List.getElem?_eq_getElem h1, List.getElem?_eq_getElem h2]; exact congrArg some e2
  exact (List.getElem?_inj h1 hn).mp e3
set_option maxHeartbeats 4000000 in
set_option maxRecDepth 100000 in
theorem m_init (l : Launch) (D : va_G) (cy : Nat → ClassId) (L : List Nat) (f0 : Nat → va_E) (sz : Nat) (h0 : Nat) (h_o : cel L f0 h0 (.inr (6, [.int 0, .null, .null, .null, .null, .int 0, .int 0, .null, .int 0, .null, .null, .null]))) : Met l yX6_init (.code yX6_init cX6_init 2 none :: wsL_law) { frames := 1, cells := 8, slots := 4910, locals := 12 } (va_Pc [.ref h0] (PW D cy L f0 sz)) (va_Qv (fun u : List Nat × (Nat → va_E) => (∀ b ∈ L, b ∈ u.1) ∧ (∀ b ∈ L, b ≠ h0 → u.2 b = f0 b) ∧ ∃ A : Nat → Nat, A 0 = h0 ∧ MAd A ∧ (∀ i, 0 < i → i < 9 → A i ∉ L) ∧ MoW cy u.1 u.2 A 2 (fun _ _ => false) (fun _ => false) (fun _ => 2) (fun _ _ _ => false)) (PB D (AW L sz)) (AW L sz)) 8 4910 (AW L sz) := by
  refine m_start (by decide) (Nat.le_of_ble_eq_true rfl) ?_
  intro p e R Q s m args below meth c ls hsz hR hQ E hr hlk hnm hw hl
  have hl : lv_has ls 2 [(0, .ref h0)] := hl
  obtain ⟨H, hH⟩ : ∃ X, X = s.heap := ⟨_, rfl⟩
  obtain ⟨locs, hlocs⟩ : ∃ X : List Loc, X = [] := ⟨_, rfl⟩
  have hw0 := hw
  obtain ⟨f, hf0⟩ : ∃ X, X = f0 := ⟨_, rfl⟩
  rw [← hf0] at h_o
  have hw : WW D (AW L sz) s.heap L f H locs := by rw [hH, hlocs, hf0]; exact hw
  have hF : ∀ b ∈ L, b ≠ h0 → f b = f0 b := fun b hb h0 => by rw [hf0]
  suffices hgo : W p l e R s m args below meth c H locs 0 0 Q (F0 m 0 ls []) by rw [hH, hlocs] at hgo; exact hgo
  clear hH hlocs hw0 hf0
  have hLs : ∀ b ∈ L, b ∈ L := fun _ h => h
  refine lv_aload_n E.1.1 E.1.2.1 dX6_init_0 rfl (lv_at hl 0 rfl) ?_
  refine W.objInit E.1.1 E.1.2.1 E.1.2.2.2.1 (E.1.2.2.2.2 _ w2_231) (E.1.2.2.2.2 _ w1_18) (E.1.2.2.2.2 _ w1_19) rfl (by rw [E.1.2.2.1]; exact hl.1) rfl dX6_init_1 (by rw [hR]; exact Nat.le_of_ble_eq_true rfl) (by rw [hR]; exact Nat.le_of_ble_eq_true rfl) ?_
  refine W.eq (g2 := F0 m 4 ls []) rfl ?_
  refine lv_aload_n E.1.1 E.1.2.1 dX6_init_4 rfl (lv_at hl 0 rfl) ?_
  refine lv_iconst (v := nI 2) E.1.1 E.1.2.1 dX6_init_5 rfl ?_
  refine k_put (ty0 := tyX6) E inlX6 rfl tyX6_ok nmX6 0 (by decide) w2_232 rfl rfl hw [.int (nI 2), .null, .null, .null, .null, .int 0, .int 0, .null, .int 0, .null, .null, .null] h_o (rfl) (rfl) (Nat.le_of_ble_eq_true rfl) rfl dX6_init_6 (fun f H locs h_o hfr hw => ?_)
  have hF : ∀ b ∈ L, b ≠ h0 → f b = f0 b := fun b hb h0 => (hfr b h0).trans (hF b hb h0)
  refine lv_aload_n E.1.1 E.1.2.1 dX6_init_9 rfl (lv_at hl 0 rfl) ?_
  refine lv_bipush (v := nI 84) E.1.1 E.1.2.1 dX6_init_10 rfl ?_
  refine k_newa (atype := .int) E rfl w1_72 0 rfl hw (84, .inl (fun _ => 0)) (fun cB => rfl) (by omega) (by decide) (by rw [hR]; exact Nat.le_of_ble_eq_true rfl) (by rw [hR]; exact Nat.le_of_ble_eq_true rfl) dX6_init_12 (fun ts f H hq_ts h_ts hfr hw => ?_)
  have n_o_ts : h0 ≠ ts := fun h => hq_ts (h ▸ h_o.1)
  have n_ts_o := Ne.symm n_o_ts
  have h_o := h_o.keep (sub_snoc (a := ts)) (hfr _ n_o_ts)
  have hd_ts : ∀ b ∈ L, b ≠ ts := fun b hb h => hq_ts (h ▸ hLs b hb)
  have hF : ∀ b ∈ L, b ≠ h0 → f b = f0 b := fun b hb h0 => (hfr b (hd_ts b hb)).trans (hF b hb h0)
  have hLs : ∀ b ∈ L, b ∈ L ++ [ts] := fun b hb => List.mem_append_left _ (hLs b hb)
  refine W.cs (cells' := 1) (slots' := 84) rfl rfl ?_
  refine k_putF (ty0 := tyX6) E inlX6 rfl tyX6_ok nmX6 1 (by decide) w2_233 rfl rfl hnm rfl hw [.int (nI 2), .ref ts, .null, .null, .null, .int 0, .int 0, .null, .int 0, .null, .null, .null] h_o (rfl) (rfl) (Nat.le_of_ble_eq_true rfl) rfl dX6_init_14 (fun f H locs h_o hfr hw => ?_)
  have h_ts := h_ts.kp hfr n_ts_o
  have hF : ∀ b ∈ L, b ≠ h0 → f b = f0 b := fun b hb h0 => (hfr b h0).trans (hF b hb h0)
  refine lv_aload_n E.1.1 E.1.2.1 dX6_init_17 rfl (lv_at hl 0 rfl) ?_
  refine lv_bipush (v := nI 84) E.1.1 E.1.2.1 dX6_init_18 rfl ?_
  refine k_newa (atype := .int) E rfl w1_72 0 rfl hw (84, .inl (fun k => nI (if k < 0 then 1 else 0))) (fun cB => rfl) (by omega) (by decide) (by rw [hR]; exact Nat.le_of_ble_eq_true rfl) (by rw [hR]; exact Nat.le_of_ble_eq_true rfl) dX6_init_20 (fun ps f H hq_ps h_ps hfr hw => ?_)
  have n_o_ps : h0 ≠ ps := fun h => hq_ps (h ▸ h_o.1)
  have n_ps_o := Ne.symm n_o_ps
  have h_o := h_o.keep (sub_snoc (a := ps)) (hfr _ n_o_ps)
  have n_ts_ps : ts ≠ ps := fun h => hq_ps (h ▸ h_ts.1)
  have n_ps_ts := Ne.symm n_ts_ps
  have h_ts := h_ts.keep (sub_snoc (a := ps)) (hfr _ n_ts_ps)
  have hd_ps : ∀ b ∈ L, b ≠ ps := fun b hb h => hq_ps (h ▸ hLs b hb)
  have hF : ∀ b ∈ L, b ≠ h0 → f b = f0 b := fun b hb h0 => (hfr b (hd_ps b hb)).trans (hF b hb h0)
  have hLs : ∀ b ∈ L, b ∈ (L ++ [ts]) ++ [ps] := fun b hb => List.mem_append_left _ (hLs b hb)
  refine W.cs (cells' := 2) (slots' := 168) rfl rfl ?_
  refine k_putF (ty0 := tyX6) E inlX6 rfl tyX6_ok nmX6 2 (by decide) w2_234 rfl rfl hnm rfl hw [.int (nI 2), .ref ts, .ref ps, .null, .null, .int 0, .int 0, .null, .int 0, .null, .null, .null] h_o (rfl) (rfl) (Nat.le_of_ble_eq_true rfl) rfl dX6_init_22 (fun f H locs h_o hfr hw => ?_)
  have h_ts := h_ts.kp hfr n_ts_o
  have h_ps := h_ps.kp hfr n_ps_o
  have hF : ∀ b ∈ L, b ≠ h0 → f b = f0 b := fun b hb h0 => (hfr b h0).trans (hF b hb h0)
  refine lv_aload_n E.1.1 E.1.2.1 dX6_init_25 rfl (lv_at hl 0 rfl) ?_
  refine lv_sipush (v := nI 252) E.1.1 E.1.2.1 dX6_init_26 rfl ?_
  refine k_newa (atype := .long) E rfl w1_46 1 rfl hw (252, .inr (.inl (fun _ => 0))) (fun cB => rfl) (by omega) (by decide) (by rw [hR]; exact Nat.le_of_ble_eq_true rfl) (by rw [hR]; exact Nat.le_of_ble_eq_true rfl) dX6_init_29 (fun bs f H hq_bs h_bs hfr hw => ?_)
  have n_o_bs : h0 ≠ bs := fun h => hq_bs (h ▸ h_o.1)
  have n_bs_o := Ne.symm n_o_bs
  have h_o := h_o.keep (sub_snoc (a := bs)) (hfr _ n_o_bs)
  have n_ts_bs : ts ≠ bs := fun h => hq_bs (h ▸ h_ts.1)
  have n_bs_ts := Ne.symm n_ts_bs
  have h_ts := h_ts.keep (sub_snoc (a := bs)) (hfr _ n_ts_bs)
  have n_ps_bs : ps ≠ bs := fun h => hq_bs (h ▸ h_ps.1)
  have n_bs_ps := Ne.symm n_ps_bs
  have h_ps := h_ps.keep (sub_snoc (a := bs)) (hfr _ n_ps_bs)
  have hd_bs : ∀ b ∈ L, b ≠ bs := fun b hb h => hq_bs (h ▸ hLs b hb)
  have hF : ∀ b ∈ L, b ≠ h0 → f b = f0 b := fun b hb h0 => (hfr b (hd_bs b hb)).trans (hF b hb h0)
  have hLs : ∀ b ∈ L, b ∈ ((L ++ [ts]) ++ [ps]) ++ [bs] := fun b hb => List.mem_append_left _ (hLs b hb)
  refine W.cs (cells' := 3) (slots' := 420) rfl rfl ?_
  refine k_putF (ty0 := tyX6) E inlX6 rfl tyX6_ok nmX6 3 (by decide) w2_235 rfl rfl hnm rfl hw [.int (nI 2), .ref ts, .ref ps, .ref bs, .null, .int 0, .int 0, .null, .int 0, .null, .null, .null] h_o (rfl) (rfl) (Nat.le_of_ble_eq_true rfl) rfl dX6_init_31 (fun f H locs h_o hfr hw => ?_)
  have h_ts := h_ts.kp hfr n_ts_o
  have h_ps := h_ps.kp hfr n_ps_o
  have h_bs := h_bs.kp hfr n_bs_o
  have hF : ∀ b ∈ L, b ≠ h0 → f b = f0 b := fun b hb h0 => (hfr b h0).trans (hF b hb h0)
  refine lv_aload_n E.1.1 E.1.2.1 dX6_init_34 rfl (lv_at hl 0 rfl) ?_
  refine lv_sipush (v := nI 4096) E.1.1 E.1.2.1 dX6_init_35 rfl ?_
  refine k_newa (atype := .boolean) E rfl w3_29 2 rfl hw (4096, .inl (fun _ => 0)) (fun cB => rfl) (by omega) (by decide) (by rw [hR]; exact Nat.le_of_ble_eq_true rfl) (by rw [hR]; exact Nat.le_of_ble_eq_true rfl) dX6_init_38 (fun rw f H hq_rw h_rw hfr hw => ?_)
  have n_o_rw : h0 ≠ rw := fun h => hq_rw (h ▸ h_o.1)
  have n_rw_o := Ne.symm n_o_rw
  have h_o := h_o.keep (sub_snoc (a := rw)) (hfr _ n_o_rw)
  have n_ts_rw : ts ≠ rw := fun h => hq_rw (h ▸ h_ts.1)
  have n_rw_ts := Ne.symm n_ts_rw
  have h_ts := h_ts.keep (sub_snoc (a := rw)) (hfr _ n_ts_rw)
  have n_ps_rw : ps ≠ rw := fun h => hq_rw (h ▸ h_ps.1)
  have n_rw_ps := Ne.symm n_ps_rw
  have h_ps := h_ps.keep (sub_snoc (a := rw)) (hfr _ n_ps_rw)
  have n_bs_rw : bs ≠ rw := fun h => hq_rw (h ▸ h_bs.1)
  have n_rw_bs := Ne.symm n_bs_rw
  have h_bs := h_bs.keep (sub_snoc (a := rw)) (hfr _ n_bs_rw)
  have hd_rw : ∀ b ∈ L, b ≠ rw := fun b hb h => hq_rw (h ▸ hLs b hb)
  have hF : ∀ b ∈ L, b ≠ h0 → f b = f0 b := fun b hb h0 => (hfr b (hd_rw b hb)).trans (hF b hb h0)
  have hLs : ∀ b ∈ L, b ∈ (((L ++ [ts]) ++ [ps]) ++ [bs]) ++ [rw] := fun b hb => List.mem_append_left _ (hLs b hb)
  refine W.cs (cells' := 4) (slots' := 4516) rfl rfl ?_
  refine k_putF (ty0 := tyX6) E inlX6 rfl tyX6_ok nmX6 4 (by decide) w2_236 rfl rfl hnm rfl hw [.int (nI 2), .ref ts, .ref ps, .ref bs, .ref rw, .int 0, .int 0, .null, .int 0, .null, .null, .null] h_o (rfl) (rfl) (Nat.le_of_ble_eq_true rfl) rfl dX6_init_40 (fun f H locs h_o hfr hw => ?_)
  have h_ts := h_ts.kp hfr n_ts_o
  have h_ps := h_ps.kp hfr n_ps_o
  have h_bs := h_bs.kp hfr n_bs_o
  have h_rw := h_rw.kp hfr n_rw_o
  have hF : ∀ b ∈ L, b ≠ h0 → f b = f0 b := fun b hb h0 => (hfr b h0).trans (hF b hb h0)
  refine lv_aload_n E.1.1 E.1.2.1 dX6_init_43 rfl (lv_at hl 0 rfl) ?_
  refine lv_sipush (v := nI 325) E.1.1 E.1.2.1 dX6_init_44 rfl ?_
  refine k_newa (atype := .int) E rfl w1_72 0 rfl hw (325, .inl (fun _ => 0)) (fun cB => rfl) (by omega) (by decide) (by rw [hR]; exact Nat.le_of_ble_eq_true rfl) (by rw [hR]; exact Nat.le_of_ble_eq_true rfl) dX6_init_47 (fun gs f H hq_gs h_gs hfr hw => ?_)
  have n_o_gs : h0 ≠ gs := fun h => hq_gs (h ▸ h_o.1)
  have n_gs_o := Ne.symm n_o_gs
  have h_o := h_o.keep (sub_snoc (a := gs)) (hfr _ n_o_gs)
  have n_ts_gs : ts ≠ gs := fun h => hq_gs (h ▸ h_ts.1)
  have n_gs_ts := Ne.symm n_ts_gs
  have h_ts := h_ts.keep (sub_snoc (a := gs)) (hfr _ n_ts_gs)
  have n_ps_gs : ps ≠ gs := fun h => hq_gs (h ▸ h_ps.1)
  have n_gs_ps := Ne.symm n_ps_gs
  have h_ps := h_ps.keep (sub_snoc (a := gs)) (hfr _ n_ps_gs)
  have n_bs_gs : bs ≠ gs := fun h => hq_gs (h ▸ h_bs.1)
  have n_gs_bs := Ne.symm n_bs_gs
  have h_bs := h_bs.keep (sub_snoc (a := gs)) (hfr _ n_bs_gs)
  have n_rw_gs : rw ≠ gs := fun h => hq_gs (h ▸ h_rw.1)
  have n_gs_rw := Ne.symm n_rw_gs
  have h_rw := h_rw.keep (sub_snoc (a := gs)) (hfr _ n_rw_gs)
  have hd_gs : ∀ b ∈ L, b ≠ gs := fun b hb h => hq_gs (h ▸ hLs b hb)
  have hF : ∀ b ∈ L, b ≠ h0 → f b = f0 b := fun b hb h0 => (hfr b (hd_gs b hb)).trans (hF b hb h0)
  have hLs : ∀ b ∈ L, b ∈ ((((L ++ [ts]) ++ [ps]) ++ [bs]) ++ [rw]) ++ [gs] := fun b hb => List.mem_append_left _ (hLs b hb)
  refine W.cs (cells' := 5) (slots' := 4841) rfl rfl ?_
  refine k_putF (ty0 := tyX6) E inlX6 rfl tyX6_ok nmX6 7 (by decide) w2_239 rfl rfl hnm rfl hw [.int (nI 2), .ref ts, .ref ps, .ref bs, .ref rw, .int 0, .int 0, .ref gs, .int 0, .null, .null, .null] h_o (rfl) (rfl) (Nat.le_of_ble_eq_true rfl) rfl dX6_init_49 (fun f H locs h_o hfr hw => ?_)
  have h_ts := h_ts.kp hfr n_ts_o
  have h_ps := h_ps.kp hfr n_ps_o
  have h_bs := h_bs.kp hfr n_bs_o
  have h_rw := h_rw.kp hfr n_rw_o
  have h_gs := h_gs.kp hfr n_gs_o
  have hF : ∀ b ∈ L, b ≠ h0 → f b = f0 b := fun b hb h0 => (hfr b h0).trans (hF b hb h0)
  refine lv_aload_n E.1.1 E.1.2.1 dX6_init_52 rfl (lv_at hl 0 rfl) ?_
  refine lv_bipush (v := nI 65) E.1.1 E.1.2.1 dX6_init_53 rfl ?_
  refine k_newa (atype := .int) E rfl w1_72 0 rfl hw (65, .inl (fun _ => 0)) (fun cB => rfl) (by omega) (by decide) (by rw [hR]; exact Nat.le_of_ble_eq_true rfl) (by rw [hR]; exact Nat.le_of_ble_eq_true rfl) dX6_init_55 (fun fa f H hq_fa h_fa hfr hw => ?_)
  have n_o_fa : h0 ≠ fa := fun h => hq_fa (h ▸ h_o.1)
  have n_fa_o := Ne.symm n_o_fa
  have h_o := h_o.keep (sub_snoc (a := fa)) (hfr _ n_o_fa)
  have n_ts_fa : ts ≠ fa := fun h => hq_fa (h ▸ h_ts.1)
  have n_fa_ts := Ne.symm n_ts_fa
  have h_ts := h_ts.keep (sub_snoc (a := fa)) (hfr _ n_ts_fa)
  have n_ps_fa : ps ≠ fa := fun h => hq_fa (h ▸ h_ps.1)
  have n_fa_ps := Ne.symm n_ps_fa
  have h_ps := h_ps.keep (sub_snoc (a := fa)) (hfr _ n_ps_fa)
  have n_bs_fa : bs ≠ fa := fun h => hq_fa (h ▸ h_bs.1)
  have n_fa_bs := Ne.symm n_bs_fa
  have h_bs := h_bs.keep (sub_snoc (a := fa)) (hfr _ n_bs_fa)
  have n_rw_fa : rw ≠ fa := fun h => hq_fa (h ▸ h_rw.1)
  have n_fa_rw := Ne.symm n_rw_fa
  have h_rw := h_rw.keep (sub_snoc (a := fa)) (hfr _ n_rw_fa)
  have n_gs_fa : gs ≠ fa := fun h => hq_fa (h ▸ h_gs.1)
  have n_fa_gs := Ne.symm n_gs_fa
  have h_gs := h_gs.keep (sub_snoc (a := fa)) (hfr _ n_gs_fa)
  have hd_fa : ∀ b ∈ L, b ≠ fa := fun b hb h => hq_fa (h ▸ hLs b hb)
  have hF : ∀ b ∈ L, b ≠ h0 → f b = f0 b := fun b hb h0 => (hfr b (hd_fa b hb)).trans (hF b hb h0)
  have hLs : ∀ b ∈ L, b ∈ (((((L ++ [ts]) ++ [ps]) ++ [bs]) ++ [rw]) ++ [gs]) ++ [fa] := fun b hb => List.mem_append_left _ (hLs b hb)
  refine W.cs (cells' := 6) (slots' := 4906) rfl rfl ?_
  refine k_putF (ty0 := tyX6) E inlX6 rfl tyX6_ok nmX6 9 (by decide) w3_1 rfl rfl hnm rfl hw [.int (nI 2), .ref ts, .ref ps, .ref bs, .ref rw, .int 0, .int 0, .ref gs, .int 0, .ref fa, .null, .null] h_o (rfl) (rfl) (Nat.le_of_ble_eq_true rfl) rfl dX6_init_57 (fun f H locs h_o hfr hw => ?_)
  have h_ts := h_ts.kp hfr n_ts_o
  have h_ps := h_ps.kp hfr n_ps_o
  have h_bs := h_bs.kp hfr n_bs_o
  have h_rw := h_rw.kp hfr n_rw_o
  have h_gs := h_gs.kp hfr n_gs_o
  have h_fa := h_fa.kp hfr n_fa_o
  have hF : ∀ b ∈ L, b ≠ h0 → f b = f0 b := fun b hb h0 => (hfr b h0).trans (hF b hb h0)
  refine lv_aload_n E.1.1 E.1.2.1 dX6_init_60 rfl (lv_at hl 0 rfl) ?_
  refine lv_iconst (v := nI 2) E.1.1 E.1.2.1 dX6_init_61 rfl ?_
  refine k_newa (atype := .int) E rfl w1_72 0 rfl hw (2, .inl (fun _ => 0)) (fun cB => rfl) (by omega) (by decide) (by rw [hR]; exact Nat.le_of_ble_eq_true rfl) (by rw [hR]; exact Nat.le_of_ble_eq_true rfl) dX6_init_62 (fun ba f H hq_ba h_ba hfr hw => ?_)
  have n_o_ba : h0 ≠ ba := fun h => hq_ba (h ▸ h_o.1)
  have n_ba_o := Ne.symm n_o_ba
  have h_o := h_o.keep (sub_snoc (a := ba)) (hfr _ n_o_ba)
  have n_ts_ba : ts ≠ ba := fun h => hq_ba (h ▸ h_ts.1)
  have n_ba_ts := Ne.symm n_ts_ba
  have h_ts := h_ts.keep (sub_snoc (a := ba)) (hfr _ n_ts_ba)
  have n_ps_ba : ps ≠ ba := fun h => hq_ba (h ▸ h_ps.1)
  have n_ba_ps := Ne.symm n_ps_ba
  have h_ps := h_ps.keep (sub_snoc (a := ba)) (hfr _ n_ps_ba)
  have n_bs_ba : bs ≠ ba := fun h => hq_ba (h ▸ h_bs.1)
  have n_ba_bs := Ne.symm n_bs_ba
  have h_bs := h_bs.keep (sub_snoc (a := ba)) (hfr _ n_bs_ba)
  have n_rw_ba : rw ≠ ba := fun h => hq_ba (h ▸ h_rw.1)
  have n_ba_rw := Ne.symm n_rw_ba
  have h_rw := h_rw.keep (sub_snoc (a := ba)) (hfr _ n_rw_ba)
  have n_gs_ba : gs ≠ ba := fun h => hq_ba (h ▸ h_gs.1)
  have n_ba_gs := Ne.symm n_gs_ba
  have h_gs := h_gs.keep (sub_snoc (a := ba)) (hfr _ n_gs_ba)
  have n_fa_ba : fa ≠ ba := fun h => hq_ba (h ▸ h_fa.1)
  have n_ba_fa := Ne.symm n_fa_ba
  have h_fa := h_fa.keep (sub_snoc (a := ba)) (hfr _ n_fa_ba)
  have hd_ba : ∀ b ∈ L, b ≠ ba := fun b hb h => hq_ba (h ▸ hLs b hb)
  have hF : ∀ b ∈ L, b ≠ h0 → f b = f0 b := fun b hb h0 => (hfr b (hd_ba b hb)).trans (hF b hb h0)
  have hLs : ∀ b ∈ L, b ∈ ((((((L ++ [ts]) ++ [ps]) ++ [bs]) ++ [rw]) ++ [gs]) ++ [fa]) ++ [ba] := fun b hb => List.mem_append_left _ (hLs b hb)
  refine W.cs (cells' := 7) (slots' := 4908) rfl rfl ?_
  refine k_putF (ty0 := tyX6) E inlX6 rfl tyX6_ok nmX6 10 (by decide) w3_2 rfl rfl hnm rfl hw [.int (nI 2), .ref ts, .ref ps, .ref bs, .ref rw, .int 0, .int 0, .ref gs, .int 0, .ref fa, .ref ba, .null] h_o (rfl) (rfl) (Nat.le_of_ble_eq_true rfl) rfl dX6_init_64 (fun f H locs h_o hfr hw => ?_)
  have h_ts := h_ts.kp hfr n_ts_o
  have h_ps := h_ps.kp hfr n_ps_o
  have h_bs := h_bs.kp hfr n_bs_o
  have h_rw := h_rw.kp hfr n_rw_o
  have h_gs := h_gs.kp hfr n_gs_o
  have h_fa := h_fa.kp hfr n_fa_o
  have h_ba := h_ba.kp hfr n_ba_o
  have hF : ∀ b ∈ L, b ≠ h0 → f b = f0 b := fun b hb h0 => (hfr b h0).trans (hF b hb h0)
  refine lv_aload_n E.1.1 E.1.2.1 dX6_init_67 rfl (lv_at hl 0 rfl) ?_
  refine lv_iconst (v := nI 2) E.1.1 E.1.2.1 dX6_init_68 rfl ?_
  refine k_newa (atype := .boolean) E rfl w3_29 2 rfl hw (2, .inl (fun _ => 0)) (fun cB => rfl) (by omega) (by decide) (by rw [hR]; exact Nat.le_of_ble_eq_true rfl) (by rw [hR]; exact Nat.le_of_ble_eq_true rfl) dX6_init_69 (fun it f H hq_it h_it hfr hw => ?_)
  have n_o_it : h0 ≠ it := fun h => hq_it (h ▸ h_o.1)
  have n_it_o := Ne.symm n_o_it
  have h_o := h_o.keep (sub_snoc (a := it)) (hfr _ n_o_it)
  have n_ts_it : ts ≠ it := fun h => hq_it (h ▸ h_ts.1)
  have n_it_ts := Ne.symm n_ts_it
  have h_ts := h_ts.keep (sub_snoc (a := it)) (hfr _ n_ts_it)
  have n_ps_it : ps ≠ it := fun h => hq_it (h ▸ h_ps.1)
  have n_it_ps := Ne.symm n_ps_it
  have h_ps := h_ps.keep (sub_snoc (a := it)) (hfr _ n_ps_it)
  have n_bs_it : bs ≠ it := fun h => hq_it (h ▸ h_bs.1)
  have n_it_bs := Ne.symm n_bs_it
  have h_bs := h_bs.keep (sub_snoc (a := it)) (hfr _ n_bs_it)
  have n_rw_it : rw ≠ it := fun h => hq_it (h ▸ h_rw.1)
  have n_it_rw := Ne.symm n_rw_it
  have h_rw := h_rw.keep (sub_snoc (a := it)) (hfr _ n_rw_it)
  have n_gs_it : gs ≠ it := fun h => hq_it (h ▸ h_gs.1)
  have n_it_gs := Ne.symm n_gs_it
  have h_gs := h_gs.keep (sub_snoc (a := it)) (hfr _ n_gs_it)
  have n_fa_it : fa ≠ it := fun h => hq_it (h ▸ h_fa.1)
  have n_it_fa := Ne.symm n_fa_it
  have h_fa := h_fa.keep (sub_snoc (a := it)) (hfr _ n_fa_it)
  have n_ba_it : ba ≠ it := fun h => hq_it (h ▸ h_ba.1)
  have n_it_ba := Ne.symm n_ba_it
  have h_ba := h_ba.keep (sub_snoc (a := it)) (hfr _ n_ba_it)
  have hd_it : ∀ b ∈ L, b ≠ it := fun b hb h => hq_it (h ▸ hLs b hb)
  have hF : ∀ b ∈ L, b ≠ h0 → f b = f0 b := fun b hb h0 => (hfr b (hd_it b hb)).trans (hF b hb h0)
  have hLs : ∀ b ∈ L, b ∈ (((((((L ++ [ts]) ++ [ps]) ++ [bs]) ++ [rw]) ++ [gs]) ++ [fa]) ++ [ba]) ++ [it] := fun b hb => List.mem_append_left _ (hLs b hb)
  refine W.cs (cells' := 8) (slots' := 4910) rfl rfl ?_
  refine k_putF (ty0 := tyX6) E inlX6 rfl tyX6_ok nmX6 11 (by decide) w3_3 rfl rfl hnm rfl hw [.int (nI 2), .ref ts, .ref ps, .ref bs, .ref rw, .int 0, .int 0, .ref gs, .int 0, .ref fa, .ref ba, .ref it] h_o (rfl) (rfl) (Nat.le_of_ble_eq_true rfl) rfl dX6_init_71 (fun f H locs h_o hfr hw => ?_)
  have h_ts := h_ts.kp hfr n_ts_o
  have h_ps := h_ps.kp hfr n_ps_o
  have h_bs := h_bs.kp hfr n_bs_o
  have h_rw := h_rw.kp hfr n_rw_o
  have h_gs := h_gs.kp hfr n_gs_o
  have h_fa := h_fa.kp hfr n_fa_o
  have h_ba := h_ba.kp hfr n_ba_o
  have h_it := h_it.kp hfr n_it_o
  have hF : ∀ b ∈ L, b ≠ h0 → f b = f0 b := fun b hb h0 => (hfr b h0).trans (hF b hb h0)
  refine lv_iconst (v := nI 0) E.1.1 E.1.2.1 dX6_init_74 rfl ?_
  refine lv_istore_n (lv' := [(1, .int (nI 0)), (0, .ref h0)]) E.1.1 E.1.2.1 dX6_init_75 rfl hl (by decide) rfl (fun ls hl => ?_)
  have lp76 : ∀ (k : Nat) (i : Nat) (f : Nat → va_E) (H : Heap) (locs : List Loc) (ls : Array Slot), (84 - i < k) → (i ≤ 84) → (cel ((((((((L ++ [ts]) ++ [ps]) ++ [bs]) ++ [rw]) ++ [gs]) ++ [fa]) ++ [ba]) ++ [it]) f h0 (.inr (6, [.int (nI 2), .ref ts, .ref ps, .ref bs, .ref rw, .int 0, .int 0, .ref gs, .int 0, .ref fa, .ref ba, .ref it]))) → (cel ((((((((L ++ [ts]) ++ [ps]) ++ [bs]) ++ [rw]) ++ [gs]) ++ [fa]) ++ [ba]) ++ [it]) f ts (.inl (cy 0, 84, .inl (fun _ => 0)))) → (cel ((((((((L ++ [ts]) ++ [ps]) ++ [bs]) ++ [rw]) ++ [gs]) ++ [fa]) ++ [ba]) ++ [it]) f ps (.inl (cy 0, 84, .inl (fun k => nI (if k < i then 1 else 0))))) → (cel ((((((((L ++ [ts]) ++ [ps]) ++ [bs]) ++ [rw]) ++ [gs]) ++ [fa]) ++ [ba]) ++ [it]) f bs (.inl (cy 1, 252, .inr (.inl (fun _ => 0))))) → (cel ((((((((L ++ [ts]) ++ [ps]) ++ [bs]) ++ [rw]) ++ [gs]) ++ [fa]) ++ [ba]) ++ [it]) f rw (.inl (cy 2, 4096, .inl (fun _ => 0)))) → (cel ((((((((L ++ [ts]) ++ [ps]) ++ [bs]) ++ [rw]) ++ [gs]) ++ [fa]) ++ [ba]) ++ [it]) f gs (.inl (cy 0, 325, .inl (fun _ => 0)))) → (cel ((((((((L ++ [ts]) ++ [ps]) ++ [bs]) ++ [rw]) ++ [gs]) ++ [fa]) ++ [ba]) ++ [it]) f fa (.inl (cy 0, 65, .inl (fun _ => 0)))) → (cel ((((((((L ++ [ts]) ++ [ps]) ++ [bs]) ++ [rw]) ++ [gs]) ++ [fa]) ++ [ba]) ++ [it]) f ba (.inl (cy 0, 2, .inl (fun _ => 0)))) → (cel ((((((((L ++ [ts]) ++ [ps]) ++ [bs]) ++ [rw]) ++ [gs]) ++ [fa]) ++ [ba]) ++ [it]) f it (.inl (cy 2, 2, .inl (fun _ => 0)))) → (∀ b ∈ L, b ≠ h0 → f b = f0 b) → (WW D (AW L sz) s.heap ((((((((L ++ [ts]) ++ [ps]) ++ [bs]) ++ [rw]) ++ [gs]) ++ [fa]) ++ [ba]) ++ [it]) f H locs) → (lv_has ls 2 [(1, .int (nI i)), (0, .ref h0)]) → W p l e R s m args below meth c H locs 8 4910 Q (F0 m 76 ls []) := by
    intro k
    induction k with
    | zero => intro _ _ _ _ _ hk; exact absurd hk (Nat.not_lt_zero _)
    | succ k ih76 =>
      intro i f H locs ls hk hi h_o h_ts h_ps h_bs h_rw h_gs h_fa h_ba h_it hF hw hl
      refine lv_iload_n E.1.1 E.1.2.1 dX6_init_76 rfl (lv_at hl 0 rfl) ?_
      refine lv_bipush (v := nI 84) E.1.1 E.1.2.1 dX6_init_77 rfl ?_
      refine k_ge (tgt := 95) E dX6_init_79 (by decide) (by omega) (by omega) (fun c79 => ?_) (fun c79 => ?_)
      · have hND : [h0, ts, ps, bs, rw, gs, fa, ba, it].Nodup := by
          simp only [List.nodup_cons, List.mem_cons, List.not_mem_nil, or_false, not_or, not_false_iff, List.nodup_nil, and_true]
          exact ⟨⟨n_o_ts, n_o_ps, n_o_bs, n_o_rw, n_o_gs, n_o_fa, n_o_ba, n_o_it⟩, ⟨n_ts_ps, n_ts_bs, n_ts_rw, n_ts_gs, n_ts_fa, n_ts_ba, n_ts_it⟩, ⟨n_ps_bs, n_ps_rw, n_ps_gs, n_ps_fa, n_ps_ba, n_ps_it⟩, ⟨n_bs_rw, n_bs_gs, n_bs_fa, n_bs_ba, n_bs_it⟩, ⟨n_rw_gs, n_rw_fa, n_rw_ba, n_rw_it⟩, ⟨n_gs_fa, n_gs_ba, n_gs_it⟩, ⟨n_fa_ba, n_fa_it⟩, n_ba_it⟩
        have hnew : ∀ i, 0 < i → i < 9 → ([h0, ts, ps, bs, rw, gs, fa, ba, it].getD i 0) ∉ L := fun i h1 h2 => by
          rcases (show i = 1 ∨ i = 2 ∨ i = 3 ∨ i = 4 ∨ i = 5 ∨ i = 6 ∨ i = 7 ∨ i = 8 by omega) with rfl | rfl | rfl | rfl | rfl | rfl | rfl | rfl
          · exact fun h => hd_ts ts h rfl
          · exact fun h => hd_ps ps h rfl
          · exact fun h => hd_bs bs h rfl
          · exact fun h => hd_rw rw h rfl
          · exact fun h => hd_gs gs h rfl
          · exact fun h => hd_fa fa h rfl
          · exact fun h => hd_ba ba h rfl
          · exact fun h => hd_it it h rfl
        rw [← rw3_none] at h_bs
        obtain ⟨f, h_ps, hfr, hw⟩ := k_swi (fun k => nI 1) hw h_ps (fun k hk => by rw [if_pos (by omega)])
        have h_o := h_o.kp hfr n_o_ps
        have h_ts := h_ts.kp hfr n_ts_ps
        have h_bs := h_bs.kp hfr n_bs_ps
        have h_rw := h_rw.kp hfr n_rw_ps
        have h_gs := h_gs.kp hfr n_gs_ps
        have h_fa := h_fa.kp hfr n_fa_ps
        have h_ba := h_ba.kp hfr n_ba_ps
        have h_it := h_it.kp hfr n_it_ps
        have hF : ∀ b ∈ L, b ≠ h0 → f b = f0 b := fun b hb h0 => (hfr b (hd_ps b hb)).trans (hF b hb h0)
        exact k_mvret E hQ hlk hr hw (Nat.le_of_ble_eq_true rfl) (Nat.le_of_ble_eq_true rfl) (⟨hLs, hF, _, rfl, mad_of rfl hND, hnew, Or.inl rfl, 0, 0, 0, fun _ => 0, fun _ => 1, fun _ _ => false, fun _ => false, fun _ => 0, fun _ => 0, fun _ => 0, ⟨h_o, h_ts, h_ps, h_bs, h_rw, h_gs, h_fa, h_ba, h_it⟩, fun _ _ => ⟨Nat.zero_le _, Nat.one_pos, show 1 ≤ 60 by decide⟩, fun _ _ => ⟨none_is, 1, none_mch (by decide)⟩, fun i _ h => absurd (show false = true from h) (by decide)⟩) dX6_init_95
      · refine lv_aload_n E.1.1 E.1.2.1 dX6_init_82 rfl (lv_at hl 1 rfl) ?_
        refine k_get (v := .ref ps) E inlX6 rfl 2 (by decide) w2_234 rfl hw h_o rfl dX6_init_83 ?_
        refine lv_iload_n E.1.1 E.1.2.1 dX6_init_86 rfl (lv_at hl 0 rfl) ?_
        refine lv_iconst (v := nI 1) E.1.1 E.1.2.1 dX6_init_87 rfl ?_
        refine k_iast E hw (fun k => nI (if k < i + 1 then 1 else 0)) h_ps (by omega) (by omega) (fun z hz => by
      by_cases h : z = i
      · rw [if_pos h, if_pos (by omega)]
      · rw [if_neg h]
        by_cases h2 : z < i
        · rw [if_pos h2, if_pos (by omega)]
        · rw [if_neg h2, if_neg (by omega)]) dX6_init_88 (fun f H locs h_ps hfr hw => ?_)
        have h_o := h_o.kp hfr n_o_ps
        have h_ts := h_ts.kp hfr n_ts_ps
        have h_bs := h_bs.kp hfr n_bs_ps
        have h_rw := h_rw.kp hfr n_rw_ps
        have h_gs := h_gs.kp hfr n_gs_ps
        have h_fa := h_fa.kp hfr n_fa_ps
        have h_ba := h_ba.kp hfr n_ba_ps
        have h_it := h_it.kp hfr n_it_ps
        have hF : ∀ b ∈ L, b ≠ h0 → f b = f0 b := fun b hb h0 => (hfr b (hd_ps b hb)).trans (hF b hb h0)
        refine lv_iinc (v := nI (i + 1)) (lv' := [(1, .int (nI (i + 1))), (0, .ref h0)]) E.1.1 E.1.2.1 dX6_init_89 hl (k := 0) rfl (nI_1 _) (by decide) rfl (fun ls hl => ?_)
        refine lv_goto (tgt := 76) E.1.1 E.1.2.1 dX6_init_92 (by decide) ?_
        exact ih76  (i + 1) f H locs ls (by omega) (by omega) h_o h_ts h_ps h_bs h_rw h_gs h_fa h_ba h_it hF hw (lv_sub hl [0, 1] rfl)
  exact lp76 (84 - 0 + 1) 0 f H locs ls (Nat.lt_succ_self _) (by omega) h_o h_ts h_ps h_bs h_rw h_gs h_fa h_ba h_it hF hw (lv_sub hl [0, 1] rfl)
