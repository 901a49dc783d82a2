set_option maxHeartbeats 8000000 in
set_option maxRecDepth 100000 in
theorem law_go {p : Program} {l : Launch} {e : Env} {s : State} {m : MethodId} {below : List Frame} {meth : Method} {c : Code} (D : va_G) (cy : Nat → ClassId) {b LN : Nat} {xs : Nat → Int32} (hLN : LN ≤ 2560) (E : EE p s m #[Value.ref b] c cL_law 4 RL D cy) (hX : va_X b LN xs s s.heap) (hbl : b < s.heap.size) (hlocks : meth.locks = false) (hr : meth.sig.returnType = ret) (ls : Array Slot) (hl : lv_has ls 4 [(0, .ref b)]) : W p l e room_1 s m #[Value.ref b] below meth c s.heap [] 0 0 (lw_Z below #[Value.ref b] s) (F0 m 0 ls []) := by
  have hR : room_1 = { frames := 9, cells := 600000, slots := 7302250, locals := 326 } := rfl
  have hbA : ¬ (fun q : Nat => s.heap.size ≤ q) b := Nat.not_le.mpr hbl
  obtain ⟨L, hL0⟩ : ∃ X : List Nat, X = [] := ⟨_, rfl⟩
  obtain ⟨f0, hf0⟩ : ∃ X : Nat → va_E, X = fun _ => .inr (0, []) := ⟨_, rfl⟩
  obtain ⟨f, hf⟩ : ∃ X, X = f0 := ⟨_, rfl⟩
  obtain ⟨H, hH⟩ : ∃ X, X = s.heap := ⟨_, rfl⟩
  obtain ⟨locs, hlocs⟩ : ∃ X : List Loc, X = [] := ⟨_, rfl⟩
  have hw : WW D (fun q : Nat => s.heap.size ≤ q) s.heap L f H locs := by rw [hH, hlocs, hL0]; exact ⟨fun k q h => by simp [va_pl] at h, ⟨fun i j p q h => by simp [va_pl] at h, fun k q h => by simp [va_pl] at h⟩, va_S.rf, fun _ h => h⟩
  have hF : ∀ b ∈ L, f b = f0 b := fun b hb => by rw [hf]
  have hLs : ∀ b ∈ L, b ∈ L := fun _ h => h
  suffices hgo : W p l e room_1 s m #[Value.ref b] below meth c H locs 0 0 (lw_Z below #[Value.ref b] s) (F0 m 0 ls []) by rw [hH, hlocs] at hgo; exact hgo
  clear hH hlocs hf hf0
  refine k_new (ci := 5) (ty0 := tyX5) E inlX5 rfl tyX5_ok w1_12 w1_13 w1_1 hw [.null, .null, .null, .null, .int 0] (fun j hj => by rcases (show j = 0 ∨ j = 1 ∨ j = 2 ∨ j = 3 ∨ j = 4 by omega) with rfl | rfl | rfl | rfl | rfl <;> rfl) (by rw [hR]; exact Nat.le_of_ble_eq_true rfl) (by rw [hR]; exact Nat.le_of_ble_eq_true rfl) dL_law_0 (fun nm f H hq_nm h_nm hfr hw => ?_)
  have hd_nm : ∀ b ∈ L, b ≠ nm := fun b hb h => hq_nm (h ▸ hLs b hb)
  have hF : ∀ b ∈ L, f b = f0 b := fun b hb => (hfr b (hd_nm b hb)).trans (hF b hb)
  have hLs : ∀ b ∈ L, b ∈ L ++ [nm] := fun b hb => List.mem_append_left _ (hLs b hb)
  refine W.cs (cells' := 1) (slots' := 5) rfl rfl ?_
  refine lv_dup E.1.1 E.1.2.1 dL_law_3 rfl ?_
  refine k_mv hw (va_runI (As := []) (rest := [.ref nm]) E.1 (c_init l D cy (L ++ [nm]) f H.size nm h_nm) ⟨callB_of 0 E.1.2.2.2.2 (gd_own w1_16) rfl rfl rfl (E.1.2.2.2.2 _ w1_1) (E.1.2.2.2.2 _ w1_14) hd_X5_init (by rw [hR]; exact ⟨Nat.le_of_ble_eq_true rfl, Nat.le_of_ble_eq_true rfl⟩), rfl, E.1.2.2.2.2 _ w1_15⟩ (pw_pre E.2 hw) rfl rfl hl.1 rfl (lv_room (Nat.le_of_ble_eq_true rfl)) dL_law_4 (by rw [hR]; exact ⟨Nat.le_of_ble_eq_true rfl, Nat.le_of_ble_eq_true rfl⟩)) (fun La f H locs hp hw => ?_)
  refine W.cs (cells' := 16) (slots' := 945) rfl rfl ?_
  obtain ⟨hLn, hfr, M0, A, hA0, hAd, hAn, hN⟩ := hp
  dsimp only at hLn hfr hAd hAn hN
  have hLs : ∀ b ∈ L, b ∈ La := fun b hb => hLn b (hLs b hb)
  refine W.eq (g2 := F0 m 7 ls [.ref (A 0)]) (by rw [hA0]) ?_
  obtain ⟨fa, hfa⟩ : ∃ X, X = f := ⟨_, rfl⟩
  rw [← hfa] at hN
  have hK0 : ∀ b ∈ La, f b = fa b := fun b _ => by rw [hfa]
  clear hfa
  have hF : ∀ b ∈ L, f b = f0 b := fun b hb => absurd hb (by rw [hL0]; exact List.not_mem_nil)
  refine lv_astore_n (lv' := [(1, .ref (A 0)), (0, .ref b)]) E.1.1 E.1.2.1 dL_law_7 rfl hl (by decide) rfl (fun ls hl => ?_)
  refine k_new (ci := 6) (ty0 := tyX6) E inlX6 rfl tyX6_ok w2_226 w2_227 w1_10 hw [.int 0, .null, .null, .null, .null, .int 0, .int 0, .null, .int 0, .null, .null, .null] (fun j hj => by rcases (show j = 0 ∨ j = 1 ∨ j = 2 ∨ j = 3 ∨ j = 4 ∨ j = 5 ∨ j = 6 ∨ j = 7 ∨ j = 8 ∨ j = 9 ∨ j = 10 ∨ j = 11 by omega) with rfl | rfl | rfl | rfl | rfl | rfl | rfl | rfl | rfl | rfl | rfl | rfl <;> rfl) (by rw [hR]; exact Nat.le_of_ble_eq_true rfl) (by rw [hR]; exact Nat.le_of_ble_eq_true rfl) dL_law_8 (fun mo f H hq_mo h_mo hfr hw => ?_)
  have hd_mo : ∀ b ∈ L, b ≠ mo := fun b hb h => hq_mo (h ▸ hLs b hb)
  have hF : ∀ b ∈ L, f b = f0 b := fun b hb => (hfr b (hd_mo b hb)).trans (hF b hb)
  have hLs : ∀ b ∈ L, b ∈ La ++ [mo] := fun b hb => List.mem_append_left _ (hLs b hb)
  refine W.cs (cells' := 17) (slots' := 957) rfl rfl ?_
  have hK0 : ∀ b ∈ La, f b = fa b := fun b hb => (hfr b (fun h => hq_mo (h ▸ hb))).trans (hK0 b hb)
  refine lv_dup E.1.1 E.1.2.1 dL_law_11 rfl ?_
  refine k_mv hw (va_runI (As := []) (rest := [.ref mo]) E.1 (m_init l D cy (La ++ [mo]) f H.size mo h_mo) ⟨callB_of 0 E.1.2.2.2.2 (gd_own w2_230) rfl rfl rfl (E.1.2.2.2.2 _ w1_10) (E.1.2.2.2.2 _ w2_228) hd_X6_init (by rw [hR]; exact ⟨Nat.le_of_ble_eq_true rfl, Nat.le_of_ble_eq_true rfl⟩), rfl, E.1.2.2.2.2 _ w2_229⟩ (pw_pre E.2 hw) rfl rfl hl.1 rfl (lv_room (Nat.le_of_ble_eq_true rfl)) dL_law_12 (by rw [hR]; exact ⟨Nat.le_of_ble_eq_true rfl, Nat.le_of_ble_eq_true rfl⟩)) (fun Lb f H locs hp hw => ?_)
  refine W.cs (cells' := 25) (slots' := 5867) rfl rfl ?_
  obtain ⟨hLn, hfr, Z, hZ0, hZA, hZn, hMo⟩ := hp
  dsimp only at hLn hfr hZn hMo
  have hK0 : ∀ b ∈ La, f b = fa b := fun b hb => (hfr b (List.mem_append_left _ hb) (fun h => hq_mo (h ▸ hb))).trans (hK0 b hb)
  have hZn2 : ∀ i, i < 9 → Z i ∉ La := fun i hi h => by
    rcases Nat.eq_zero_or_pos i with e | e
    · rw [e, hZ0] at h; exact hq_mo h
    · exact hZn i e hi (List.mem_append_left _ h)
  obtain ⟨M, hBW⟩ := both_start hAd hN (fun b hb => hLn b (List.mem_append_left _ hb)) hK0 hZA hZn2 hMo
  refine W.eq (g2 := F0 m 15 ls [.ref (Z 0)]) (by rw [hZ0]) ?_
  refine lv_astore_n (lv' := [(2, .ref (Z 0)), (1, .ref (A 0)), (0, .ref b)]) E.1.1 E.1.2.1 dL_law_15 rfl hl (by decide) rfl (fun ls hl => ?_)
  refine lv_iconst (v := nI 0) E.1.1 E.1.2.1 dL_law_16 rfl ?_
  refine lv_istore_n (lv' := [(3, .int (nI 0)), (2, .ref (Z 0)), (1, .ref (A 0)), (0, .ref b)]) E.1.1 E.1.2.1 dL_law_17 rfl hl (by decide) rfl (fun ls hl => ?_)
  have lp18 : ∀ (k q : Nat) (Lw : List Nat) (f : Nat → va_E) (H : Heap) (locs : List Loc) (base : Nat) (SS : Nat → Nat → Bool) (kp : Nat → Bool) (kb : Nat → Nat) (KS : Nat → Nat → Nat → Bool) (ls : Array Slot), 513 - q < k → q ≤ 512 → BothW cy Lw f M A Z base SS kp kb KS → WW D (fun q : Nat => s.heap.size ≤ q) s.heap Lw f H locs → lv_has ls 4 [(3, .int (nI (5 * q))), (1, .ref (A 0)), (2, .ref (Z 0)), (0, .ref b)] → W p l e room_1 s m #[Value.ref b] below meth c H locs (25 + 4 * q) (5867 + 331 * q) (lw_Z below #[Value.ref b] s) (F0 m 18 ls []) := by
    intro k
    induction k with
    | zero => intro _ _ _ _ _ _ _ _ _ _ _ hk; exact absurd hk (Nat.not_lt_zero _)
    | succ k ih18 =>
      intro q Lw f H locs base SS kp kb KS ls hk hq512 hBW hw hl
      obtain ⟨hAd, hZA, hZM, hAZ, hN, hMo⟩ := id hBW
      have hb2 := hN.1.two
      have h_nm := hN.2.1
      obtain ⟨vs, h_mo⟩ := hMo.obj
      refine lv_iload_n E.1.1 E.1.2.1 dL_law_18 rfl (lv_at hl 0 rfl) ?_
      refine lv_aload_n E.1.1 E.1.2.1 dL_law_19 rfl (lv_at hl 3 rfl) ?_
      refine va_slen E.1.1 E.1.2.1 hX hbl hbA hw.2.2.1 dL_law_20 ?_
      refine lv_iconst (v := nI 5) E.1.1 E.1.2.1 dL_law_21 rfl ?_
      refine lv_isub E.1.1 E.1.2.1 dL_law_22 ?_
      refine lv_icmp_gt (tgt := 763) E.1.1 E.1.2.1 dL_law_23 (by decide) (fun c23 => ?_) (fun c23 => ?_)
      · refine lv_iconst (v := nI 1) E.1.1 E.1.2.1 dL_law_763 rfl ?_
        refine va_forget (fun z hz => hw.2.2.1.2.2 z hz) ?_
        refine W.widen (k := 600000) (n := 7302250) (by omega) (by omega) ?_
        exact lw_ret E.1.1 E.1.2.1 hr hlocks dL_law_764
      · have h5 := lt_len (by omega) (by omega) c23
        obtain ⟨a0, ha0⟩ : ∃ z, z = xs (5 * q) := ⟨_, rfl⟩
        obtain ⟨a1, ha1⟩ : ∃ z, z = xs (5 * q + 1) := ⟨_, rfl⟩
        obtain ⟨a2, ha2⟩ : ∃ z, z = xs (5 * q + 2) := ⟨_, rfl⟩
        obtain ⟨a3, ha3⟩ : ∃ z, z = xs (5 * q + 3) := ⟨_, rfl⟩
        obtain ⟨a4, ha4⟩ : ∃ z, z = xs (5 * q + 4) := ⟨_, rfl⟩
        refine lv_aload_n E.1.1 E.1.2.1 dL_law_26 rfl (lv_at hl 3 rfl) ?_
        refine lv_iload_n E.1.1 E.1.2.1 dL_law_27 rfl (lv_at hl 0 rfl) ?_
        refine va_sld E.1.1 E.1.2.1 hX hbl hbA hw.2.2.1 (vp_in_nI (show 5 * q < LN by omega) (by omega)) dL_law_28 ?_
        refine k_top E (a0) (by rw [nI_clamp (by omega)]; exact ha0.symm) ?_
        refine lv_bipush (v := nI 31) E.1.1 E.1.2.1 dL_law_29 rfl ?_
        refine lv_iand E.1.1 E.1.2.1 dL_law_31 ?_
        refine lv_topi (fun x0 ex0 => ?_)
        cases hsw : i32in x0 0 (nI 16)
        · refine lv_tableOut (tgt := 757) E.1.1 E.1.2.1 dL_law_32 (tab_out (by decide) hsw) (by decide) ?_
          refine lv_iinc (v := nI (5 * q + 5)) (lv' := [(3, .int (nI (5 * q + 5))), (1, .ref (A 0)), (2, .ref (Z 0)), (0, .ref b)]) E.1.1 E.1.2.1 dL_law_757 hl (k := 0) rfl (nI_add (5 * q) 5) (by decide) rfl (fun ls hl => ?_)
          refine lv_goto (tgt := 18) E.1.1 E.1.2.1 dL_law_760 (by decide) ?_
          rw [show 5 * q + 5 = 5 * (q + 1) by omega] at hl
          refine W.widen (k := 25 + 4 * (q + 1)) (n := 5867 + 331 * (q + 1)) (by omega) (by omega) ?_
          exact ih18 (q + 1) Lw f H locs base SS kp kb KS ls (by omega) (by omega) ⟨hAd, hZA, hZM, hAZ, hN, hMo⟩ hw (lv_sub hl [0, 1, 2, 3] rfl)
        · obtain ⟨k0, hk0, rfl⟩ := in_ex (by decide) hsw
          clear ex0
          rcases (show k0 = 0 ∨ k0 = 1 ∨ k0 = 2 ∨ k0 = 3 ∨ k0 = 4 ∨ k0 = 5 ∨ k0 = 6 ∨ k0 = 7 ∨ k0 = 8 ∨ k0 = 9 ∨ k0 = 10 ∨ k0 = 11 ∨ k0 = 12 ∨ k0 = 13 ∨ k0 = 14 ∨ k0 = 15 ∨ k0 = 16 by omega) with rfl | rfl | rfl | rfl | rfl | rfl | rfl | rfl | rfl | rfl | rfl | rfl | rfl | rfl | rfl | rfl | rfl
          · refine lv_tableIn (tgt := 116) E.1.1 E.1.2.1 dL_law_32 (by decide) (by decide) (off := 84) (by decide) (by decide) ?_
            refine lv_aload_n E.1.1 E.1.2.1 dL_law_116 rfl (lv_at hl 1 rfl) ?_
            refine lv_aload_n E.1.1 E.1.2.1 dL_law_117 rfl (lv_at hl 3 rfl) ?_
            refine lv_iload_n E.1.1 E.1.2.1 dL_law_118 rfl (lv_at hl 0 rfl) ?_
            refine lv_iconst (v := nI 1) E.1.1 E.1.2.1 dL_law_119 rfl ?_
            refine k_add E dL_law_120 ?_
            refine va_sld E.1.1 E.1.2.1 hX hbl hbA hw.2.2.1 (vp_in_nI (show (5 * q) + 1 < LN by omega) (by omega)) dL_law_121 ?_
            refine k_top E (a1) (by rw [nI_clamp (by omega)]; exact ha1.symm) ?_
            refine k_mi hw (va_runV (As := [.int a1]) (rest := []) E.1 (p_base l D cy Lw f H.size M A base SS kp kb KS hAd hN a1) ⟨callB_of 1 E.1.2.2.2.2 (gd_own w2_10) rfl rfl rfl (E.1.2.2.2.2 _ w1_1) (E.1.2.2.2.2 _ w2_7) hd_X5_base (by rw [hR]; exact ⟨Nat.le_of_ble_eq_true rfl, Nat.le_of_ble_eq_true rfl⟩), E.1.2.2.2.2 _ w2_8, E.1.2.2.2.2 _ w2_9⟩ (pw_preV (q := (RX5, TX5, 5)) E.2 hw h_nm rfl) rfl rfl hl.1 rfl (lv_room (Nat.le_of_ble_eq_true rfl)) dL_law_122 ⟨by rw [hR]; dsimp only; omega, by rw [hR]; dsimp only; omega⟩) (fun r Lx f H locs hp hw => ?_)
            refine W.cs (cells' := 25 + 4 * q + 4) (slots' := 5867 + 331 * q + 331) rfl rfl ?_
            obtain ⟨hLn, hfr, base2, SS2, hN2, hsp⟩ := hp
            dsimp only at hLn hfr hN2 hsp
            obtain ⟨r1, hr1⟩ : ∃ X, X = r := ⟨_, rfl⟩
            rw [← hr1] at hsp
            refine k_top E r1 hr1.symm ?_
            have hMo := hMo.keep hLn (fun i hi => hfr _ (hAd.2.2 _ (hZM i hi)) (fun j hj h => hAZ j i hj hi h.symm))
            have hAd := hAd.grow hLn
            have h_nm := hN2.2.1
            obtain ⟨vs, h_mo⟩ := hMo.obj
            refine lv_aload_n E.1.1 E.1.2.1 dL_law_125 rfl (lv_at hl 2 rfl) ?_
            refine lv_aload_n E.1.1 E.1.2.1 dL_law_126 rfl (lv_at hl 3 rfl) ?_
            refine lv_iload_n E.1.1 E.1.2.1 dL_law_127 rfl (lv_at hl 0 rfl) ?_
            refine lv_iconst (v := nI 1) E.1.1 E.1.2.1 dL_law_128 rfl ?_
            refine k_add E dL_law_129 ?_
            refine va_sld E.1.1 E.1.2.1 hX hbl hbA hw.2.2.1 (vp_in_nI (show (5 * q) + 1 < LN by omega) (by omega)) dL_law_130 ?_
            refine k_top E (a1) (by rw [nI_clamp (by omega)]; exact ha1.symm) ?_
            refine k_mi hw (va_runV (As := [.int a1]) (rest := [.int r1]) E.1 (m_base l D cy Lx f H.size Z base SS kp kb KS hZA hMo a1) ⟨callB_of 1 E.1.2.2.2.2 (gd_own w3_33) rfl rfl rfl (E.1.2.2.2.2 _ w1_10) (E.1.2.2.2.2 _ w3_30) hd_X6_base (by rw [hR]; exact ⟨Nat.le_of_ble_eq_true rfl, Nat.le_of_ble_eq_true rfl⟩), E.1.2.2.2.2 _ w3_31, E.1.2.2.2.2 _ w3_32⟩ (pw_preV (q := (RX6, TX6, 12)) E.2 hw h_mo rfl) rfl rfl hl.1 rfl (lv_room (Nat.le_of_ble_eq_true rfl)) dL_law_131 ⟨by rw [hR]; dsimp only; omega, by rw [hR]; dsimp only; omega⟩) (fun r L1 f H locs hp hw => ?_)
            obtain ⟨hL2, hfr2, base3, SS3, hMo2, hsp2⟩ := hp
            dsimp only at hL2 hfr2 hMo2 hsp2
            subst hL2
            have hN2 := hN2.keep2 (fun _ h => h) (fun i hi => hfr2 _ (hAd.2.2 _ (hAd.1 i hi)) (fun j hj h => hAZ i j hi hj h)) (fun z hz hn => hfr2 z hz (fun j hj h => hn (h ▸ hZM j hj)))
            have hu := sp_base_uni hsp hsp2
            obtain ⟨hu, rfl, rfl⟩ := hu
            refine lv_icmp_eq (tgt := 757) E.1.1 E.1.2.1 dL_law_134 (by decide) (fun c134 => ?_) (fun c134 => absurd hu c134)
            refine lv_iinc (v := nI (5 * q + 5)) (lv' := [(3, .int (nI (5 * q + 5))), (1, .ref (A 0)), (2, .ref (Z 0)), (0, .ref b)]) E.1.1 E.1.2.1 dL_law_757 hl (k := 0) rfl (nI_add (5 * q) 5) (by decide) rfl (fun ls hl => ?_)
            refine lv_goto (tgt := 18) E.1.1 E.1.2.1 dL_law_760 (by decide) ?_
            rw [show 5 * q + 5 = 5 * (q + 1) by omega] at hl
            refine W.widen (k := 25 + 4 * (q + 1)) (n := 5867 + 331 * (q + 1)) (by omega) (by omega) ?_
            exact ih18 (q + 1) Lx f H locs base2 SS2 kp kb KS ls (by omega) (by omega) ⟨hAd, hZA, hZM, hAZ, hN2, hMo2⟩ hw (lv_sub hl [0, 1, 2, 3] rfl)
          · refine lv_tableIn (tgt := 139) E.1.1 E.1.2.1 dL_law_32 (by decide) (by decide) (off := 107) (by decide) (by decide) ?_
            cases hk2 : i32in a2 0 (nI 4)
            · refine lv_aload_n E.1.1 E.1.2.1 dL_law_139 rfl (lv_at hl 1 rfl) ?_
              refine lv_aload_n E.1.1 E.1.2.1 dL_law_140 rfl (lv_at hl 3 rfl) ?_
              refine lv_iload_n E.1.1 E.1.2.1 dL_law_141 rfl (lv_at hl 0 rfl) ?_
              refine lv_iconst (v := nI 1) E.1.1 E.1.2.1 dL_law_142 rfl ?_
              refine k_add E dL_law_143 ?_
              refine va_sld E.1.1 E.1.2.1 hX hbl hbA hw.2.2.1 (vp_in_nI (show (5 * q) + 1 < LN by omega) (by omega)) dL_law_144 ?_
              refine k_top E (a1) (by rw [nI_clamp (by omega)]; exact ha1.symm) ?_
              refine lv_aload_n E.1.1 E.1.2.1 dL_law_145 rfl (lv_at hl 3 rfl) ?_
              refine lv_iload_n E.1.1 E.1.2.1 dL_law_146 rfl (lv_at hl 0 rfl) ?_
              refine lv_iconst (v := nI 2) E.1.1 E.1.2.1 dL_law_147 rfl ?_
              refine k_add E dL_law_148 ?_
              refine va_sld E.1.1 E.1.2.1 hX hbl hbA hw.2.2.1 (vp_in_nI (show (5 * q) + 2 < LN by omega) (by omega)) dL_law_149 ?_
              refine k_top E (a2) (by rw [nI_clamp (by omega)]; exact ha2.symm) ?_
              refine lv_aload_n E.1.1 E.1.2.1 dL_law_150 rfl (lv_at hl 3 rfl) ?_
              refine lv_iload_n E.1.1 E.1.2.1 dL_law_151 rfl (lv_at hl 0 rfl) ?_
              refine lv_iconst (v := nI 3) E.1.1 E.1.2.1 dL_law_152 rfl ?_
              refine k_add E dL_law_153 ?_
              refine va_sld E.1.1 E.1.2.1 hX hbl hbA hw.2.2.1 (vp_in_nI (show (5 * q) + 3 < LN by omega) (by omega)) dL_law_154 ?_
              refine k_top E (a3) (by rw [nI_clamp (by omega)]; exact ha3.symm) ?_
              refine lv_aload_n E.1.1 E.1.2.1 dL_law_155 rfl (lv_at hl 3 rfl) ?_
              refine lv_iload_n E.1.1 E.1.2.1 dL_law_156 rfl (lv_at hl 0 rfl) ?_
              refine lv_iconst (v := nI 4) E.1.1 E.1.2.1 dL_law_157 rfl ?_
              refine k_add E dL_law_158 ?_
              refine va_sld E.1.1 E.1.2.1 hX hbl hbA hw.2.2.1 (vp_in_nI (show (5 * q) + 4 < LN by omega) (by omega)) dL_law_159 ?_
              refine k_top E (a4) (by rw [nI_clamp (by omega)]; exact ha4.symm) ?_
              refine k_mi hw (va_runV (As := [.int a1, .int a2, .int a3, .int a4]) (rest := []) E.1 (p_putx l D cy Lw f H.size M A base SS kp kb KS hAd hN a1 a2 a3 a4 hk2) ⟨callB_of 4 E.1.2.2.2.2 (gd_own w2_14) rfl rfl rfl (E.1.2.2.2.2 _ w1_1) (E.1.2.2.2.2 _ w2_11) hd_X5_put (by rw [hR]; exact ⟨Nat.le_of_ble_eq_true rfl, Nat.le_of_ble_eq_true rfl⟩), E.1.2.2.2.2 _ w2_12, E.1.2.2.2.2 _ w2_13⟩ (pw_preV (q := (RX5, TX5, 5)) E.2 hw h_nm rfl) rfl rfl hl.1 rfl (lv_room (Nat.le_of_ble_eq_true rfl)) dL_law_160 ⟨by rw [hR]; dsimp only; omega, by rw [hR]; dsimp only; omega⟩) (fun r Lx f H locs hp hw => ?_)
              refine W.cs (cells' := 25 + 4 * q + 4) (slots' := 5867 + 331 * q + 331) rfl rfl ?_
              obtain ⟨hLn, hfr, SS2, hN2, hsp⟩ := hp
              dsimp only at hLn hfr hN2 hsp
              obtain ⟨r1, hr1⟩ : ∃ X, X = r := ⟨_, rfl⟩
              rw [← hr1] at hsp
              refine k_top E r1 hr1.symm ?_
              have hMo := hMo.keep hLn (fun i hi => hfr _ (hAd.2.2 _ (hZM i hi)) (fun j hj h => hAZ j i hj hi h.symm))
              have hAd := hAd.grow hLn
              have h_nm := hN2.2.1
              obtain ⟨vs, h_mo⟩ := hMo.obj
              refine lv_aload_n E.1.1 E.1.2.1 dL_law_163 rfl (lv_at hl 2 rfl) ?_
              refine lv_aload_n E.1.1 E.1.2.1 dL_law_164 rfl (lv_at hl 3 rfl) ?_
              refine lv_iload_n E.1.1 E.1.2.1 dL_law_165 rfl (lv_at hl 0 rfl) ?_
              refine lv_iconst (v := nI 1) E.1.1 E.1.2.1 dL_law_166 rfl ?_
              refine k_add E dL_law_167 ?_
              refine va_sld E.1.1 E.1.2.1 hX hbl hbA hw.2.2.1 (vp_in_nI (show (5 * q) + 1 < LN by omega) (by omega)) dL_law_168 ?_
              refine k_top E (a1) (by rw [nI_clamp (by omega)]; exact ha1.symm) ?_
              refine lv_aload_n E.1.1 E.1.2.1 dL_law_169 rfl (lv_at hl 3 rfl) ?_
              refine lv_iload_n E.1.1 E.1.2.1 dL_law_170 rfl (lv_at hl 0 rfl) ?_
              refine lv_iconst (v := nI 2) E.1.1 E.1.2.1 dL_law_171 rfl ?_
              refine k_add E dL_law_172 ?_
              refine va_sld E.1.1 E.1.2.1 hX hbl hbA hw.2.2.1 (vp_in_nI (show (5 * q) + 2 < LN by omega) (by omega)) dL_law_173 ?_
              refine k_top E (a2) (by rw [nI_clamp (by omega)]; exact ha2.symm) ?_
              refine lv_aload_n E.1.1 E.1.2.1 dL_law_174 rfl (lv_at hl 3 rfl) ?_
              refine lv_iload_n E.1.1 E.1.2.1 dL_law_175 rfl (lv_at hl 0 rfl) ?_
              refine lv_iconst (v := nI 3) E.1.1 E.1.2.1 dL_law_176 rfl ?_
              refine k_add E dL_law_177 ?_
              refine va_sld E.1.1 E.1.2.1 hX hbl hbA hw.2.2.1 (vp_in_nI (show (5 * q) + 3 < LN by omega) (by omega)) dL_law_178 ?_
              refine k_top E (a3) (by rw [nI_clamp (by omega)]; exact ha3.symm) ?_
              refine lv_aload_n E.1.1 E.1.2.1 dL_law_179 rfl (lv_at hl 3 rfl) ?_
              refine lv_iload_n E.1.1 E.1.2.1 dL_law_180 rfl (lv_at hl 0 rfl) ?_
              refine lv_iconst (v := nI 4) E.1.1 E.1.2.1 dL_law_181 rfl ?_
              refine k_add E dL_law_182 ?_
              refine va_sld E.1.1 E.1.2.1 hX hbl hbA hw.2.2.1 (vp_in_nI (show (5 * q) + 4 < LN by omega) (by omega)) dL_law_183 ?_
              refine k_top E (a4) (by rw [nI_clamp (by omega)]; exact ha4.symm) ?_
              refine k_mi hw (va_runV (As := [.int a1, .int a2, .int a3, .int a4]) (rest := [.int r1]) E.1 (m_putx l D cy Lx f H.size Z base SS kp kb KS hZA hMo a1 a2 a3 a4 hk2) ⟨callB_of 4 E.1.2.2.2.2 (gd_own w3_37) rfl rfl rfl (E.1.2.2.2.2 _ w1_10) (E.1.2.2.2.2 _ w3_34) hd_X6_put (by rw [hR]; exact ⟨Nat.le_of_ble_eq_true rfl, Nat.le_of_ble_eq_true rfl⟩), E.1.2.2.2.2 _ w3_35, E.1.2.2.2.2 _ w3_36⟩ (pw_preV (q := (RX6, TX6, 12)) E.2 hw h_mo rfl) rfl rfl hl.1 rfl (lv_room (Nat.le_of_ble_eq_true rfl)) dL_law_184 ⟨by rw [hR]; dsimp only; omega, by rw [hR]; dsimp only; omega⟩) (fun r L1 f H locs hp hw => ?_)
              obtain ⟨hL2, hfr2, SS3, hMo2, hsp2⟩ := hp
              dsimp only at hL2 hfr2 hMo2 hsp2
              subst hL2
              have hN2 := hN2.keep2 (fun _ h => h) (fun i hi => hfr2 _ (hAd.2.2 _ (hAd.1 i hi)) (fun j hj h => hAZ i j hi hj h)) (fun z hz hn => hfr2 z hz (fun j hj h => hn (h ▸ hZM j hj)))
              have hu := sp_put_uni (by omega) hsp hsp2
              obtain ⟨hu, rfl⟩ := hu
              refine lv_icmp_eq (tgt := 757) E.1.1 E.1.2.1 dL_law_187 (by decide) (fun c187 => ?_) (fun c187 => absurd hu c187)
              refine lv_iinc (v := nI (5 * q + 5)) (lv' := [(3, .int (nI (5 * q + 5))), (1, .ref (A 0)), (2, .ref (Z 0)), (0, .ref b)]) E.1.1 E.1.2.1 dL_law_757 hl (k := 0) rfl (nI_add (5 * q) 5) (by decide) rfl (fun ls hl => ?_)
              refine lv_goto (tgt := 18) E.1.1 E.1.2.1 dL_law_760 (by decide) ?_
              rw [show 5 * q + 5 = 5 * (q + 1) by omega] at hl
              refine W.widen (k := 25 + 4 * (q + 1)) (n := 5867 + 331 * (q + 1)) (by omega) (by omega) ?_
              exact ih18 (q + 1) Lx f H locs base SS2 kp kb KS ls (by omega) (by omega) ⟨hAd, hZA, hZM, hAZ, hN2, hMo2⟩ hw (lv_sub hl [0, 1, 2, 3] rfl)
            · obtain ⟨k2, hk2b, rfl⟩ := in_ex (by decide) hk2
              rcases (show k2 = 0 ∨ k2 = 1 ∨ k2 = 2 ∨ k2 = 3 ∨ k2 = 4 by omega) with rfl | rfl | rfl | rfl | rfl
              · refine lv_aload_n E.1.1 E.1.2.1 dL_law_139 rfl (lv_at hl 1 rfl) ?_
                refine lv_aload_n E.1.1 E.1.2.1 dL_law_140 rfl (lv_at hl 3 rfl) ?_
                refine lv_iload_n E.1.1 E.1.2.1 dL_law_141 rfl (lv_at hl 0 rfl) ?_
                refine lv_iconst (v := nI 1) E.1.1 E.1.2.1 dL_law_142 rfl ?_
                refine k_add E dL_law_143 ?_
                refine va_sld E.1.1 E.1.2.1 hX hbl hbA hw.2.2.1 (vp_in_nI (show (5 * q) + 1 < LN by omega) (by omega)) dL_law_144 ?_
                refine k_top E (a1) (by rw [nI_clamp (by omega)]; exact ha1.symm) ?_
                refine lv_aload_n E.1.1 E.1.2.1 dL_law_145 rfl (lv_at hl 3 rfl) ?_
                refine lv_iload_n E.1.1 E.1.2.1 dL_law_146 rfl (lv_at hl 0 rfl) ?_
                refine lv_iconst (v := nI 2) E.1.1 E.1.2.1 dL_law_147 rfl ?_
                refine k_add E dL_law_148 ?_
                refine va_sld E.1.1 E.1.2.1 hX hbl hbA hw.2.2.1 (vp_in_nI (show (5 * q) + 2 < LN by omega) (by omega)) dL_law_149 ?_
                refine k_top E (nI 0) (by rw [nI_clamp (by omega)]; exact ha2.symm) ?_
                refine lv_aload_n E.1.1 E.1.2.1 dL_law_150 rfl (lv_at hl 3 rfl) ?_
                refine lv_iload_n E.1.1 E.1.2.1 dL_law_151 rfl (lv_at hl 0 rfl) ?_
                refine lv_iconst (v := nI 3) E.1.1 E.1.2.1 dL_law_152 rfl ?_
                refine k_add E dL_law_153 ?_
                refine va_sld E.1.1 E.1.2.1 hX hbl hbA hw.2.2.1 (vp_in_nI (show (5 * q) + 3 < LN by omega) (by omega)) dL_law_154 ?_
                refine k_top E (a3) (by rw [nI_clamp (by omega)]; exact ha3.symm) ?_
                refine lv_aload_n E.1.1 E.1.2.1 dL_law_155 rfl (lv_at hl 3 rfl) ?_
                refine lv_iload_n E.1.1 E.1.2.1 dL_law_156 rfl (lv_at hl 0 rfl) ?_
                refine lv_iconst (v := nI 4) E.1.1 E.1.2.1 dL_law_157 rfl ?_
                refine k_add E dL_law_158 ?_
                refine va_sld E.1.1 E.1.2.1 hX hbl hbA hw.2.2.1 (vp_in_nI (show (5 * q) + 4 < LN by omega) (by omega)) dL_law_159 ?_
                refine k_top E (a4) (by rw [nI_clamp (by omega)]; exact ha4.symm) ?_
                refine k_mi hw (va_runV (As := [.int a1, .int (nI 0), .int a3, .int a4]) (rest := []) E.1 (p_put0 l D cy Lw f H.size M A base SS kp kb KS hAd hN a1 a3 a4) ⟨callB_of 4 E.1.2.2.2.2 (gd_own w2_14) rfl rfl rfl (E.1.2.2.2.2 _ w1_1) (E.1.2.2.2.2 _ w2_11) hd_X5_put (by rw [hR]; exact ⟨Nat.le_of_ble_eq_true rfl, Nat.le_of_ble_eq_true rfl⟩), E.1.2.2.2.2 _ w2_12, E.1.2.2.2.2 _ w2_13⟩ (pw_preV (q := (RX5, TX5, 5)) E.2 hw h_nm rfl) rfl rfl hl.1 rfl (lv_room (Nat.le_of_ble_eq_true rfl)) dL_law_160 ⟨by rw [hR]; dsimp only; omega, by rw [hR]; dsimp only; omega⟩) (fun r Lx f H locs hp hw => ?_)
                refine W.cs (cells' := 25 + 4 * q + 4) (slots' := 5867 + 331 * q + 331) rfl rfl ?_
                obtain ⟨hLn, hfr, SS2, hN2, hsp⟩ := hp
                dsimp only at hLn hfr hN2 hsp
                obtain ⟨r1, hr1⟩ : ∃ X, X = r := ⟨_, rfl⟩
                rw [← hr1] at hsp
                refine k_top E r1 hr1.symm ?_
                have hMo := hMo.keep hLn (fun i hi => hfr _ (hAd.2.2 _ (hZM i hi)) (fun j hj h => hAZ j i hj hi h.symm))
                have hAd := hAd.grow hLn
                have h_nm := hN2.2.1
                obtain ⟨vs, h_mo⟩ := hMo.obj
                refine lv_aload_n E.1.1 E.1.2.1 dL_law_163 rfl (lv_at hl 2 rfl) ?_
                refine lv_aload_n E.1.1 E.1.2.1 dL_law_164 rfl (lv_at hl 3 rfl) ?_
                refine lv_iload_n E.1.1 E.1.2.1 dL_law_165 rfl (lv_at hl 0 rfl) ?_
                refine lv_iconst (v := nI 1) E.1.1 E.1.2.1 dL_law_166 rfl ?_
                refine k_add E dL_law_167 ?_
                refine va_sld E.1.1 E.1.2.1 hX hbl hbA hw.2.2.1 (vp_in_nI (show (5 * q) + 1 < LN by omega) (by omega)) dL_law_168 ?_
                refine k_top E (a1) (by rw [nI_clamp (by omega)]; exact ha1.symm) ?_
                refine lv_aload_n E.1.1 E.1.2.1 dL_law_169 rfl (lv_at hl 3 rfl) ?_
                refine lv_iload_n E.1.1 E.1.2.1 dL_law_170 rfl (lv_at hl 0 rfl) ?_
                refine lv_iconst (v := nI 2) E.1.1 E.1.2.1 dL_law_171 rfl ?_
                refine k_add E dL_law_172 ?_
                refine va_sld E.1.1 E.1.2.1 hX hbl hbA hw.2.2.1 (vp_in_nI (show (5 * q) + 2 < LN by omega) (by omega)) dL_law_173 ?_
                refine k_top E (nI 0) (by rw [nI_clamp (by omega)]; exact ha2.symm) ?_
                refine lv_aload_n E.1.1 E.1.2.1 dL_law_174 rfl (lv_at hl 3 rfl) ?_
                refine lv_iload_n E.1.1 E.1.2.1 dL_law_175 rfl (lv_at hl 0 rfl) ?_
                refine lv_iconst (v := nI 3) E.1.1 E.1.2.1 dL_law_176 rfl ?_
                refine k_add E dL_law_177 ?_
                refine va_sld E.1.1 E.1.2.1 hX hbl hbA hw.2.2.1 (vp_in_nI (show (5 * q) + 3 < LN by omega) (by omega)) dL_law_178 ?_
                refine k_top E (a3) (by rw [nI_clamp (by omega)]; exact ha3.symm) ?_
                refine lv_aload_n E.1.1 E.1.2.1 dL_law_179 rfl (lv_at hl 3 rfl) ?_
                refine lv_iload_n E.1.1 E.1.2.1 dL_law_180 rfl (lv_at hl 0 rfl) ?_
                refine lv_iconst (v := nI 4) E.1.1 E.1.2.1 dL_law_181 rfl ?_
                refine k_add E dL_law_182 ?_
                refine va_sld E.1.1 E.1.2.1 hX hbl hbA hw.2.2.1 (vp_in_nI (show (5 * q) + 4 < LN by omega) (by omega)) dL_law_183 ?_
                refine k_top E (a4) (by rw [nI_clamp (by omega)]; exact ha4.symm) ?_
                refine k_mi hw (va_runV (As := [.int a1, .int (nI 0), .int a3, .int a4]) (rest := [.int r1]) E.1 (m_put0 l D cy Lx f H.size Z base SS kp kb KS hZA hMo a1 a3 a4) ⟨callB_of 4 E.1.2.2.2.2 (gd_own w3_37) rfl rfl rfl (E.1.2.2.2.2 _ w1_10) (E.1.2.2.2.2 _ w3_34) hd_X6_put (by rw [hR]; exact ⟨Nat.le_of_ble_eq_true rfl, Nat.le_of_ble_eq_true rfl⟩), E.1.2.2.2.2 _ w3_35, E.1.2.2.2.2 _ w3_36⟩ (pw_preV (q := (RX6, TX6, 12)) E.2 hw h_mo rfl) rfl rfl hl.1 rfl (lv_room (Nat.le_of_ble_eq_true rfl)) dL_law_184 ⟨by rw [hR]; dsimp only; omega, by rw [hR]; dsimp only; omega⟩) (fun r L1 f H locs hp hw => ?_)
                obtain ⟨hL2, hfr2, SS3, hMo2, hsp2⟩ := hp
                dsimp only at hL2 hfr2 hMo2 hsp2
                subst hL2
                have hN2 := hN2.keep2 (fun _ h => h) (fun i hi => hfr2 _ (hAd.2.2 _ (hAd.1 i hi)) (fun j hj h => hAZ i j hi hj h)) (fun z hz hn => hfr2 z hz (fun j hj h => hn (h ▸ hZM j hj)))
                have hu := sp_put_uni (by omega) hsp hsp2
                obtain ⟨hu, rfl⟩ := hu
                refine lv_icmp_eq (tgt := 757) E.1.1 E.1.2.1 dL_law_187 (by decide) (fun c187 => ?_) (fun c187 => absurd hu c187)
                refine lv_iinc (v := nI (5 * q + 5)) (lv' := [(3, .int (nI (5 * q + 5))), (1, .ref (A 0)), (2, .ref (Z 0)), (0, .ref b)]) E.1.1 E.1.2.1 dL_law_757 hl (k := 0) rfl (nI_add (5 * q) 5) (by decide) rfl (fun ls hl => ?_)
                refine lv_goto (tgt := 18) E.1.1 E.1.2.1 dL_law_760 (by decide) ?_
                rw [show 5 * q + 5 = 5 * (q + 1) by omega] at hl
                refine W.widen (k := 25 + 4 * (q + 1)) (n := 5867 + 331 * (q + 1)) (by omega) (by omega) ?_
                exact ih18 (q + 1) Lx f H locs base SS2 kp kb KS ls (by omega) (by omega) ⟨hAd, hZA, hZM, hAZ, hN2, hMo2⟩ hw (lv_sub hl [0, 1, 2, 3] rfl)
              · refine lv_aload_n E.1.1 E.1.2.1 dL_law_139 rfl (lv_at hl 1 rfl) ?_
                refine lv_aload_n E.1.1 E.1.2.1 dL_law_140 rfl (lv_at hl 3 rfl) ?_
                refine lv_iload_n E.1.1 E.1.2.1 dL_law_141 rfl (lv_at hl 0 rfl) ?_
                refine lv_iconst (v := nI 1) E.1.1 E.1.2.1 dL_law_142 rfl ?_
                refine k_add E dL_law_143 ?_
                refine va_sld E.1.1 E.1.2.1 hX hbl hbA hw.2.2.1 (vp_in_nI (show (5 * q) + 1 < LN by omega) (by omega)) dL_law_144 ?_
                refine k_top E (a1) (by rw [nI_clamp (by omega)]; exact ha1.symm) ?_
                refine lv_aload_n E.1.1 E.1.2.1 dL_law_145 rfl (lv_at hl 3 rfl) ?_
                refine lv_iload_n E.1.1 E.1.2.1 dL_law_146 rfl (lv_at hl 0 rfl) ?_
                refine lv_iconst (v := nI 2) E.1.1 E.1.2.1 dL_law_147 rfl ?_
                refine k_add E dL_law_148 ?_
                refine va_sld E.1.1 E.1.2.1 hX hbl hbA hw.2.2.1 (vp_in_nI (show (5 * q) + 2 < LN by omega) (by omega)) dL_law_149 ?_
                refine k_top E (nI 1) (by rw [nI_clamp (by omega)]; exact ha2.symm) ?_
                refine lv_aload_n E.1.1 E.1.2.1 dL_law_150 rfl (lv_at hl 3 rfl) ?_
                refine lv_iload_n E.1.1 E.1.2.1 dL_law_151 rfl (lv_at hl 0 rfl) ?_
                refine lv_iconst (v := nI 3) E.1.1 E.1.2.1 dL_law_152 rfl ?_
                refine k_add E dL_law_153 ?_
                refine va_sld E.1.1 E.1.2.1 hX hbl hbA hw.2.2.1 (vp_in_nI (show (5 * q) + 3 < LN by omega) (by omega)) dL_law_154 ?_
                refine k_top E (a3) (by rw [nI_clamp (by omega)]; exact ha3.symm) ?_
                refine lv_aload_n E.1.1 E.1.2.1 dL_law_155 rfl (lv_at hl 3 rfl) ?_
                refine lv_iload_n E.1.1 E.1.2.1 dL_law_156 rfl (lv_at hl 0 rfl) ?_
                refine lv_iconst (v := nI 4) E.1.1 E.1.2.1 dL_law_157 rfl ?_
                refine k_add E dL_law_158 ?_
                refine va_sld E.1.1 E.1.2.1 hX hbl hbA hw.2.2.1 (vp_in_nI (show (5 * q) + 4 < LN by omega) (by omega)) dL_law_159 ?_
                refine k_top E (a4) (by rw [nI_clamp (by omega)]; exact ha4.symm) ?_
                refine k_mi hw (va_runV (As := [.int a1, .int (nI 1), .int a3, .int a4]) (rest := []) E.1 (p_put1 l D cy Lw f H.size M A base SS kp kb KS hAd hN a1 a3 a4) ⟨callB_of 4 E.1.2.2.2.2 (gd_own w2_14) rfl rfl rfl (E.1.2.2.2.2 _ w1_1) (E.1.2.2.2.2 _ w2_11) hd_X5_put (by rw [hR]; exact ⟨Nat.le_of_ble_eq_true rfl, Nat.le_of_ble_eq_true rfl⟩), E.1.2.2.2.2 _ w2_12, E.1.2.2.2.2 _ w2_13⟩ (pw_preV (q := (RX5, TX5, 5)) E.2 hw h_nm rfl) rfl rfl hl.1 rfl (lv_room (Nat.le_of_ble_eq_true rfl)) dL_law_160 ⟨by rw [hR]; dsimp only; omega, by rw [hR]; dsimp only; omega⟩) (fun r Lx f H locs hp hw => ?_)
                refine W.cs (cells' := 25 + 4 * q + 4) (slots' := 5867 + 331 * q + 331) rfl rfl ?_
                obtain ⟨hLn, hfr, SS2, hN2, hsp⟩ := hp
                dsimp only at hLn hfr hN2 hsp
                obtain ⟨r1, hr1⟩ : ∃ X, X = r := ⟨_, rfl⟩
                rw [← hr1] at hsp
                refine k_top E r1 hr1.symm ?_
                have hMo := hMo.keep hLn (fun i hi => hfr _ (hAd.2.2 _ (hZM i hi)) (fun j hj h => hAZ j i hj hi h.symm))
                have hAd := hAd.grow hLn
                have h_nm := hN2.2.1
                obtain ⟨vs, h_mo⟩ := hMo.obj
                refine lv_aload_n E.1.1 E.1.2.1 dL_law_163 rfl (lv_at hl 2 rfl) ?_
                refine lv_aload_n E.1.1 E.1.2.1 dL_law_164 rfl (lv_at hl 3 rfl) ?_
                refine lv_iload_n E.1.1 E.1.2.1 dL_law_165 rfl (lv_at hl 0 rfl) ?_
                refine lv_iconst (v := nI 1) E.1.1 E.1.2.1 dL_law_166 rfl ?_
                refine k_add E dL_law_167 ?_
                refine va_sld E.1.1 E.1.2.1 hX hbl hbA hw.2.2.1 (vp_in_nI (show (5 * q) + 1 < LN by omega) (by omega)) dL_law_168 ?_
                refine k_top E (a1) (by rw [nI_clamp (by omega)]; exact ha1.symm) ?_
                refine lv_aload_n E.1.1 E.1.2.1 dL_law_169 rfl (lv_at hl 3 rfl) ?_
                refine lv_iload_n E.1.1 E.1.2.1 dL_law_170 rfl (lv_at hl 0 rfl) ?_
                refine lv_iconst (v := nI 2) E.1.1 E.1.2.1 dL_law_171 rfl ?_
                refine k_add E dL_law_172 ?_
                refine va_sld E.1.1 E.1.2.1 hX hbl hbA hw.2.2.1 (vp_in_nI (show (5 * q) + 2 < LN by omega) (by omega)) dL_law_173 ?_
                refine k_top E (nI 1) (by rw [nI_clamp (by omega)]; exact ha2.symm) ?_
                refine lv_aload_n E.1.1 E.1.2.1 dL_law_174 rfl (lv_at hl 3 rfl) ?_
                refine lv_iload_n E.1.1 E.1.2.1 dL_law_175 rfl (lv_at hl 0 rfl) ?_
                refine lv_iconst (v := nI 3) E.1.1 E.1.2.1 dL_law_176 rfl ?_
                refine k_add E dL_law_177 ?_
                refine va_sld E.1.1 E.1.2.1 hX hbl hbA hw.2.2.1 (vp_in_nI (show (5 * q) + 3 < LN by omega) (by omega)) dL_law_178 ?_
                refine k_top E (a3) (by rw [nI_clamp (by omega)]; exact ha3.symm) ?_
                refine lv_aload_n E.1.1 E.1.2.1 dL_law_179 rfl (lv_at hl 3 rfl) ?_
                refine lv_iload_n E.1.1 E.1.2.1 dL_law_180 rfl (lv_at hl 0 rfl) ?_
                refine lv_iconst (v := nI 4) E.1.1 E.1.2.1 dL_law_181 rfl ?_
                refine k_add E dL_law_182 ?_
                refine va_sld E.1.1 E.1.2.1 hX hbl hbA hw.2.2.1 (vp_in_nI (show (5 * q) + 4 < LN by omega) (by omega)) dL_law_183 ?_
                refine k_top E (a4) (by rw [nI_clamp (by omega)]; exact ha4.symm) ?_
                refine k_mi hw (va_runV (As := [.int a1, .int (nI 1), .int a3, .int a4]) (rest := [.int r1]) E.1 (m_put1 l D cy Lx f H.size Z base SS kp kb KS hZA hMo a1 a3 a4) ⟨callB_of 4 E.1.2.2.2.2 (gd_own w3_37) rfl rfl rfl (E.1.2.2.2.2 _ w1_10) (E.1.2.2.2.2 _ w3_34) hd_X6_put (by rw [hR]; exact ⟨Nat.le_of_ble_eq_true rfl, Nat.le_of_ble_eq_true rfl⟩), E.1.2.2.2.2 _ w3_35, E.1.2.2.2.2 _ w3_36⟩ (pw_preV (q := (RX6, TX6, 12)) E.2 hw h_mo rfl) rfl rfl hl.1 rfl (lv_room (Nat.le_of_ble_eq_true rfl)) dL_law_184 ⟨by rw [hR]; dsimp only; omega, by rw [hR]; dsimp only; omega⟩) (fun r L1 f H locs hp hw => ?_)
                obtain ⟨hL2, hfr2, SS3, hMo2, hsp2⟩ := hp
                dsimp only at hL2 hfr2 hMo2 hsp2
                subst hL2
                have hN2 := hN2.keep2 (fun _ h => h) (fun i hi => hfr2 _ (hAd.2.2 _ (hAd.1 i hi)) (fun j hj h => hAZ i j hi hj h)) (fun z hz hn => hfr2 z hz (fun j hj h => hn (h ▸ hZM j hj)))
                have hu := sp_put_uni (by omega) hsp hsp2
                obtain ⟨hu, rfl⟩ := hu
                refine lv_icmp_eq (tgt := 757) E.1.1 E.1.2.1 dL_law_187 (by decide) (fun c187 => ?_) (fun c187 => absurd hu c187)
                refine lv_iinc (v := nI (5 * q + 5)) (lv' := [(3, .int (nI (5 * q + 5))), (1, .ref (A 0)), (2, .ref (Z 0)), (0, .ref b)]) E.1.1 E.1.2.1 dL_law_757 hl (k := 0) rfl (nI_add (5 * q) 5) (by decide) rfl (fun ls hl => ?_)
                refine lv_goto (tgt := 18) E.1.1 E.1.2.1 dL_law_760 (by decide) ?_
                rw [show 5 * q + 5 = 5 * (q + 1) by omega] at hl
                refine W.widen (k := 25 + 4 * (q + 1)) (n := 5867 + 331 * (q + 1)) (by omega) (by omega) ?_
                exact ih18 (q + 1) Lx f H locs base SS2 kp kb KS ls (by omega) (by omega) ⟨hAd, hZA, hZM, hAZ, hN2, hMo2⟩ hw (lv_sub hl [0, 1, 2, 3] rfl)
              · refine lv_aload_n E.1.1 E.1.2.1 dL_law_139 rfl (lv_at hl 1 rfl) ?_
                refine lv_aload_n E.1.1 E.1.2.1 dL_law_140 rfl (lv_at hl 3 rfl) ?_
                refine lv_iload_n E.1.1 E.1.2.1 dL_law_141 rfl (lv_at hl 0 rfl) ?_
                refine lv_iconst (v := nI 1) E.1.1 E.1.2.1 dL_law_142 rfl ?_
                refine k_add E dL_law_143 ?_
                refine va_sld E.1.1 E.1.2.1 hX hbl hbA hw.2.2.1 (vp_in_nI (show (5 * q) + 1 < LN by omega) (by omega)) dL_law_144 ?_
                refine k_top E (a1) (by rw [nI_clamp (by omega)]; exact ha1.symm) ?_
                refine lv_aload_n E.1.1 E.1.2.1 dL_law_145 rfl (lv_at hl 3 rfl) ?_
                refine lv_iload_n E.1.1 E.1.2.1 dL_law_146 rfl (lv_at hl 0 rfl) ?_
                refine lv_iconst (v := nI 2) E.1.1 E.1.2.1 dL_law_147 rfl ?_
                refine k_add E dL_law_148 ?_
                refine va_sld E.1.1 E.1.2.1 hX hbl hbA hw.2.2.1 (vp_in_nI (show (5 * q) + 2 < LN by omega) (by omega)) dL_law_149 ?_
                refine k_top E (nI 2) (by rw [nI_clamp (by omega)]; exact ha2.symm) ?_
                refine lv_aload_n E.1.1 E.1.2.1 dL_law_150 rfl (lv_at hl 3 rfl) ?_
                refine lv_iload_n E.1.1 E.1.2.1 dL_law_151 rfl (lv_at hl 0 rfl) ?_
                refine lv_iconst (v := nI 3) E.1.1 E.1.2.1 dL_law_152 rfl ?_
                refine k_add E dL_law_153 ?_
                refine va_sld E.1.1 E.1.2.1 hX hbl hbA hw.2.2.1 (vp_in_nI (show (5 * q) + 3 < LN by omega) (by omega)) dL_law_154 ?_
                refine k_top E (a3) (by rw [nI_clamp (by omega)]; exact ha3.symm) ?_
                refine lv_aload_n E.1.1 E.1.2.1 dL_law_155 rfl (lv_at hl 3 rfl) ?_
                refine lv_iload_n E.1.1 E.1.2.1 dL_law_156 rfl (lv_at hl 0 rfl) ?_
                refine lv_iconst (v := nI 4) E.1.1 E.1.2.1 dL_law_157 rfl ?_
                refine k_add E dL_law_158 ?_
                refine va_sld E.1.1 E.1.2.1 hX hbl hbA hw.2.2.1 (vp_in_nI (show (5 * q) + 4 < LN by omega) (by omega)) dL_law_159 ?_
                refine k_top E (a4) (by rw [nI_clamp (by omega)]; exact ha4.symm) ?_
                refine k_mi hw (va_runV (As := [.int a1, .int (nI 2), .int a3, .int a4]) (rest := []) E.1 (p_put2 l D cy Lw f H.size M A base SS kp kb KS hAd hN a1 a3 a4) ⟨callB_of 4 E.1.2.2.2.2 (gd_own w2_14) rfl rfl rfl (E.1.2.2.2.2 _ w1_1) (E.1.2.2.2.2 _ w2_11) hd_X5_put (by rw [hR]; exact ⟨Nat.le_of_ble_eq_true rfl, Nat.le_of_ble_eq_true rfl⟩), E.1.2.2.2.2 _ w2_12, E.1.2.2.2.2 _ w2_13⟩ (pw_preV (q := (RX5, TX5, 5)) E.2 hw h_nm rfl) rfl rfl hl.1 rfl (lv_room (Nat.le_of_ble_eq_true rfl)) dL_law_160 ⟨by rw [hR]; dsimp only; omega, by rw [hR]; dsimp only; omega⟩) (fun r Lx f H locs hp hw => ?_)
                refine W.cs (cells' := 25 + 4 * q + 4) (slots' := 5867 + 331 * q + 331) rfl rfl ?_
                obtain ⟨hLn, hfr, SS2, hN2, hsp⟩ := hp
                dsimp only at hLn hfr hN2 hsp
                obtain ⟨r1, hr1⟩ : ∃ X, X = r := ⟨_, rfl⟩
                rw [← hr1] at hsp
                refine k_top E r1 hr1.symm ?_
                have hMo := hMo.keep hLn (fun i hi => hfr _ (hAd.2.2 _ (hZM i hi)) (fun j hj h => hAZ j i hj hi h.symm))
                have hAd := hAd.grow hLn
                have h_nm := hN2.2.1
                obtain ⟨vs, h_mo⟩ := hMo.obj
                refine lv_aload_n E.1.1 E.1.2.1 dL_law_163 rfl (lv_at hl 2 rfl) ?_
                refine lv_aload_n E.1.1 E.1.2.1 dL_law_164 rfl (lv_at hl 3 rfl) ?_
                refine lv_iload_n E.1.1 E.1.2.1 dL_law_165 rfl (lv_at hl 0 rfl) ?_
                refine lv_iconst (v := nI 1) E.1.1 E.1.2.1 dL_law_166 rfl ?_
                refine k_add E dL_law_167 ?_
                refine va_sld E.1.1 E.1.2.1 hX hbl hbA hw.2.2.1 (vp_in_nI (show (5 * q) + 1 < LN by omega) (by omega)) dL_law_168 ?_
                refine k_top E (a1) (by rw [nI_clamp (by omega)]; exact ha1.symm) ?_
                refine lv_aload_n E.1.1 E.1.2.1 dL_law_169 rfl (lv_at hl 3 rfl) ?_
                refine lv_iload_n E.1.1 E.1.2.1 dL_law_170 rfl (lv_at hl 0 rfl) ?_
                refine lv_iconst (v := nI 2) E.1.1 E.1.2.1 dL_law_171 rfl ?_
                refine k_add E dL_law_172 ?_
                refine va_sld E.1.1 E.1.2.1 hX hbl hbA hw.2.2.1 (vp_in_nI (show (5 * q) + 2 < LN by omega) (by omega)) dL_law_173 ?_
                refine k_top E (nI 2) (by rw [nI_clamp (by omega)]; exact ha2.symm) ?_
                refine lv_aload_n E.1.1 E.1.2.1 dL_law_174 rfl (lv_at hl 3 rfl) ?_
                refine lv_iload_n E.1.1 E.1.2.1 dL_law_175 rfl (lv_at hl 0 rfl) ?_
                refine lv_iconst (v := nI 3) E.1.1 E.1.2.1 dL_law_176 rfl ?_
                refine k_add E dL_law_177 ?_
                refine va_sld E.1.1 E.1.2.1 hX hbl hbA hw.2.2.1 (vp_in_nI (show (5 * q) + 3 < LN by omega) (by omega)) dL_law_178 ?_
                refine k_top E (a3) (by rw [nI_clamp (by omega)]; exact ha3.symm) ?_
                refine lv_aload_n E.1.1 E.1.2.1 dL_law_179 rfl (lv_at hl 3 rfl) ?_
                refine lv_iload_n E.1.1 E.1.2.1 dL_law_180 rfl (lv_at hl 0 rfl) ?_
                refine lv_iconst (v := nI 4) E.1.1 E.1.2.1 dL_law_181 rfl ?_
                refine k_add E dL_law_182 ?_
                refine va_sld E.1.1 E.1.2.1 hX hbl hbA hw.2.2.1 (vp_in_nI (show (5 * q) + 4 < LN by omega) (by omega)) dL_law_183 ?_
                refine k_top E (a4) (by rw [nI_clamp (by omega)]; exact ha4.symm) ?_
                refine k_mi hw (va_runV (As := [.int a1, .int (nI 2), .int a3, .int a4]) (rest := [.int r1]) E.1 (m_put2 l D cy Lx f H.size Z base SS kp kb KS hZA hMo a1 a3 a4) ⟨callB_of 4 E.1.2.2.2.2 (gd_own w3_37) rfl rfl rfl (E.1.2.2.2.2 _ w1_10) (E.1.2.2.2.2 _ w3_34) hd_X6_put (by rw [hR]; exact ⟨Nat.le_of_ble_eq_true rfl, Nat.le_of_ble_eq_true rfl⟩), E.1.2.2.2.2 _ w3_35, E.1.2.2.2.2 _ w3_36⟩ (pw_preV (q := (RX6, TX6, 12)) E.2 hw h_mo rfl) rfl rfl hl.1 rfl (lv_room (Nat.le_of_ble_eq_true rfl)) dL_law_184 ⟨by rw [hR]; dsimp only; omega, by rw [hR]; dsimp only; omega⟩) (fun r L1 f H locs hp hw => ?_)
                obtain ⟨hL2, hfr2, SS3, hMo2, hsp2⟩ := hp
                dsimp only at hL2 hfr2 hMo2 hsp2
                subst hL2
                have hN2 := hN2.keep2 (fun _ h => h) (fun i hi => hfr2 _ (hAd.2.2 _ (hAd.1 i hi)) (fun j hj h => hAZ i j hi hj h)) (fun z hz hn => hfr2 z hz (fun j hj h => hn (h ▸ hZM j hj)))
                have hu := sp_put_uni (by omega) hsp hsp2
                obtain ⟨hu, rfl⟩ := hu
                refine lv_icmp_eq (tgt := 757) E.1.1 E.1.2.1 dL_law_187 (by decide) (fun c187 => ?_) (fun c187 => absurd hu c187)
                refine lv_iinc (v := nI (5 * q + 5)) (lv' := [(3, .int (nI (5 * q + 5))), (1, .ref (A 0)), (2, .ref (Z 0)), (0, .ref b)]) E.1.1 E.1.2.1 dL_law_757 hl (k := 0) rfl (nI_add (5 * q) 5) (by decide) rfl (fun ls hl => ?_)
                refine lv_goto (tgt := 18) E.1.1 E.1.2.1 dL_law_760 (by decide) ?_
                rw [show 5 * q + 5 = 5 * (q + 1) by omega] at hl
                refine W.widen (k := 25 + 4 * (q + 1)) (n := 5867 + 331 * (q + 1)) (by omega) (by omega) ?_
                exact ih18 (q + 1) Lx f H locs base SS2 kp kb KS ls (by omega) (by omega) ⟨hAd, hZA, hZM, hAZ, hN2, hMo2⟩ hw (lv_sub hl [0, 1, 2, 3] rfl)
              · refine lv_aload_n E.1.1 E.1.2.1 dL_law_139 rfl (lv_at hl 1 rfl) ?_
                refine lv_aload_n E.1.1 E.1.2.1 dL_law_140 rfl (lv_at hl 3 rfl) ?_
                refine lv_iload_n E.1.1 E.1.2.1 dL_law_141 rfl (lv_at hl 0 rfl) ?_
                refine lv_iconst (v := nI 1) E.1.1 E.1.2.1 dL_law_142 rfl ?_
                refine k_add E dL_law_143 ?_
                refine va_sld E.1.1 E.1.2.1 hX hbl hbA hw.2.2.1 (vp_in_nI (show (5 * q) + 1 < LN by omega) (by omega)) dL_law_144 ?_
                refine k_top E (a1) (by rw [nI_clamp (by omega)]; exact ha1.symm) ?_
                refine lv_aload_n E.1.1 E.1.2.1 dL_law_145 rfl (lv_at hl 3 rfl) ?_
                refine lv_iload_n E.1.1 E.1.2.1 dL_law_146 rfl (lv_at hl 0 rfl) ?_
                refine lv_iconst (v := nI 2) E.1.1 E.1.2.1 dL_law_147 rfl ?_
                refine k_add E dL_law_148 ?_
                refine va_sld E.1.1 E.1.2.1 hX hbl hbA hw.2.2.1 (vp_in_nI (show (5 * q) + 2 < LN by omega) (by omega)) dL_law_149 ?_
                refine k_top E (nI 3) (by rw [nI_clamp (by omega)]; exact ha2.symm) ?_
                refine lv_aload_n E.1.1 E.1.2.1 dL_law_150 rfl (lv_at hl 3 rfl) ?_
                refine lv_iload_n E.1.1 E.1.2.1 dL_law_151 rfl (lv_at hl 0 rfl) ?_
                refine lv_iconst (v := nI 3) E.1.1 E.1.2.1 dL_law_152 rfl ?_
                refine k_add E dL_law_153 ?_
                refine va_sld E.1.1 E.1.2.1 hX hbl hbA hw.2.2.1 (vp_in_nI (show (5 * q) + 3 < LN by omega) (by omega)) dL_law_154 ?_
                refine k_top E (a3) (by rw [nI_clamp (by omega)]; exact ha3.symm) ?_
                refine lv_aload_n E.1.1 E.1.2.1 dL_law_155 rfl (lv_at hl 3 rfl) ?_
                refine lv_iload_n E.1.1 E.1.2.1 dL_law_156 rfl (lv_at hl 0 rfl) ?_
                refine lv_iconst (v := nI 4) E.1.1 E.1.2.1 dL_law_157 rfl ?_
                refine k_add E dL_law_158 ?_
                refine va_sld E.1.1 E.1.2.1 hX hbl hbA hw.2.2.1 (vp_in_nI (show (5 * q) + 4 < LN by omega) (by omega)) dL_law_159 ?_
                refine k_top E (a4) (by rw [nI_clamp (by omega)]; exact ha4.symm) ?_
                refine k_mi hw (va_runV (As := [.int a1, .int (nI 3), .int a3, .int a4]) (rest := []) E.1 (p_put3 l D cy Lw f H.size M A base SS kp kb KS hAd hN a1 a3 a4) ⟨callB_of 4 E.1.2.2.2.2 (gd_own w2_14) rfl rfl rfl (E.1.2.2.2.2 _ w1_1) (E.1.2.2.2.2 _ w2_11) hd_X5_put (by rw [hR]; exact ⟨Nat.le_of_ble_eq_true rfl, Nat.le_of_ble_eq_true rfl⟩), E.1.2.2.2.2 _ w2_12, E.1.2.2.2.2 _ w2_13⟩ (pw_preV (q := (RX5, TX5, 5)) E.2 hw h_nm rfl) rfl rfl hl.1 rfl (lv_room (Nat.le_of_ble_eq_true rfl)) dL_law_160 ⟨by rw [hR]; dsimp only; omega, by rw [hR]; dsimp only; omega⟩) (fun r Lx f H locs hp hw => ?_)
                refine W.cs (cells' := 25 + 4 * q + 4) (slots' := 5867 + 331 * q + 331) rfl rfl ?_
                obtain ⟨hLn, hfr, SS2, hN2, hsp⟩ := hp
                dsimp only at hLn hfr hN2 hsp
                obtain ⟨r1, hr1⟩ : ∃ X, X = r := ⟨_, rfl⟩
                rw [← hr1] at hsp
                refine k_top E r1 hr1.symm ?_
                have hMo := hMo.keep hLn (fun i hi => hfr _ (hAd.2.2 _ (hZM i hi)) (fun j hj h => hAZ j i hj hi h.symm))
                have hAd := hAd.grow hLn
                have h_nm := hN2.2.1
                obtain ⟨vs, h_mo⟩ := hMo.obj
                refine lv_aload_n E.1.1 E.1.2.1 dL_law_163 rfl (lv_at hl 2 rfl) ?_
                refine lv_aload_n E.1.1 E.1.2.1 dL_law_164 rfl (lv_at hl 3 rfl) ?_
                refine lv_iload_n E.1.1 E.1.2.1 dL_law_165 rfl (lv_at hl 0 rfl) ?_
                refine lv_iconst (v := nI 1) E.1.1 E.1.2.1 dL_law_166 rfl ?_
                refine k_add E dL_law_167 ?_
                refine va_sld E.1.1 E.1.2.1 hX hbl hbA hw.2.2.1 (vp_in_nI (show (5 * q) + 1 < LN by omega) (by omega)) dL_law_168 ?_
                refine k_top E (a1) (by rw [nI_clamp (by omega)]; exact ha1.symm) ?_
                refine lv_aload_n E.1.1 E.1.2.1 dL_law_169 rfl (lv_at hl 3 rfl) ?_
                refine lv_iload_n E.1.1 E.1.2.1 dL_law_170 rfl (lv_at hl 0 rfl) ?_
                refine lv_iconst (v := nI 2) E.1.1 E.1.2.1 dL_law_171 rfl ?_
                refine k_add E dL_law_172 ?_
                refine va_sld E.1.1 E.1.2.1 hX hbl hbA hw.2.2.1 (vp_in_nI (show (5 * q) + 2 < LN by omega) (by omega)) dL_law_173 ?_
                refine k_top E (nI 3) (by rw [nI_clamp (by omega)]; exact ha2.symm) ?_
                refine lv_aload_n E.1.1 E.1.2.1 dL_law_174 rfl (lv_at hl 3 rfl) ?_
                refine lv_iload_n E.1.1 E.1.2.1 dL_law_175 rfl (lv_at hl 0 rfl) ?_
                refine lv_iconst (v := nI 3) E.1.1 E.1.2.1 dL_law_176 rfl ?_
                refine k_add E dL_law_177 ?_
                refine va_sld E.1.1 E.1.2.1 hX hbl hbA hw.2.2.1 (vp_in_nI (show (5 * q) + 3 < LN by omega) (by omega)) dL_law_178 ?_
                refine k_top E (a3) (by rw [nI_clamp (by omega)]; exact ha3.symm) ?_
                refine lv_aload_n E.1.1 E.1.2.1 dL_law_179 rfl (lv_at hl 3 rfl) ?_
                refine lv_iload_n E.1.1 E.1.2.1 dL_law_180 rfl (lv_at hl 0 rfl) ?_
                refine lv_iconst (v := nI 4) E.1.1 E.1.2.1 dL_law_181 rfl ?_
                refine k_add E dL_law_182 ?_
                refine va_sld E.1.1 E.1.2.1 hX hbl hbA hw.2.2.1 (vp_in_nI (show (5 * q) + 4 < LN by omega) (by omega)) dL_law_183 ?_
                refine k_top E (a4) (by rw [nI_clamp (by omega)]; exact ha4.symm) ?_
                refine k_mi hw (va_runV (As := [.int a1, .int (nI 3), .int a3, .int a4]) (rest := [.int r1]) E.1 (m_put3 l D cy Lx f H.size Z base SS kp kb KS hZA hMo a1 a3 a4) ⟨callB_of 4 E.1.2.2.2.2 (gd_own w3_37) rfl rfl rfl (E.1.2.2.2.2 _ w1_10) (E.1.2.2.2.2 _ w3_34) hd_X6_put (by rw [hR]; exact ⟨Nat.le_of_ble_eq_true rfl, Nat.le_of_ble_eq_true rfl⟩), E.1.2.2.2.2 _ w3_35, E.1.2.2.2.2 _ w3_36⟩ (pw_preV (q := (RX6, TX6, 12)) E.2 hw h_mo rfl) rfl rfl hl.1 rfl (lv_room (Nat.le_of_ble_eq_true rfl)) dL_law_184 ⟨by rw [hR]; dsimp only; omega, by rw [hR]; dsimp only; omega⟩) (fun r L1 f H locs hp hw => ?_)
                obtain ⟨hL2, hfr2, SS3, hMo2, hsp2⟩ := hp
                dsimp only at hL2 hfr2 hMo2 hsp2
                subst hL2
                have hN2 := hN2.keep2 (fun _ h => h) (fun i hi => hfr2 _ (hAd.2.2 _ (hAd.1 i hi)) (fun j hj h => hAZ i j hi hj h)) (fun z hz hn => hfr2 z hz (fun j hj h => hn (h ▸ hZM j hj)))
                have hu := sp_put_uni (by omega) hsp hsp2
                obtain ⟨hu, rfl⟩ := hu
                refine lv_icmp_eq (tgt := 757) E.1.1 E.1.2.1 dL_law_187 (by decide) (fun c187 => ?_) (fun c187 => absurd hu c187)
                refine lv_iinc (v := nI (5 * q + 5)) (lv' := [(3, .int (nI (5 * q + 5))), (1, .ref (A 0)), (2, .ref (Z 0)), (0, .ref b)]) E.1.1 E.1.2.1 dL_law_757 hl (k := 0) rfl (nI_add (5 * q) 5) (by decide) rfl (fun ls hl => ?_)
                refine lv_goto (tgt := 18) E.1.1 E.1.2.1 dL_law_760 (by decide) ?_
                rw [show 5 * q + 5 = 5 * (q + 1) by omega] at hl
                refine W.widen (k := 25 + 4 * (q + 1)) (n := 5867 + 331 * (q + 1)) (by omega) (by omega) ?_
                exact ih18 (q + 1) Lx f H locs base SS2 kp kb KS ls (by omega) (by omega) ⟨hAd, hZA, hZM, hAZ, hN2, hMo2⟩ hw (lv_sub hl [0, 1, 2, 3] rfl)
              · refine lv_aload_n E.1.1 E.1.2.1 dL_law_139 rfl (lv_at hl 1 rfl) ?_
                refine lv_aload_n E.1.1 E.1.2.1 dL_law_140 rfl (lv_at hl 3 rfl) ?_
                refine lv_iload_n E.1.1 E.1.2.1 dL_law_141 rfl (lv_at hl 0 rfl) ?_
                refine lv_iconst (v := nI 1) E.1.1 E.1.2.1 dL_law_142 rfl ?_
                refine k_add E dL_law_143 ?_
                refine va_sld E.1.1 E.1.2.1 hX hbl hbA hw.2.2.1 (vp_in_nI (show (5 * q) + 1 < LN by omega) (by omega)) dL_law_144 ?_
                refine k_top E (a1) (by rw [nI_clamp (by omega)]; exact ha1.symm) ?_
                refine lv_aload_n E.1.1 E.1.2.1 dL_law_145 rfl (lv_at hl 3 rfl) ?_
                refine lv_iload_n E.1.1 E.1.2.1 dL_law_146 rfl (lv_at hl 0 rfl) ?_
                refine lv_iconst (v := nI 2) E.1.1 E.1.2.1 dL_law_147 rfl ?_
                refine k_add E dL_law_148 ?_
                refine va_sld E.1.1 E.1.2.1 hX hbl hbA hw.2.2.1 (vp_in_nI (show (5 * q) + 2 < LN by omega) (by omega)) dL_law_149 ?_
                refine k_top E (nI 4) (by rw [nI_clamp (by omega)]; exact ha2.symm) ?_
                refine lv_aload_n E.1.1 E.1.2.1 dL_law_150 rfl (lv_at hl 3 rfl) ?_
                refine lv_iload_n E.1.1 E.1.2.1 dL_law_151 rfl (lv_at hl 0 rfl) ?_
                refine lv_iconst (v := nI 3) E.1.1 E.1.2.1 dL_law_152 rfl ?_
                refine k_add E dL_law_153 ?_
                refine va_sld E.1.1 E.1.2.1 hX hbl hbA hw.2.2.1 (vp_in_nI (show (5 * q) + 3 < LN by omega) (by omega)) dL_law_154 ?_
                refine k_top E (a3) (by rw [nI_clamp (by omega)]; exact ha3.symm) ?_
                refine lv_aload_n E.1.1 E.1.2.1 dL_law_155 rfl (lv_at hl 3 rfl) ?_
                refine lv_iload_n E.1.1 E.1.2.1 dL_law_156 rfl (lv_at hl 0 rfl) ?_
                refine lv_iconst (v := nI 4) E.1.1 E.1.2.1 dL_law_157 rfl ?_
                refine k_add E dL_law_158 ?_
                refine va_sld E.1.1 E.1.2.1 hX hbl hbA hw.2.2.1 (vp_in_nI (show (5 * q) + 4 < LN by omega) (by omega)) dL_law_159 ?_
                refine k_top E (a4) (by rw [nI_clamp (by omega)]; exact ha4.symm) ?_
                refine k_mi hw (va_runV (As := [.int a1, .int (nI 4), .int a3, .int a4]) (rest := []) E.1 (p_put4 l D cy Lw f H.size M A base SS kp kb KS hAd hN a1 a3 a4) ⟨callB_of 4 E.1.2.2.2.2 (gd_own w2_14) rfl rfl rfl (E.1.2.2.2.2 _ w1_1) (E.1.2.2.2.2 _ w2_11) hd_X5_put (by rw [hR]; exact ⟨Nat.le_of_ble_eq_true rfl, Nat.le_of_ble_eq_true rfl⟩), E.1.2.2.2.2 _ w2_12, E.1.2.2.2.2 _ w2_13⟩ (pw_preV (q := (RX5, TX5, 5)) E.2 hw h_nm rfl) rfl rfl hl.1 rfl (lv_room (Nat.le_of_ble_eq_true rfl)) dL_law_160 ⟨by rw [hR]; dsimp only; omega, by rw [hR]; dsimp only; omega⟩) (fun r Lx f H locs hp hw => ?_)
                refine W.cs (cells' := 25 + 4 * q + 4) (slots' := 5867 + 331 * q + 331) rfl rfl ?_
                obtain ⟨hLn, hfr, SS2, hN2, hsp⟩ := hp
                dsimp only at hLn hfr hN2 hsp
                obtain ⟨r1, hr1⟩ : ∃ X, X = r := ⟨_, rfl⟩
                rw [← hr1] at hsp
                refine k_top E r1 hr1.symm ?_
                have hMo := hMo.keep hLn (fun i hi => hfr _ (hAd.2.2 _ (hZM i hi)) (fun j hj h => hAZ j i hj hi h.symm))
                have hAd := hAd.grow hLn
                have h_nm := hN2.2.1
                obtain ⟨vs, h_mo⟩ := hMo.obj
                refine lv_aload_n E.1.1 E.1.2.1 dL_law_163 rfl (lv_at hl 2 rfl) ?_
                refine lv_aload_n E.1.1 E.1.2.1 dL_law_164 rfl (lv_at hl 3 rfl) ?_
                refine lv_iload_n E.1.1 E.1.2.1 dL_law_165 rfl (lv_at hl 0 rfl) ?_
                refine lv_iconst (v := nI 1) E.1.1 E.1.2.1 dL_law_166 rfl ?_
                refine k_add E dL_law_167 ?_
                refine va_sld E.1.1 E.1.2.1 hX hbl hbA hw.2.2.1 (vp_in_nI (show (5 * q) + 1 < LN by omega) (by omega)) dL_law_168 ?_
                refine k_top E (a1) (by rw [nI_clamp (by omega)]; exact ha1.symm) ?_
                refine lv_aload_n E.1.1 E.1.2.1 dL_law_169 rfl (lv_at hl 3 rfl) ?_
                refine lv_iload_n E.1.1 E.1.2.1 dL_law_170 rfl (lv_at hl 0 rfl) ?_
                refine lv_iconst (v := nI 2) E.1.1 E.1.2.1 dL_law_171 rfl ?_
                refine k_add E dL_law_172 ?_
                refine va_sld E.1.1 E.1.2.1 hX hbl hbA hw.2.2.1 (vp_in_nI (show (5 * q) + 2 < LN by omega) (by omega)) dL_law_173 ?_
                refine k_top E (nI 4) (by rw [nI_clamp (by omega)]; exact ha2.symm) ?_
                refine lv_aload_n E.1.1 E.1.2.1 dL_law_174 rfl (lv_at hl 3 rfl) ?_
                refine lv_iload_n E.1.1 E.1.2.1 dL_law_175 rfl (lv_at hl 0 rfl) ?_
                refine lv_iconst (v := nI 3) E.1.1 E.1.2.1 dL_law_176 rfl ?_
                refine k_add E dL_law_177 ?_
                refine va_sld E.1.1 E.1.2.1 hX hbl hbA hw.2.2.1 (vp_in_nI (show (5 * q) + 3 < LN by omega) (by omega)) dL_law_178 ?_
                refine k_top E (a3) (by rw [nI_clamp (by omega)]; exact ha3.symm) ?_
                refine lv_aload_n E.1.1 E.1.2.1 dL_law_179 rfl (lv_at hl 3 rfl) ?_
                refine lv_iload_n E.1.1 E.1.2.1 dL_law_180 rfl (lv_at hl 0 rfl) ?_
                refine lv_iconst (v := nI 4) E.1.1 E.1.2.1 dL_law_181 rfl ?_
                refine k_add E dL_law_182 ?_
                refine va_sld E.1.1 E.1.2.1 hX hbl hbA hw.2.2.1 (vp_in_nI (show (5 * q) + 4 < LN by omega) (by omega)) dL_law_183 ?_
                refine k_top E (a4) (by rw [nI_clamp (by omega)]; exact ha4.symm) ?_
                refine k_mi hw (va_runV (As := [.int a1, .int (nI 4), .int a3, .int a4]) (rest := [.int r1]) E.1 (m_put4 l D cy Lx f H.size Z base SS kp kb KS hZA hMo a1 a3 a4) ⟨callB_of 4 E.1.2.2.2.2 (gd_own w3_37) rfl rfl rfl (E.1.2.2.2.2 _ w1_10) (E.1.2.2.2.2 _ w3_34) hd_X6_put (by rw [hR]; exact ⟨Nat.le_of_ble_eq_true rfl, Nat.le_of_ble_eq_true rfl⟩), E.1.2.2.2.2 _ w3_35, E.1.2.2.2.2 _ w3_36⟩ (pw_preV (q := (RX6, TX6, 12)) E.2 hw h_mo rfl) rfl rfl hl.1 rfl (lv_room (Nat.le_of_ble_eq_true rfl)) dL_law_184 ⟨by rw [hR]; dsimp only; omega, by rw [hR]; dsimp only; omega⟩) (fun r L1 f H locs hp hw => ?_)
                obtain ⟨hL2, hfr2, SS3, hMo2, hsp2⟩ := hp
                dsimp only at hL2 hfr2 hMo2 hsp2
                subst hL2
                have hN2 := hN2.keep2 (fun _ h => h) (fun i hi => hfr2 _ (hAd.2.2 _ (hAd.1 i hi)) (fun j hj h => hAZ i j hi hj h)) (fun z hz hn => hfr2 z hz (fun j hj h => hn (h ▸ hZM j hj)))
                have hu := sp_put_uni (by omega) hsp hsp2
                obtain ⟨hu, rfl⟩ := hu
                refine lv_icmp_eq (tgt := 757) E.1.1 E.1.2.1 dL_law_187 (by decide) (fun c187 => ?_) (fun c187 => absurd hu c187)
                refine lv_iinc (v := nI (5 * q + 5)) (lv' := [(3, .int (nI (5 * q + 5))), (1, .ref (A 0)), (2, .ref (Z 0)), (0, .ref b)]) E.1.1 E.1.2.1 dL_law_757 hl (k := 0) rfl (nI_add (5 * q) 5) (by decide) rfl (fun ls hl => ?_)
                refine lv_goto (tgt := 18) E.1.1 E.1.2.1 dL_law_760 (by decide) ?_
                rw [show 5 * q + 5 = 5 * (q + 1) by omega] at hl
                refine W.widen (k := 25 + 4 * (q + 1)) (n := 5867 + 331 * (q + 1)) (by omega) (by omega) ?_
                exact ih18 (q + 1) Lx f H locs base SS2 kp kb KS ls (by omega) (by omega) ⟨hAd, hZA, hZM, hAZ, hN2, hMo2⟩ hw (lv_sub hl [0, 1, 2, 3] rfl)
          · refine lv_tableIn (tgt := 192) E.1.1 E.1.2.1 dL_law_32 (by decide) (by decide) (off := 160) (by decide) (by decide) ?_
            refine lv_aload_n E.1.1 E.1.2.1 dL_law_192 rfl (lv_at hl 1 rfl) ?_
            refine lv_aload_n E.1.1 E.1.2.1 dL_law_193 rfl (lv_at hl 3 rfl) ?_
            refine lv_iload_n E.1.1 E.1.2.1 dL_law_194 rfl (lv_at hl 0 rfl) ?_
            refine lv_iconst (v := nI 1) E.1.1 E.1.2.1 dL_law_195 rfl ?_
            refine k_add E dL_law_196 ?_
            refine va_sld E.1.1 E.1.2.1 hX hbl hbA hw.2.2.1 (vp_in_nI (show (5 * q) + 1 < LN by omega) (by omega)) dL_law_197 ?_
            refine k_top E (a1) (by rw [nI_clamp (by omega)]; exact ha1.symm) ?_
            refine lv_aload_n E.1.1 E.1.2.1 dL_law_198 rfl (lv_at hl 3 rfl) ?_
            refine lv_iload_n E.1.1 E.1.2.1 dL_law_199 rfl (lv_at hl 0 rfl) ?_
            refine lv_iconst (v := nI 2) E.1.1 E.1.2.1 dL_law_200 rfl ?_
            refine k_add E dL_law_201 ?_
            refine va_sld E.1.1 E.1.2.1 hX hbl hbA hw.2.2.1 (vp_in_nI (show (5 * q) + 2 < LN by omega) (by omega)) dL_law_202 ?_
            refine k_top E (a2) (by rw [nI_clamp (by omega)]; exact ha2.symm) ?_
            refine lv_aload_n E.1.1 E.1.2.1 dL_law_203 rfl (lv_at hl 3 rfl) ?_
            refine lv_iload_n E.1.1 E.1.2.1 dL_law_204 rfl (lv_at hl 0 rfl) ?_
            refine lv_iconst (v := nI 3) E.1.1 E.1.2.1 dL_law_205 rfl ?_
            refine k_add E dL_law_206 ?_
            refine va_sld E.1.1 E.1.2.1 hX hbl hbA hw.2.2.1 (vp_in_nI (show (5 * q) + 3 < LN by omega) (by omega)) dL_law_207 ?_
            refine k_top E (a3) (by rw [nI_clamp (by omega)]; exact ha3.symm) ?_
            refine lv_aload_n E.1.1 E.1.2.1 dL_law_208 rfl (lv_at hl 3 rfl) ?_
            refine lv_iload_n E.1.1 E.1.2.1 dL_law_209 rfl (lv_at hl 0 rfl) ?_
            refine lv_iconst (v := nI 4) E.1.1 E.1.2.1 dL_law_210 rfl ?_
            refine k_add E dL_law_211 ?_
            refine va_sld E.1.1 E.1.2.1 hX hbl hbA hw.2.2.1 (vp_in_nI (show (5 * q) + 4 < LN by omega) (by omega)) dL_law_212 ?_
            refine k_top E (a4) (by rw [nI_clamp (by omega)]; exact ha4.symm) ?_
            refine k_mi hw (va_runV (As := [.int a1, .int a2, .int a3, .int a4]) (rest := []) E.1 (p_join l D cy Lw f H.size M A base SS kp kb KS hAd hN a1 a2 a3 a4) ⟨callB_of 4 E.1.2.2.2.2 (gd_own w2_40) rfl rfl rfl (E.1.2.2.2.2 _ w1_1) (E.1.2.2.2.2 _ w2_37) hd_X5_join (by rw [hR]; exact ⟨Nat.le_of_ble_eq_true rfl, Nat.le_of_ble_eq_true rfl⟩), E.1.2.2.2.2 _ w2_38, E.1.2.2.2.2 _ w2_39⟩ (pw_preV (q := (RX5, TX5, 5)) E.2 hw h_nm rfl) rfl rfl hl.1 rfl (lv_room (Nat.le_of_ble_eq_true rfl)) dL_law_213 ⟨by rw [hR]; dsimp only; omega, by rw [hR]; dsimp only; omega⟩) (fun r Lx f H locs hp hw => ?_)
            refine W.cs (cells' := 25 + 4 * q + 4) (slots' := 5867 + 331 * q + 331) rfl rfl ?_
            obtain ⟨hLn, hfr, SS2, hN2, hsp⟩ := hp
            dsimp only at hLn hfr hN2 hsp
            obtain ⟨r1, hr1⟩ : ∃ X, X = r := ⟨_, rfl⟩
            rw [← hr1] at hsp
            refine k_top E r1 hr1.symm ?_
            have hMo := hMo.keep hLn (fun i hi => hfr _ (hAd.2.2 _ (hZM i hi)) (fun j hj h => hAZ j i hj hi h.symm))
            have hAd := hAd.grow hLn
            have h_nm := hN2.2.1
            obtain ⟨vs, h_mo⟩ := hMo.obj
            refine lv_aload_n E.1.1 E.1.2.1 dL_law_216 rfl (lv_at hl 2 rfl) ?_
            refine lv_aload_n E.1.1 E.1.2.1 dL_law_217 rfl (lv_at hl 3 rfl) ?_
            refine lv_iload_n E.1.1 E.1.2.1 dL_law_218 rfl (lv_at hl 0 rfl) ?_
            refine lv_iconst (v := nI 1) E.1.1 E.1.2.1 dL_law_219 rfl ?_
            refine k_add E dL_law_220 ?_
            refine va_sld E.1.1 E.1.2.1 hX hbl hbA hw.2.2.1 (vp_in_nI (show (5 * q) + 1 < LN by omega) (by omega)) dL_law_221 ?_
            refine k_top E (a1) (by rw [nI_clamp (by omega)]; exact ha1.symm) ?_
            refine lv_aload_n E.1.1 E.1.2.1 dL_law_222 rfl (lv_at hl 3 rfl) ?_
            refine lv_iload_n E.1.1 E.1.2.1 dL_law_223 rfl (lv_at hl 0 rfl) ?_
            refine lv_iconst (v := nI 2) E.1.1 E.1.2.1 dL_law_224 rfl ?_
            refine k_add E dL_law_225 ?_
            refine va_sld E.1.1 E.1.2.1 hX hbl hbA hw.2.2.1 (vp_in_nI (show (5 * q) + 2 < LN by omega) (by omega)) dL_law_226 ?_
            refine k_top E (a2) (by rw [nI_clamp (by omega)]; exact ha2.symm) ?_
            refine lv_aload_n E.1.1 E.1.2.1 dL_law_227 rfl (lv_at hl 3 rfl) ?_
            refine lv_iload_n E.1.1 E.1.2.1 dL_law_228 rfl (lv_at hl 0 rfl) ?_
            refine lv_iconst (v := nI 3) E.1.1 E.1.2.1 dL_law_229 rfl ?_
            refine k_add E dL_law_230 ?_
            refine va_sld E.1.1 E.1.2.1 hX hbl hbA hw.2.2.1 (vp_in_nI (show (5 * q) + 3 < LN by omega) (by omega)) dL_law_231 ?_
            refine k_top E (a3) (by rw [nI_clamp (by omega)]; exact ha3.symm) ?_
            refine lv_aload_n E.1.1 E.1.2.1 dL_law_232 rfl (lv_at hl 3 rfl) ?_
            refine lv_iload_n E.1.1 E.1.2.1 dL_law_233 rfl (lv_at hl 0 rfl) ?_
            refine lv_iconst (v := nI 4) E.1.1 E.1.2.1 dL_law_234 rfl ?_
            refine k_add E dL_law_235 ?_
            refine va_sld E.1.1 E.1.2.1 hX hbl hbA hw.2.2.1 (vp_in_nI (show (5 * q) + 4 < LN by omega) (by omega)) dL_law_236 ?_
            refine k_top E (a4) (by rw [nI_clamp (by omega)]; exact ha4.symm) ?_
            refine k_mi hw (va_runV (As := [.int a1, .int a2, .int a3, .int a4]) (rest := [.int r1]) E.1 (m_join l D cy Lx f H.size Z base SS kp kb KS hZA hMo a1 a2 a3 a4) ⟨callB_of 4 E.1.2.2.2.2 (gd_own w3_87) rfl rfl rfl (E.1.2.2.2.2 _ w1_10) (E.1.2.2.2.2 _ w3_84) hd_X6_join (by rw [hR]; exact ⟨Nat.le_of_ble_eq_true rfl, Nat.le_of_ble_eq_true rfl⟩), E.1.2.2.2.2 _ w3_85, E.1.2.2.2.2 _ w3_86⟩ (pw_preV (q := (RX6, TX6, 12)) E.2 hw h_mo rfl) rfl rfl hl.1 rfl (lv_room (Nat.le_of_ble_eq_true rfl)) dL_law_237 ⟨by rw [hR]; dsimp only; omega, by rw [hR]; dsimp only; omega⟩) (fun r L1 f H locs hp hw => ?_)
            obtain ⟨hL2, hfr2, SS3, hMo2, hsp2⟩ := hp
            dsimp only at hL2 hfr2 hMo2 hsp2
            subst hL2
            have hN2 := hN2.keep2 (fun _ h => h) (fun i hi => hfr2 _ (hAd.2.2 _ (hAd.1 i hi)) (fun j hj h => hAZ i j hi hj h)) (fun z hz hn => hfr2 z hz (fun j hj h => hn (h ▸ hZM j hj)))
            have hu := sp_join_uni (by omega) hsp hsp2
            obtain ⟨hu, rfl⟩ := hu
            refine lv_icmp_eq (tgt := 757) E.1.1 E.1.2.1 dL_law_240 (by decide) (fun c240 => ?_) (fun c240 => absurd hu c240)
            refine lv_iinc (v := nI (5 * q + 5)) (lv' := [(3, .int (nI (5 * q + 5))), (1, .ref (A 0)), (2, .ref (Z 0)), (0, .ref b)]) E.1.1 E.1.2.1 dL_law_757 hl (k := 0) rfl (nI_add (5 * q) 5) (by decide) rfl (fun ls hl => ?_)
            refine lv_goto (tgt := 18) E.1.1 E.1.2.1 dL_law_760 (by decide) ?_
            rw [show 5 * q + 5 = 5 * (q + 1) by omega] at hl
            refine W.widen (k := 25 + 4 * (q + 1)) (n := 5867 + 331 * (q + 1)) (by omega) (by omega) ?_
            exact ih18 (q + 1) Lx f H locs base SS2 kp kb KS ls (by omega) (by omega) ⟨hAd, hZA, hZM, hAZ, hN2, hMo2⟩ hw (lv_sub hl [0, 1, 2, 3] rfl)
          · refine lv_tableIn (tgt := 245) E.1.1 E.1.2.1 dL_law_32 (by decide) (by decide) (off := 213) (by decide) (by decide) ?_
            refine lv_aload_n E.1.1 E.1.2.1 dL_law_245 rfl (lv_at hl 1 rfl) ?_
            refine lv_aload_n E.1.1 E.1.2.1 dL_law_246 rfl (lv_at hl 3 rfl) ?_
            refine lv_iload_n E.1.1 E.1.2.1 dL_law_247 rfl (lv_at hl 0 rfl) ?_
            refine lv_iconst (v := nI 1) E.1.1 E.1.2.1 dL_law_248 rfl ?_
            refine k_add E dL_law_249 ?_
            refine va_sld E.1.1 E.1.2.1 hX hbl hbA hw.2.2.1 (vp_in_nI (show (5 * q) + 1 < LN by omega) (by omega)) dL_law_250 ?_
            refine k_top E (a1) (by rw [nI_clamp (by omega)]; exact ha1.symm) ?_
            refine lv_aload_n E.1.1 E.1.2.1 dL_law_251 rfl (lv_at hl 3 rfl) ?_
            refine lv_iload_n E.1.1 E.1.2.1 dL_law_252 rfl (lv_at hl 0 rfl) ?_
            refine lv_iconst (v := nI 2) E.1.1 E.1.2.1 dL_law_253 rfl ?_
            refine k_add E dL_law_254 ?_
            refine va_sld E.1.1 E.1.2.1 hX hbl hbA hw.2.2.1 (vp_in_nI (show (5 * q) + 2 < LN by omega) (by omega)) dL_law_255 ?_
            refine k_top E (a2) (by rw [nI_clamp (by omega)]; exact ha2.symm) ?_
            refine k_mi hw (va_runV (As := [.int a1, .int a2]) (rest := []) E.1 (p_turn l D cy Lw f H.size M A base SS kp kb KS hAd hN a1 a2) ⟨callB_of 2 E.1.2.2.2.2 (gd_own w2_65) rfl rfl rfl (E.1.2.2.2.2 _ w1_1) (E.1.2.2.2.2 _ w2_62) hd_X5_turn (by rw [hR]; exact ⟨Nat.le_of_ble_eq_true rfl, Nat.le_of_ble_eq_true rfl⟩), E.1.2.2.2.2 _ w2_63, E.1.2.2.2.2 _ w2_64⟩ (pw_preV (q := (RX5, TX5, 5)) E.2 hw h_nm rfl) rfl rfl hl.1 rfl (lv_room (Nat.le_of_ble_eq_true rfl)) dL_law_256 ⟨by rw [hR]; dsimp only; omega, by rw [hR]; dsimp only; omega⟩) (fun r Lx f H locs hp hw => ?_)
            refine W.cs (cells' := 25 + 4 * q + 4) (slots' := 5867 + 331 * q + 331) rfl rfl ?_
            obtain ⟨hLn, hfr, SS2, hN2, hsp⟩ := hp
            dsimp only at hLn hfr hN2 hsp
            obtain ⟨r1, hr1⟩ : ∃ X, X = r := ⟨_, rfl⟩
            rw [← hr1] at hsp
            refine k_top E r1 hr1.symm ?_
            have hMo := hMo.keep hLn (fun i hi => hfr _ (hAd.2.2 _ (hZM i hi)) (fun j hj h => hAZ j i hj hi h.symm))
            have hAd := hAd.grow hLn
            have h_nm := hN2.2.1
            obtain ⟨vs, h_mo⟩ := hMo.obj
            refine lv_aload_n E.1.1 E.1.2.1 dL_law_259 rfl (lv_at hl 2 rfl) ?_
            refine lv_aload_n E.1.1 E.1.2.1 dL_law_260 rfl (lv_at hl 3 rfl) ?_
            refine lv_iload_n E.1.1 E.1.2.1 dL_law_261 rfl (lv_at hl 0 rfl) ?_
            refine lv_iconst (v := nI 1) E.1.1 E.1.2.1 dL_law_262 rfl ?_
            refine k_add E dL_law_263 ?_
            refine va_sld E.1.1 E.1.2.1 hX hbl hbA hw.2.2.1 (vp_in_nI (show (5 * q) + 1 < LN by omega) (by omega)) dL_law_264 ?_
            refine k_top E (a1) (by rw [nI_clamp (by omega)]; exact ha1.symm) ?_
            refine lv_aload_n E.1.1 E.1.2.1 dL_law_265 rfl (lv_at hl 3 rfl) ?_
            refine lv_iload_n E.1.1 E.1.2.1 dL_law_266 rfl (lv_at hl 0 rfl) ?_
            refine lv_iconst (v := nI 2) E.1.1 E.1.2.1 dL_law_267 rfl ?_
            refine k_add E dL_law_268 ?_
            refine va_sld E.1.1 E.1.2.1 hX hbl hbA hw.2.2.1 (vp_in_nI (show (5 * q) + 2 < LN by omega) (by omega)) dL_law_269 ?_
            refine k_top E (a2) (by rw [nI_clamp (by omega)]; exact ha2.symm) ?_
            refine k_mi hw (va_runV (As := [.int a1, .int a2]) (rest := [.int r1]) E.1 (m_turn l D cy Lx f H.size Z base SS kp kb KS hZA hMo a1 a2) ⟨callB_of 2 E.1.2.2.2.2 (gd_own w3_102) rfl rfl rfl (E.1.2.2.2.2 _ w1_10) (E.1.2.2.2.2 _ w3_99) hd_X6_turn (by rw [hR]; exact ⟨Nat.le_of_ble_eq_true rfl, Nat.le_of_ble_eq_true rfl⟩), E.1.2.2.2.2 _ w3_100, E.1.2.2.2.2 _ w3_101⟩ (pw_preV (q := (RX6, TX6, 12)) E.2 hw h_mo rfl) rfl rfl hl.1 rfl (lv_room (Nat.le_of_ble_eq_true rfl)) dL_law_270 ⟨by rw [hR]; dsimp only; omega, by rw [hR]; dsimp only; omega⟩) (fun r L1 f H locs hp hw => ?_)
            obtain ⟨hL2, hfr2, SS3, hMo2, hsp2⟩ := hp
            dsimp only at hL2 hfr2 hMo2 hsp2
            subst hL2
            have hN2 := hN2.keep2 (fun _ h => h) (fun i hi => hfr2 _ (hAd.2.2 _ (hAd.1 i hi)) (fun j hj h => hAZ i j hi hj h)) (fun z hz hn => hfr2 z hz (fun j hj h => hn (h ▸ hZM j hj)))
            have hu := sp_un_uni (by omega) hsp hsp2
            obtain ⟨hu, rfl⟩ := hu
            refine lv_icmp_eq (tgt := 757) E.1.1 E.1.2.1 dL_law_273 (by decide) (fun c273 => ?_) (fun c273 => absurd hu c273)
            refine lv_iinc (v := nI (5 * q + 5)) (lv' := [(3, .int (nI (5 * q + 5))), (1, .ref (A 0)), (2, .ref (Z 0)), (0, .ref b)]) E.1.1 E.1.2.1 dL_law_757 hl (k := 0) rfl (nI_add (5 * q) 5) (by decide) rfl (fun ls hl => ?_)
            refine lv_goto (tgt := 18) E.1.1 E.1.2.1 dL_law_760 (by decide) ?_
            rw [show 5 * q + 5 = 5 * (q + 1) by omega] at hl
            refine W.widen (k := 25 + 4 * (q + 1)) (n := 5867 + 331 * (q + 1)) (by omega) (by omega) ?_
            exact ih18 (q + 1) Lx f H locs base SS2 kp kb KS ls (by omega) (by omega) ⟨hAd, hZA, hZM, hAZ, hN2, hMo2⟩ hw (lv_sub hl [0, 1, 2, 3] rfl)
          · refine lv_tableIn (tgt := 278) E.1.1 E.1.2.1 dL_law_32 (by decide) (by decide) (off := 246) (by decide) (by decide) ?_
            cases hk3 : i32in a3 (-100) (nI 100)
            · refine lv_aload_n E.1.1 E.1.2.1 dL_law_278 rfl (lv_at hl 1 rfl) ?_
              refine lv_aload_n E.1.1 E.1.2.1 dL_law_279 rfl (lv_at hl 3 rfl) ?_
              refine lv_iload_n E.1.1 E.1.2.1 dL_law_280 rfl (lv_at hl 0 rfl) ?_
              refine lv_iconst (v := nI 1) E.1.1 E.1.2.1 dL_law_281 rfl ?_
              refine k_add E dL_law_282 ?_
              refine va_sld E.1.1 E.1.2.1 hX hbl hbA hw.2.2.1 (vp_in_nI (show (5 * q) + 1 < LN by omega) (by omega)) dL_law_283 ?_
              refine k_top E (a1) (by rw [nI_clamp (by omega)]; exact ha1.symm) ?_
              refine lv_aload_n E.1.1 E.1.2.1 dL_law_284 rfl (lv_at hl 3 rfl) ?_
              refine lv_iload_n E.1.1 E.1.2.1 dL_law_285 rfl (lv_at hl 0 rfl) ?_
              refine lv_iconst (v := nI 2) E.1.1 E.1.2.1 dL_law_286 rfl ?_
              refine k_add E dL_law_287 ?_
              refine va_sld E.1.1 E.1.2.1 hX hbl hbA hw.2.2.1 (vp_in_nI (show (5 * q) + 2 < LN by omega) (by omega)) dL_law_288 ?_
              refine k_top E (a2) (by rw [nI_clamp (by omega)]; exact ha2.symm) ?_
              refine lv_aload_n E.1.1 E.1.2.1 dL_law_289 rfl (lv_at hl 3 rfl) ?_
              refine lv_iload_n E.1.1 E.1.2.1 dL_law_290 rfl (lv_at hl 0 rfl) ?_
              refine lv_iconst (v := nI 3) E.1.1 E.1.2.1 dL_law_291 rfl ?_
              refine k_add E dL_law_292 ?_
              refine va_sld E.1.1 E.1.2.1 hX hbl hbA hw.2.2.1 (vp_in_nI (show (5 * q) + 3 < LN by omega) (by omega)) dL_law_293 ?_
              refine k_top E (a3) (by rw [nI_clamp (by omega)]; exact ha3.symm) ?_
              refine k_mi hw (va_runV (As := [.int a1, .int a2, .int a3]) (rest := []) E.1 (p_shift0 l D cy Lw f H.size M A base SS kp kb KS hAd hN a1 a2 a3 hk3) ⟨callB_of 3 E.1.2.2.2.2 (gd_own w2_73) rfl rfl rfl (E.1.2.2.2.2 _ w1_1) (E.1.2.2.2.2 _ w2_70) hd_X5_shift (by rw [hR]; exact ⟨Nat.le_of_ble_eq_true rfl, Nat.le_of_ble_eq_true rfl⟩), E.1.2.2.2.2 _ w2_71, E.1.2.2.2.2 _ w2_72⟩ (pw_preV (q := (RX5, TX5, 5)) E.2 hw h_nm rfl) rfl rfl hl.1 rfl (lv_room (Nat.le_of_ble_eq_true rfl)) dL_law_294 ⟨by rw [hR]; dsimp only; omega, by rw [hR]; dsimp only; omega⟩) (fun r Lx f H locs hp hw => ?_)
              refine W.cs (cells' := 25 + 4 * q + 4) (slots' := 5867 + 331 * q + 331) rfl rfl ?_
              obtain ⟨hLn, hfr, SS2, hN2, hsp⟩ := hp
              dsimp only at hLn hfr hN2 hsp
              obtain ⟨r1, hr1⟩ : ∃ X, X = r := ⟨_, rfl⟩
              rw [← hr1] at hsp
              refine k_top E r1 hr1.symm ?_
              have hMo := hMo.keep hLn (fun i hi => hfr _ (hAd.2.2 _ (hZM i hi)) (fun j hj h => hAZ j i hj hi h.symm))
              have hAd := hAd.grow hLn
              have h_nm := hN2.2.1
              obtain ⟨vs, h_mo⟩ := hMo.obj
              refine lv_aload_n E.1.1 E.1.2.1 dL_law_297 rfl (lv_at hl 2 rfl) ?_
              refine lv_aload_n E.1.1 E.1.2.1 dL_law_298 rfl (lv_at hl 3 rfl) ?_
              refine lv_iload_n E.1.1 E.1.2.1 dL_law_299 rfl (lv_at hl 0 rfl) ?_
              refine lv_iconst (v := nI 1) E.1.1 E.1.2.1 dL_law_300 rfl ?_
              refine k_add E dL_law_301 ?_
              refine va_sld E.1.1 E.1.2.1 hX hbl hbA hw.2.2.1 (vp_in_nI (show (5 * q) + 1 < LN by omega) (by omega)) dL_law_302 ?_
              refine k_top E (a1) (by rw [nI_clamp (by omega)]; exact ha1.symm) ?_
              refine lv_aload_n E.1.1 E.1.2.1 dL_law_303 rfl (lv_at hl 3 rfl) ?_
              refine lv_iload_n E.1.1 E.1.2.1 dL_law_304 rfl (lv_at hl 0 rfl) ?_
              refine lv_iconst (v := nI 2) E.1.1 E.1.2.1 dL_law_305 rfl ?_
              refine k_add E dL_law_306 ?_
              refine va_sld E.1.1 E.1.2.1 hX hbl hbA hw.2.2.1 (vp_in_nI (show (5 * q) + 2 < LN by omega) (by omega)) dL_law_307 ?_
              refine k_top E (a2) (by rw [nI_clamp (by omega)]; exact ha2.symm) ?_
              refine lv_aload_n E.1.1 E.1.2.1 dL_law_308 rfl (lv_at hl 3 rfl) ?_
              refine lv_iload_n E.1.1 E.1.2.1 dL_law_309 rfl (lv_at hl 0 rfl) ?_
              refine lv_iconst (v := nI 3) E.1.1 E.1.2.1 dL_law_310 rfl ?_
              refine k_add E dL_law_311 ?_
              refine va_sld E.1.1 E.1.2.1 hX hbl hbA hw.2.2.1 (vp_in_nI (show (5 * q) + 3 < LN by omega) (by omega)) dL_law_312 ?_
              refine k_top E (a3) (by rw [nI_clamp (by omega)]; exact ha3.symm) ?_
              refine k_mi hw (va_runV (As := [.int a1, .int a2, .int a3]) (rest := [.int r1]) E.1 (m_shift0 l D cy Lx f H.size Z base SS kp kb KS hZA hMo a1 a2 a3 hk3) ⟨callB_of 3 E.1.2.2.2.2 (gd_own w3_106) rfl rfl rfl (E.1.2.2.2.2 _ w1_10) (E.1.2.2.2.2 _ w3_103) hd_X6_shift (by rw [hR]; exact ⟨Nat.le_of_ble_eq_true rfl, Nat.le_of_ble_eq_true rfl⟩), E.1.2.2.2.2 _ w3_104, E.1.2.2.2.2 _ w3_105⟩ (pw_preV (q := (RX6, TX6, 12)) E.2 hw h_mo rfl) rfl rfl hl.1 rfl (lv_room (Nat.le_of_ble_eq_true rfl)) dL_law_313 ⟨by rw [hR]; dsimp only; omega, by rw [hR]; dsimp only; omega⟩) (fun r L1 f H locs hp hw => ?_)
              obtain ⟨hL2, hfr2, SS3, hMo2, hsp2⟩ := hp
              dsimp only at hL2 hfr2 hMo2 hsp2
              subst hL2
              have hN2 := hN2.keep2 (fun _ h => h) (fun i hi => hfr2 _ (hAd.2.2 _ (hAd.1 i hi)) (fun j hj h => hAZ i j hi hj h)) (fun z hz hn => hfr2 z hz (fun j hj h => hn (h ▸ hZM j hj)))
              have hu := sp_un_uni (by omega) hsp hsp2
              obtain ⟨hu, rfl⟩ := hu
              refine lv_icmp_eq (tgt := 757) E.1.1 E.1.2.1 dL_law_316 (by decide) (fun c316 => ?_) (fun c316 => absurd hu c316)
              refine lv_iinc (v := nI (5 * q + 5)) (lv' := [(3, .int (nI (5 * q + 5))), (1, .ref (A 0)), (2, .ref (Z 0)), (0, .ref b)]) E.1.1 E.1.2.1 dL_law_757 hl (k := 0) rfl (nI_add (5 * q) 5) (by decide) rfl (fun ls hl => ?_)
              refine lv_goto (tgt := 18) E.1.1 E.1.2.1 dL_law_760 (by decide) ?_
              rw [show 5 * q + 5 = 5 * (q + 1) by omega] at hl
              refine W.widen (k := 25 + 4 * (q + 1)) (n := 5867 + 331 * (q + 1)) (by omega) (by omega) ?_
              exact ih18 (q + 1) Lx f H locs base SS2 kp kb KS ls (by omega) (by omega) ⟨hAd, hZA, hZM, hAZ, hN2, hMo2⟩ hw (lv_sub hl [0, 1, 2, 3] rfl)
            · rcases shift_ex hk3 with ⟨w, hw1, rfl⟩ | ⟨w, hw0, hw1, rfl⟩
              · refine lv_aload_n E.1.1 E.1.2.1 dL_law_278 rfl (lv_at hl 1 rfl) ?_
                refine lv_aload_n E.1.1 E.1.2.1 dL_law_279 rfl (lv_at hl 3 rfl) ?_
                refine lv_iload_n E.1.1 E.1.2.1 dL_law_280 rfl (lv_at hl 0 rfl) ?_
                refine lv_iconst (v := nI 1) E.1.1 E.1.2.1 dL_law_281 rfl ?_
                refine k_add E dL_law_282 ?_
                refine va_sld E.1.1 E.1.2.1 hX hbl hbA hw.2.2.1 (vp_in_nI (show (5 * q) + 1 < LN by omega) (by omega)) dL_law_283 ?_
                refine k_top E (a1) (by rw [nI_clamp (by omega)]; exact ha1.symm) ?_
                refine lv_aload_n E.1.1 E.1.2.1 dL_law_284 rfl (lv_at hl 3 rfl) ?_
                refine lv_iload_n E.1.1 E.1.2.1 dL_law_285 rfl (lv_at hl 0 rfl) ?_
                refine lv_iconst (v := nI 2) E.1.1 E.1.2.1 dL_law_286 rfl ?_
                refine k_add E dL_law_287 ?_
                refine va_sld E.1.1 E.1.2.1 hX hbl hbA hw.2.2.1 (vp_in_nI (show (5 * q) + 2 < LN by omega) (by omega)) dL_law_288 ?_
                refine k_top E (a2) (by rw [nI_clamp (by omega)]; exact ha2.symm) ?_
                refine lv_aload_n E.1.1 E.1.2.1 dL_law_289 rfl (lv_at hl 3 rfl) ?_
                refine lv_iload_n E.1.1 E.1.2.1 dL_law_290 rfl (lv_at hl 0 rfl) ?_
                refine lv_iconst (v := nI 3) E.1.1 E.1.2.1 dL_law_291 rfl ?_
                refine k_add E dL_law_292 ?_
                refine va_sld E.1.1 E.1.2.1 hX hbl hbA hw.2.2.1 (vp_in_nI (show (5 * q) + 3 < LN by omega) (by omega)) dL_law_293 ?_
                refine k_top E (nI w) (by rw [nI_clamp (by omega)]; exact ha3.symm) ?_
                refine k_mi hw (va_runV (As := [.int a1, .int a2, .int (nI w)]) (rest := []) E.1 (p_shiftU l D cy Lw f H.size M A base SS kp kb KS hAd hN a1 a2 w hw1 hk3) ⟨callB_of 3 E.1.2.2.2.2 (gd_own w2_73) rfl rfl rfl (E.1.2.2.2.2 _ w1_1) (E.1.2.2.2.2 _ w2_70) hd_X5_shift (by rw [hR]; exact ⟨Nat.le_of_ble_eq_true rfl, Nat.le_of_ble_eq_true rfl⟩), E.1.2.2.2.2 _ w2_71, E.1.2.2.2.2 _ w2_72⟩ (pw_preV (q := (RX5, TX5, 5)) E.2 hw h_nm rfl) rfl rfl hl.1 rfl (lv_room (Nat.le_of_ble_eq_true rfl)) dL_law_294 ⟨by rw [hR]; dsimp only; omega, by rw [hR]; dsimp only; omega⟩) (fun r Lx f H locs hp hw => ?_)
                refine W.cs (cells' := 25 + 4 * q + 4) (slots' := 5867 + 331 * q + 331) rfl rfl ?_
                obtain ⟨hLn, hfr, SS2, hN2, hsp⟩ := hp
                dsimp only at hLn hfr hN2 hsp
                obtain ⟨r1, hr1⟩ : ∃ X, X = r := ⟨_, rfl⟩
                rw [← hr1] at hsp
                refine k_top E r1 hr1.symm ?_
                have hMo := hMo.keep hLn (fun i hi => hfr _ (hAd.2.2 _ (hZM i hi)) (fun j hj h => hAZ j i hj hi h.symm))
                have hAd := hAd.grow hLn
                have h_nm := hN2.2.1
                obtain ⟨vs, h_mo⟩ := hMo.obj
                refine lv_aload_n E.1.1 E.1.2.1 dL_law_297 rfl (lv_at hl 2 rfl) ?_
                refine lv_aload_n E.1.1 E.1.2.1 dL_law_298 rfl (lv_at hl 3 rfl) ?_
                refine lv_iload_n E.1.1 E.1.2.1 dL_law_299 rfl (lv_at hl 0 rfl) ?_
                refine lv_iconst (v := nI 1) E.1.1 E.1.2.1 dL_law_300 rfl ?_
                refine k_add E dL_law_301 ?_
                refine va_sld E.1.1 E.1.2.1 hX hbl hbA hw.2.2.1 (vp_in_nI (show (5 * q) + 1 < LN by omega) (by omega)) dL_law_302 ?_
                refine k_top E (a1) (by rw [nI_clamp (by omega)]; exact ha1.symm) ?_
                refine lv_aload_n E.1.1 E.1.2.1 dL_law_303 rfl (lv_at hl 3 rfl) ?_
                refine lv_iload_n E.1.1 E.1.2.1 dL_law_304 rfl (lv_at hl 0 rfl) ?_
                refine lv_iconst (v := nI 2) E.1.1 E.1.2.1 dL_law_305 rfl ?_
                refine k_add E dL_law_306 ?_
                refine va_sld E.1.1 E.1.2.1 hX hbl hbA hw.2.2.1 (vp_in_nI (show (5 * q) + 2 < LN by omega) (by omega)) dL_law_307 ?_
                refine k_top E (a2) (by rw [nI_clamp (by omega)]; exact ha2.symm) ?_
                refine lv_aload_n E.1.1 E.1.2.1 dL_law_308 rfl (lv_at hl 3 rfl) ?_
                refine lv_iload_n E.1.1 E.1.2.1 dL_law_309 rfl (lv_at hl 0 rfl) ?_
                refine lv_iconst (v := nI 3) E.1.1 E.1.2.1 dL_law_310 rfl ?_
                refine k_add E dL_law_311 ?_
                refine va_sld E.1.1 E.1.2.1 hX hbl hbA hw.2.2.1 (vp_in_nI (show (5 * q) + 3 < LN by omega) (by omega)) dL_law_312 ?_
                refine k_top E (nI w) (by rw [nI_clamp (by omega)]; exact ha3.symm) ?_
                refine k_mi hw (va_runV (As := [.int a1, .int a2, .int (nI w)]) (rest := [.int r1]) E.1 (m_shiftU l D cy Lx f H.size Z base SS kp kb KS hZA hMo a1 a2 w hw1 hk3) ⟨callB_of 3 E.1.2.2.2.2 (gd_own w3_106) rfl rfl rfl (E.1.2.2.2.2 _ w1_10) (E.1.2.2.2.2 _ w3_103) hd_X6_shift (by rw [hR]; exact ⟨Nat.le_of_ble_eq_true rfl, Nat.le_of_ble_eq_true rfl⟩), E.1.2.2.2.2 _ w3_104, E.1.2.2.2.2 _ w3_105⟩ (pw_preV (q := (RX6, TX6, 12)) E.2 hw h_mo rfl) rfl rfl hl.1 rfl (lv_room (Nat.le_of_ble_eq_true rfl)) dL_law_313 ⟨by rw [hR]; dsimp only; omega, by rw [hR]; dsimp only; omega⟩) (fun r L1 f H locs hp hw => ?_)
                obtain ⟨hL2, hfr2, SS3, hMo2, hsp2⟩ := hp
                dsimp only at hL2 hfr2 hMo2 hsp2
                subst hL2
                have hN2 := hN2.keep2 (fun _ h => h) (fun i hi => hfr2 _ (hAd.2.2 _ (hAd.1 i hi)) (fun j hj h => hAZ i j hi hj h)) (fun z hz hn => hfr2 z hz (fun j hj h => hn (h ▸ hZM j hj)))
                have hu := sp_un_uni (by omega) hsp hsp2
                obtain ⟨hu, rfl⟩ := hu
                refine lv_icmp_eq (tgt := 757) E.1.1 E.1.2.1 dL_law_316 (by decide) (fun c316 => ?_) (fun c316 => absurd hu c316)
                refine lv_iinc (v := nI (5 * q + 5)) (lv' := [(3, .int (nI (5 * q + 5))), (1, .ref (A 0)), (2, .ref (Z 0)), (0, .ref b)]) E.1.1 E.1.2.1 dL_law_757 hl (k := 0) rfl (nI_add (5 * q) 5) (by decide) rfl (fun ls hl => ?_)
                refine lv_goto (tgt := 18) E.1.1 E.1.2.1 dL_law_760 (by decide) ?_
                rw [show 5 * q + 5 = 5 * (q + 1) by omega] at hl
                refine W.widen (k := 25 + 4 * (q + 1)) (n := 5867 + 331 * (q + 1)) (by omega) (by omega) ?_
                exact ih18 (q + 1) Lx f H locs base SS2 kp kb KS ls (by omega) (by omega) ⟨hAd, hZA, hZM, hAZ, hN2, hMo2⟩ hw (lv_sub hl [0, 1, 2, 3] rfl)
              · refine lv_aload_n E.1.1 E.1.2.1 dL_law_278 rfl (lv_at hl 1 rfl) ?_
                refine lv_aload_n E.1.1 E.1.2.1 dL_law_279 rfl (lv_at hl 3 rfl) ?_
                refine lv_iload_n E.1.1 E.1.2.1 dL_law_280 rfl (lv_at hl 0 rfl) ?_
                refine lv_iconst (v := nI 1) E.1.1 E.1.2.1 dL_law_281 rfl ?_
                refine k_add E dL_law_282 ?_
                refine va_sld E.1.1 E.1.2.1 hX hbl hbA hw.2.2.1 (vp_in_nI (show (5 * q) + 1 < LN by omega) (by omega)) dL_law_283 ?_
                refine k_top E (a1) (by rw [nI_clamp (by omega)]; exact ha1.symm) ?_
                refine lv_aload_n E.1.1 E.1.2.1 dL_law_284 rfl (lv_at hl 3 rfl) ?_
                refine lv_iload_n E.1.1 E.1.2.1 dL_law_285 rfl (lv_at hl 0 rfl) ?_
                refine lv_iconst (v := nI 2) E.1.1 E.1.2.1 dL_law_286 rfl ?_
                refine k_add E dL_law_287 ?_
                refine va_sld E.1.1 E.1.2.1 hX hbl hbA hw.2.2.1 (vp_in_nI (show (5 * q) + 2 < LN by omega) (by omega)) dL_law_288 ?_
                refine k_top E (a2) (by rw [nI_clamp (by omega)]; exact ha2.symm) ?_
                refine lv_aload_n E.1.1 E.1.2.1 dL_law_289 rfl (lv_at hl 3 rfl) ?_
                refine lv_iload_n E.1.1 E.1.2.1 dL_law_290 rfl (lv_at hl 0 rfl) ?_
                refine lv_iconst (v := nI 3) E.1.1 E.1.2.1 dL_law_291 rfl ?_
                refine k_add E dL_law_292 ?_
                refine va_sld E.1.1 E.1.2.1 hX hbl hbA hw.2.2.1 (vp_in_nI (show (5 * q) + 3 < LN by omega) (by omega)) dL_law_293 ?_
                refine k_top E (-nI w) (by rw [nI_clamp (by omega)]; exact ha3.symm) ?_
                refine k_mi hw (va_runV (As := [.int a1, .int a2, .int (-nI w)]) (rest := []) E.1 (p_shiftD l D cy Lw f H.size M A base SS kp kb KS hAd hN a1 a2 w hw0 hw1 hk3) ⟨callB_of 3 E.1.2.2.2.2 (gd_own w2_73) rfl rfl rfl (E.1.2.2.2.2 _ w1_1) (E.1.2.2.2.2 _ w2_70) hd_X5_shift (by rw [hR]; exact ⟨Nat.le_of_ble_eq_true rfl, Nat.le_of_ble_eq_true rfl⟩), E.1.2.2.2.2 _ w2_71, E.1.2.2.2.2 _ w2_72⟩ (pw_preV (q := (RX5, TX5, 5)) E.2 hw h_nm rfl) rfl rfl hl.1 rfl (lv_room (Nat.le_of_ble_eq_true rfl)) dL_law_294 ⟨by rw [hR]; dsimp only; omega, by rw [hR]; dsimp only; omega⟩) (fun r Lx f H locs hp hw => ?_)
                refine W.cs (cells' := 25 + 4 * q + 4) (slots' := 5867 + 331 * q + 331) rfl rfl ?_
                obtain ⟨hLn, hfr, SS2, hN2, hsp⟩ := hp
                dsimp only at hLn hfr hN2 hsp
                obtain ⟨r1, hr1⟩ : ∃ X, X = r := ⟨_, rfl⟩
                rw [← hr1] at hsp
                refine k_top E r1 hr1.symm ?_
                have hMo := hMo.keep hLn (fun i hi => hfr _ (hAd.2.2 _ (hZM i hi)) (fun j hj h => hAZ j i hj hi h.symm))
                have hAd := hAd.grow hLn
                have h_nm := hN2.2.1
                obtain ⟨vs, h_mo⟩ := hMo.obj
                refine lv_aload_n E.1.1 E.1.2.1 dL_law_297 rfl (lv_at hl 2 rfl) ?_
                refine lv_aload_n E.1.1 E.1.2.1 dL_law_298 rfl (lv_at hl 3 rfl) ?_
                refine lv_iload_n E.1.1 E.1.2.1 dL_law_299 rfl (lv_at hl 0 rfl) ?_
                refine lv_iconst (v := nI 1) E.1.1 E.1.2.1 dL_law_300 rfl ?_
                refine k_add E dL_law_301 ?_
                refine va_sld E.1.1 E.1.2.1 hX hbl hbA hw.2.2.1 (vp_in_nI (show (5 * q) + 1 < LN by omega) (by omega)) dL_law_302 ?_
                refine k_top E (a1) (by rw [nI_clamp (by omega)]; exact ha1.symm) ?_
                refine lv_aload_n E.1.1 E.1.2.1 dL_law_303 rfl (lv_at hl 3 rfl) ?_
                refine lv_iload_n E.1.1 E.1.2.1 dL_law_304 rfl (lv_at hl 0 rfl) ?_
                refine lv_iconst (v := nI 2) E.1.1 E.1.2.1 dL_law_305 rfl ?_
                refine k_add E dL_law_306 ?_
                refine va_sld E.1.1 E.1.2.1 hX hbl hbA hw.2.2.1 (vp_in_nI (show (5 * q) + 2 < LN by omega) (by omega)) dL_law_307 ?_
                refine k_top E (a2) (by rw [nI_clamp (by omega)]; exact ha2.symm) ?_
                refine lv_aload_n E.1.1 E.1.2.1 dL_law_308 rfl (lv_at hl 3 rfl) ?_
                refine lv_iload_n E.1.1 E.1.2.1 dL_law_309 rfl (lv_at hl 0 rfl) ?_
                refine lv_iconst (v := nI 3) E.1.1 E.1.2.1 dL_law_310 rfl ?_
                refine k_add E dL_law_311 ?_
                refine va_sld E.1.1 E.1.2.1 hX hbl hbA hw.2.2.1 (vp_in_nI (show (5 * q) + 3 < LN by omega) (by omega)) dL_law_312 ?_
                refine k_top E (-nI w) (by rw [nI_clamp (by omega)]; exact ha3.symm) ?_
                refine k_mi hw (va_runV (As := [.int a1, .int a2, .int (-nI w)]) (rest := [.int r1]) E.1 (m_shiftD l D cy Lx f H.size Z base SS kp kb KS hZA hMo a1 a2 w hw0 hw1 hk3) ⟨callB_of 3 E.1.2.2.2.2 (gd_own w3_106) rfl rfl rfl (E.1.2.2.2.2 _ w1_10) (E.1.2.2.2.2 _ w3_103) hd_X6_shift (by rw [hR]; exact ⟨Nat.le_of_ble_eq_true rfl, Nat.le_of_ble_eq_true rfl⟩), E.1.2.2.2.2 _ w3_104, E.1.2.2.2.2 _ w3_105⟩ (pw_preV (q := (RX6, TX6, 12)) E.2 hw h_mo rfl) rfl rfl hl.1 rfl (lv_room (Nat.le_of_ble_eq_true rfl)) dL_law_313 ⟨by rw [hR]; dsimp only; omega, by rw [hR]; dsimp only; omega⟩) (fun r L1 f H locs hp hw => ?_)
                obtain ⟨hL2, hfr2, SS3, hMo2, hsp2⟩ := hp
                dsimp only at hL2 hfr2 hMo2 hsp2
                subst hL2
                have hN2 := hN2.keep2 (fun _ h => h) (fun i hi => hfr2 _ (hAd.2.2 _ (hAd.1 i hi)) (fun j hj h => hAZ i j hi hj h)) (fun z hz hn => hfr2 z hz (fun j hj h => hn (h ▸ hZM j hj)))
                have hu := sp_un_uni (by omega) hsp hsp2
                obtain ⟨hu, rfl⟩ := hu
                refine lv_icmp_eq (tgt := 757) E.1.1 E.1.2.1 dL_law_316 (by decide) (fun c316 => ?_) (fun c316 => absurd hu c316)
                refine lv_iinc (v := nI (5 * q + 5)) (lv' := [(3, .int (nI (5 * q + 5))), (1, .ref (A 0)), (2, .ref (Z 0)), (0, .ref b)]) E.1.1 E.1.2.1 dL_law_757 hl (k := 0) rfl (nI_add (5 * q) 5) (by decide) rfl (fun ls hl => ?_)
                refine lv_goto (tgt := 18) E.1.1 E.1.2.1 dL_law_760 (by decide) ?_
                rw [show 5 * q + 5 = 5 * (q + 1) by omega] at hl
                refine W.widen (k := 25 + 4 * (q + 1)) (n := 5867 + 331 * (q + 1)) (by omega) (by omega) ?_
                exact ih18 (q + 1) Lx f H locs base SS2 kp kb KS ls (by omega) (by omega) ⟨hAd, hZA, hZM, hAZ, hN2, hMo2⟩ hw (lv_sub hl [0, 1, 2, 3] rfl)
          · refine lv_tableIn (tgt := 321) E.1.1 E.1.2.1 dL_law_32 (by decide) (by decide) (off := 289) (by decide) (by decide) ?_
            refine lv_aload_n E.1.1 E.1.2.1 dL_law_321 rfl (lv_at hl 1 rfl) ?_
            refine lv_aload_n E.1.1 E.1.2.1 dL_law_322 rfl (lv_at hl 3 rfl) ?_
            refine lv_iload_n E.1.1 E.1.2.1 dL_law_323 rfl (lv_at hl 0 rfl) ?_
            refine lv_iconst (v := nI 1) E.1.1 E.1.2.1 dL_law_324 rfl ?_
            refine k_add E dL_law_325 ?_
            refine va_sld E.1.1 E.1.2.1 hX hbl hbA hw.2.2.1 (vp_in_nI (show (5 * q) + 1 < LN by omega) (by omega)) dL_law_326 ?_
            refine k_top E (a1) (by rw [nI_clamp (by omega)]; exact ha1.symm) ?_
            refine lv_aload_n E.1.1 E.1.2.1 dL_law_327 rfl (lv_at hl 3 rfl) ?_
            refine lv_iload_n E.1.1 E.1.2.1 dL_law_328 rfl (lv_at hl 0 rfl) ?_
            refine lv_iconst (v := nI 2) E.1.1 E.1.2.1 dL_law_329 rfl ?_
            refine k_add E dL_law_330 ?_
            refine va_sld E.1.1 E.1.2.1 hX hbl hbA hw.2.2.1 (vp_in_nI (show (5 * q) + 2 < LN by omega) (by omega)) dL_law_331 ?_
            refine k_top E (a2) (by rw [nI_clamp (by omega)]; exact ha2.symm) ?_
            refine lv_aload_n E.1.1 E.1.2.1 dL_law_332 rfl (lv_at hl 3 rfl) ?_
            refine lv_iload_n E.1.1 E.1.2.1 dL_law_333 rfl (lv_at hl 0 rfl) ?_
            refine lv_iconst (v := nI 3) E.1.1 E.1.2.1 dL_law_334 rfl ?_
            refine k_add E dL_law_335 ?_
            refine va_sld E.1.1 E.1.2.1 hX hbl hbA hw.2.2.1 (vp_in_nI (show (5 * q) + 3 < LN by omega) (by omega)) dL_law_336 ?_
            refine k_top E (a3) (by rw [nI_clamp (by omega)]; exact ha3.symm) ?_
            refine lv_aload_n E.1.1 E.1.2.1 dL_law_337 rfl (lv_at hl 3 rfl) ?_
            refine lv_iload_n E.1.1 E.1.2.1 dL_law_338 rfl (lv_at hl 0 rfl) ?_
            refine lv_iconst (v := nI 4) E.1.1 E.1.2.1 dL_law_339 rfl ?_
            refine k_add E dL_law_340 ?_
            refine va_sld E.1.1 E.1.2.1 hX hbl hbA hw.2.2.1 (vp_in_nI (show (5 * q) + 4 < LN by omega) (by omega)) dL_law_341 ?_
            refine k_top E (a4) (by rw [nI_clamp (by omega)]; exact ha4.symm) ?_
            refine k_mi hw (va_runV (As := [.int a1, .int a2, .int a3, .int a4]) (rest := []) E.1 (p_stretch l D cy Lw f H.size M A base SS kp kb KS hAd hN a1 a2 a3 a4) ⟨callB_of 4 E.1.2.2.2.2 (gd_own w2_87) rfl rfl rfl (E.1.2.2.2.2 _ w1_1) (E.1.2.2.2.2 _ w2_84) hd_X5_stretch (by rw [hR]; exact ⟨Nat.le_of_ble_eq_true rfl, Nat.le_of_ble_eq_true rfl⟩), E.1.2.2.2.2 _ w2_85, E.1.2.2.2.2 _ w2_86⟩ (pw_preV (q := (RX5, TX5, 5)) E.2 hw h_nm rfl) rfl rfl hl.1 rfl (lv_room (Nat.le_of_ble_eq_true rfl)) dL_law_342 ⟨by rw [hR]; dsimp only; omega, by rw [hR]; dsimp only; omega⟩) (fun r Lx f H locs hp hw => ?_)
            refine W.cs (cells' := 25 + 4 * q + 4) (slots' := 5867 + 331 * q + 331) rfl rfl ?_
            obtain ⟨hLn, hfr, SS2, hN2, hsp⟩ := hp
            dsimp only at hLn hfr hN2 hsp
            obtain ⟨r1, hr1⟩ : ∃ X, X = r := ⟨_, rfl⟩
            rw [← hr1] at hsp
            refine k_top E r1 hr1.symm ?_
            have hMo := hMo.keep hLn (fun i hi => hfr _ (hAd.2.2 _ (hZM i hi)) (fun j hj h => hAZ j i hj hi h.symm))
            have hAd := hAd.grow hLn
            have h_nm := hN2.2.1
            obtain ⟨vs, h_mo⟩ := hMo.obj
            refine lv_aload_n E.1.1 E.1.2.1 dL_law_345 rfl (lv_at hl 2 rfl) ?_
            refine lv_aload_n E.1.1 E.1.2.1 dL_law_346 rfl (lv_at hl 3 rfl) ?_
            refine lv_iload_n E.1.1 E.1.2.1 dL_law_347 rfl (lv_at hl 0 rfl) ?_
            refine lv_iconst (v := nI 1) E.1.1 E.1.2.1 dL_law_348 rfl ?_
            refine k_add E dL_law_349 ?_
            refine va_sld E.1.1 E.1.2.1 hX hbl hbA hw.2.2.1 (vp_in_nI (show (5 * q) + 1 < LN by omega) (by omega)) dL_law_350 ?_
            refine k_top E (a1) (by rw [nI_clamp (by omega)]; exact ha1.symm) ?_
            refine lv_aload_n E.1.1 E.1.2.1 dL_law_351 rfl (lv_at hl 3 rfl) ?_
            refine lv_iload_n E.1.1 E.1.2.1 dL_law_352 rfl (lv_at hl 0 rfl) ?_
            refine lv_iconst (v := nI 2) E.1.1 E.1.2.1 dL_law_353 rfl ?_
            refine k_add E dL_law_354 ?_
            refine va_sld E.1.1 E.1.2.1 hX hbl hbA hw.2.2.1 (vp_in_nI (show (5 * q) + 2 < LN by omega) (by omega)) dL_law_355 ?_
            refine k_top E (a2) (by rw [nI_clamp (by omega)]; exact ha2.symm) ?_
            refine lv_aload_n E.1.1 E.1.2.1 dL_law_356 rfl (lv_at hl 3 rfl) ?_
            refine lv_iload_n E.1.1 E.1.2.1 dL_law_357 rfl (lv_at hl 0 rfl) ?_
            refine lv_iconst (v := nI 3) E.1.1 E.1.2.1 dL_law_358 rfl ?_
            refine k_add E dL_law_359 ?_
            refine va_sld E.1.1 E.1.2.1 hX hbl hbA hw.2.2.1 (vp_in_nI (show (5 * q) + 3 < LN by omega) (by omega)) dL_law_360 ?_
            refine k_top E (a3) (by rw [nI_clamp (by omega)]; exact ha3.symm) ?_
            refine lv_aload_n E.1.1 E.1.2.1 dL_law_361 rfl (lv_at hl 3 rfl) ?_
            refine lv_iload_n E.1.1 E.1.2.1 dL_law_362 rfl (lv_at hl 0 rfl) ?_
            refine lv_iconst (v := nI 4) E.1.1 E.1.2.1 dL_law_363 rfl ?_
            refine k_add E dL_law_364 ?_
            refine va_sld E.1.1 E.1.2.1 hX hbl hbA hw.2.2.1 (vp_in_nI (show (5 * q) + 4 < LN by omega) (by omega)) dL_law_365 ?_
            refine k_top E (a4) (by rw [nI_clamp (by omega)]; exact ha4.symm) ?_
            refine k_mi hw (va_runV (As := [.int a1, .int a2, .int a3, .int a4]) (rest := [.int r1]) E.1 (m_stretch l D cy Lx f H.size Z base SS kp kb KS hZA hMo a1 a2 a3 a4) ⟨callB_of 4 E.1.2.2.2.2 (gd_own w3_110) rfl rfl rfl (E.1.2.2.2.2 _ w1_10) (E.1.2.2.2.2 _ w3_107) hd_X6_stretch (by rw [hR]; exact ⟨Nat.le_of_ble_eq_true rfl, Nat.le_of_ble_eq_true rfl⟩), E.1.2.2.2.2 _ w3_108, E.1.2.2.2.2 _ w3_109⟩ (pw_preV (q := (RX6, TX6, 12)) E.2 hw h_mo rfl) rfl rfl hl.1 rfl (lv_room (Nat.le_of_ble_eq_true rfl)) dL_law_366 ⟨by rw [hR]; dsimp only; omega, by rw [hR]; dsimp only; omega⟩) (fun r L1 f H locs hp hw => ?_)
            obtain ⟨hL2, hfr2, SS3, hMo2, hsp2⟩ := hp
            dsimp only at hL2 hfr2 hMo2 hsp2
            subst hL2
            have hN2 := hN2.keep2 (fun _ h => h) (fun i hi => hfr2 _ (hAd.2.2 _ (hAd.1 i hi)) (fun j hj h => hAZ i j hi hj h)) (fun z hz hn => hfr2 z hz (fun j hj h => hn (h ▸ hZM j hj)))
            have hu := sp_un_uni (by omega) hsp hsp2
            obtain ⟨hu, rfl⟩ := hu
            refine lv_icmp_eq (tgt := 757) E.1.1 E.1.2.1 dL_law_369 (by decide) (fun c369 => ?_) (fun c369 => absurd hu c369)
            refine lv_iinc (v := nI (5 * q + 5)) (lv' := [(3, .int (nI (5 * q + 5))), (1, .ref (A 0)), (2, .ref (Z 0)), (0, .ref b)]) E.1.1 E.1.2.1 dL_law_757 hl (k := 0) rfl (nI_add (5 * q) 5) (by decide) rfl (fun ls hl => ?_)
            refine lv_goto (tgt := 18) E.1.1 E.1.2.1 dL_law_760 (by decide) ?_
            rw [show 5 * q + 5 = 5 * (q + 1) by omega] at hl
            refine W.widen (k := 25 + 4 * (q + 1)) (n := 5867 + 331 * (q + 1)) (by omega) (by omega) ?_
            exact ih18 (q + 1) Lx f H locs base SS2 kp kb KS ls (by omega) (by omega) ⟨hAd, hZA, hZM, hAZ, hN2, hMo2⟩ hw (lv_sub hl [0, 1, 2, 3] rfl)
          · refine lv_tableIn (tgt := 374) E.1.1 E.1.2.1 dL_law_32 (by decide) (by decide) (off := 342) (by decide) (by decide) ?_
            refine lv_aload_n E.1.1 E.1.2.1 dL_law_374 rfl (lv_at hl 1 rfl) ?_
            refine lv_aload_n E.1.1 E.1.2.1 dL_law_375 rfl (lv_at hl 3 rfl) ?_
            refine lv_iload_n E.1.1 E.1.2.1 dL_law_376 rfl (lv_at hl 0 rfl) ?_
            refine lv_iconst (v := nI 1) E.1.1 E.1.2.1 dL_law_377 rfl ?_
            refine k_add E dL_law_378 ?_
            refine va_sld E.1.1 E.1.2.1 hX hbl hbA hw.2.2.1 (vp_in_nI (show (5 * q) + 1 < LN by omega) (by omega)) dL_law_379 ?_
            refine k_top E (a1) (by rw [nI_clamp (by omega)]; exact ha1.symm) ?_
            refine lv_aload_n E.1.1 E.1.2.1 dL_law_380 rfl (lv_at hl 3 rfl) ?_
            refine lv_iload_n E.1.1 E.1.2.1 dL_law_381 rfl (lv_at hl 0 rfl) ?_
            refine lv_iconst (v := nI 2) E.1.1 E.1.2.1 dL_law_382 rfl ?_
            refine k_add E dL_law_383 ?_
            refine va_sld E.1.1 E.1.2.1 hX hbl hbA hw.2.2.1 (vp_in_nI (show (5 * q) + 2 < LN by omega) (by omega)) dL_law_384 ?_
            refine k_top E (a2) (by rw [nI_clamp (by omega)]; exact ha2.symm) ?_
            refine lv_aload_n E.1.1 E.1.2.1 dL_law_385 rfl (lv_at hl 3 rfl) ?_
            refine lv_iload_n E.1.1 E.1.2.1 dL_law_386 rfl (lv_at hl 0 rfl) ?_
            refine lv_iconst (v := nI 3) E.1.1 E.1.2.1 dL_law_387 rfl ?_
            refine k_add E dL_law_388 ?_
            refine va_sld E.1.1 E.1.2.1 hX hbl hbA hw.2.2.1 (vp_in_nI (show (5 * q) + 3 < LN by omega) (by omega)) dL_law_389 ?_
            refine k_top E (a3) (by rw [nI_clamp (by omega)]; exact ha3.symm) ?_
            refine lv_aload_n E.1.1 E.1.2.1 dL_law_390 rfl (lv_at hl 3 rfl) ?_
            refine lv_iload_n E.1.1 E.1.2.1 dL_law_391 rfl (lv_at hl 0 rfl) ?_
            refine lv_iconst (v := nI 4) E.1.1 E.1.2.1 dL_law_392 rfl ?_
            refine k_add E dL_law_393 ?_
            refine va_sld E.1.1 E.1.2.1 hX hbl hbA hw.2.2.1 (vp_in_nI (show (5 * q) + 4 < LN by omega) (by omega)) dL_law_394 ?_
            refine k_top E (a4) (by rw [nI_clamp (by omega)]; exact ha4.symm) ?_
            refine k_mi hw (va_runV (As := [.int a1, .int a2, .int a3, .int a4]) (rest := []) E.1 (p_shrink l D cy Lw f H.size M A base SS kp kb KS hAd hN a1 a2 a3 a4) ⟨callB_of 4 E.1.2.2.2.2 (gd_own w2_95) rfl rfl rfl (E.1.2.2.2.2 _ w1_1) (E.1.2.2.2.2 _ w2_92) hd_X5_shrink (by rw [hR]; exact ⟨Nat.le_of_ble_eq_true rfl, Nat.le_of_ble_eq_true rfl⟩), E.1.2.2.2.2 _ w2_93, E.1.2.2.2.2 _ w2_94⟩ (pw_preV (q := (RX5, TX5, 5)) E.2 hw h_nm rfl) rfl rfl hl.1 rfl (lv_room (Nat.le_of_ble_eq_true rfl)) dL_law_395 ⟨by rw [hR]; dsimp only; omega, by rw [hR]; dsimp only; omega⟩) (fun r Lx f H locs hp hw => ?_)
            refine W.cs (cells' := 25 + 4 * q + 4) (slots' := 5867 + 331 * q + 331) rfl rfl ?_
            obtain ⟨hLn, hfr, SS2, hN2, hsp⟩ := hp
            dsimp only at hLn hfr hN2 hsp
            obtain ⟨r1, hr1⟩ : ∃ X, X = r := ⟨_, rfl⟩
            rw [← hr1] at hsp
            refine k_top E r1 hr1.symm ?_
            have hMo := hMo.keep hLn (fun i hi => hfr _ (hAd.2.2 _ (hZM i hi)) (fun j hj h => hAZ j i hj hi h.symm))
            have hAd := hAd.grow hLn
            have h_nm := hN2.2.1
            obtain ⟨vs, h_mo⟩ := hMo.obj
            refine lv_aload_n E.1.1 E.1.2.1 dL_law_398 rfl (lv_at hl 2 rfl) ?_
            refine lv_aload_n E.1.1 E.1.2.1 dL_law_399 rfl (lv_at hl 3 rfl) ?_
            refine lv_iload_n E.1.1 E.1.2.1 dL_law_400 rfl (lv_at hl 0 rfl) ?_
            refine lv_iconst (v := nI 1) E.1.1 E.1.2.1 dL_law_401 rfl ?_
            refine k_add E dL_law_402 ?_
            refine va_sld E.1.1 E.1.2.1 hX hbl hbA hw.2.2.1 (vp_in_nI (show (5 * q) + 1 < LN by omega) (by omega)) dL_law_403 ?_
            refine k_top E (a1) (by rw [nI_clamp (by omega)]; exact ha1.symm) ?_
            refine lv_aload_n E.1.1 E.1.2.1 dL_law_404 rfl (lv_at hl 3 rfl) ?_
            refine lv_iload_n E.1.1 E.1.2.1 dL_law_405 rfl (lv_at hl 0 rfl) ?_
            refine lv_iconst (v := nI 2) E.1.1 E.1.2.1 dL_law_406 rfl ?_
            refine k_add E dL_law_407 ?_
            refine va_sld E.1.1 E.1.2.1 hX hbl hbA hw.2.2.1 (vp_in_nI (show (5 * q) + 2 < LN by omega) (by omega)) dL_law_408 ?_
            refine k_top E (a2) (by rw [nI_clamp (by omega)]; exact ha2.symm) ?_
            refine lv_aload_n E.1.1 E.1.2.1 dL_law_409 rfl (lv_at hl 3 rfl) ?_
            refine lv_iload_n E.1.1 E.1.2.1 dL_law_410 rfl (lv_at hl 0 rfl) ?_
            refine lv_iconst (v := nI 3) E.1.1 E.1.2.1 dL_law_411 rfl ?_
            refine k_add E dL_law_412 ?_
            refine va_sld E.1.1 E.1.2.1 hX hbl hbA hw.2.2.1 (vp_in_nI (show (5 * q) + 3 < LN by omega) (by omega)) dL_law_413 ?_
            refine k_top E (a3) (by rw [nI_clamp (by omega)]; exact ha3.symm) ?_
            refine lv_aload_n E.1.1 E.1.2.1 dL_law_414 rfl (lv_at hl 3 rfl) ?_
            refine lv_iload_n E.1.1 E.1.2.1 dL_law_415 rfl (lv_at hl 0 rfl) ?_
            refine lv_iconst (v := nI 4) E.1.1 E.1.2.1 dL_law_416 rfl ?_
            refine k_add E dL_law_417 ?_
            refine va_sld E.1.1 E.1.2.1 hX hbl hbA hw.2.2.1 (vp_in_nI (show (5 * q) + 4 < LN by omega) (by omega)) dL_law_418 ?_
            refine k_top E (a4) (by rw [nI_clamp (by omega)]; exact ha4.symm) ?_
            refine k_mi hw (va_runV (As := [.int a1, .int a2, .int a3, .int a4]) (rest := [.int r1]) E.1 (m_shrink l D cy Lx f H.size Z base SS kp kb KS hZA hMo a1 a2 a3 a4) ⟨callB_of 4 E.1.2.2.2.2 (gd_own w3_114) rfl rfl rfl (E.1.2.2.2.2 _ w1_10) (E.1.2.2.2.2 _ w3_111) hd_X6_shrink (by rw [hR]; exact ⟨Nat.le_of_ble_eq_true rfl, Nat.le_of_ble_eq_true rfl⟩), E.1.2.2.2.2 _ w3_112, E.1.2.2.2.2 _ w3_113⟩ (pw_preV (q := (RX6, TX6, 12)) E.2 hw h_mo rfl) rfl rfl hl.1 rfl (lv_room (Nat.le_of_ble_eq_true rfl)) dL_law_419 ⟨by rw [hR]; dsimp only; omega, by rw [hR]; dsimp only; omega⟩) (fun r L1 f H locs hp hw => ?_)
            obtain ⟨hL2, hfr2, SS3, hMo2, hsp2⟩ := hp
            dsimp only at hL2 hfr2 hMo2 hsp2
            subst hL2
            have hN2 := hN2.keep2 (fun _ h => h) (fun i hi => hfr2 _ (hAd.2.2 _ (hAd.1 i hi)) (fun j hj h => hAZ i j hi hj h)) (fun z hz hn => hfr2 z hz (fun j hj h => hn (h ▸ hZM j hj)))
            have hu := sp_un_uni (by omega) hsp hsp2
            obtain ⟨hu, rfl⟩ := hu
            refine lv_icmp_eq (tgt := 757) E.1.1 E.1.2.1 dL_law_422 (by decide) (fun c422 => ?_) (fun c422 => absurd hu c422)
            refine lv_iinc (v := nI (5 * q + 5)) (lv' := [(3, .int (nI (5 * q + 5))), (1, .ref (A 0)), (2, .ref (Z 0)), (0, .ref b)]) E.1.1 E.1.2.1 dL_law_757 hl (k := 0) rfl (nI_add (5 * q) 5) (by decide) rfl (fun ls hl => ?_)
            refine lv_goto (tgt := 18) E.1.1 E.1.2.1 dL_law_760 (by decide) ?_
            rw [show 5 * q + 5 = 5 * (q + 1) by omega] at hl
            refine W.widen (k := 25 + 4 * (q + 1)) (n := 5867 + 331 * (q + 1)) (by omega) (by omega) ?_
            exact ih18 (q + 1) Lx f H locs base SS2 kp kb KS ls (by omega) (by omega) ⟨hAd, hZA, hZM, hAZ, hN2, hMo2⟩ hw (lv_sub hl [0, 1, 2, 3] rfl)
          · refine lv_tableIn (tgt := 427) E.1.1 E.1.2.1 dL_law_32 (by decide) (by decide) (off := 395) (by decide) (by decide) ?_
            refine lv_aload_n E.1.1 E.1.2.1 dL_law_427 rfl (lv_at hl 1 rfl) ?_
            refine lv_aload_n E.1.1 E.1.2.1 dL_law_428 rfl (lv_at hl 3 rfl) ?_
            refine lv_iload_n E.1.1 E.1.2.1 dL_law_429 rfl (lv_at hl 0 rfl) ?_
            refine lv_iconst (v := nI 1) E.1.1 E.1.2.1 dL_law_430 rfl ?_
            refine k_add E dL_law_431 ?_
            refine va_sld E.1.1 E.1.2.1 hX hbl hbA hw.2.2.1 (vp_in_nI (show (5 * q) + 1 < LN by omega) (by omega)) dL_law_432 ?_
            refine k_top E (a1) (by rw [nI_clamp (by omega)]; exact ha1.symm) ?_
            refine lv_aload_n E.1.1 E.1.2.1 dL_law_433 rfl (lv_at hl 3 rfl) ?_
            refine lv_iload_n E.1.1 E.1.2.1 dL_law_434 rfl (lv_at hl 0 rfl) ?_
            refine lv_iconst (v := nI 2) E.1.1 E.1.2.1 dL_law_435 rfl ?_
            refine k_add E dL_law_436 ?_
            refine va_sld E.1.1 E.1.2.1 hX hbl hbA hw.2.2.1 (vp_in_nI (show (5 * q) + 2 < LN by omega) (by omega)) dL_law_437 ?_
            refine k_top E (a2) (by rw [nI_clamp (by omega)]; exact ha2.symm) ?_
            refine k_rip (va_runV (As := [.int a1, .int a2]) (rest := []) E.1 (p_told l D cy Lw f H.size M A base SS kp kb KS hAd hN a1 a2) ⟨callB_of 2 E.1.2.2.2.2 (gd_own w2_103) rfl rfl rfl (E.1.2.2.2.2 _ w1_1) (E.1.2.2.2.2 _ w2_100) hd_X5_told (by rw [hR]; exact ⟨Nat.le_of_ble_eq_true rfl, Nat.le_of_ble_eq_true rfl⟩), E.1.2.2.2.2 _ w2_101, E.1.2.2.2.2 _ w2_102⟩ (pw_preV (q := (RX5, TX5, 5)) E.2 hw h_nm rfl) rfl rfl hl.1 rfl (lv_room (Nat.le_of_ble_eq_true rfl)) dL_law_438 ⟨by rw [hR]; dsimp only; omega, by rw [hR]; dsimp only; omega⟩) (fun r hp => ?_)
            obtain ⟨r1, hr1⟩ : ∃ X, X = r := ⟨_, rfl⟩
            have hsp := hp
            rw [← hr1] at hsp
            refine k_top E r1 hr1.symm ?_
            have hN2 := hN
            refine lv_aload_n E.1.1 E.1.2.1 dL_law_441 rfl (lv_at hl 2 rfl) ?_
            refine lv_aload_n E.1.1 E.1.2.1 dL_law_442 rfl (lv_at hl 3 rfl) ?_
            refine lv_iload_n E.1.1 E.1.2.1 dL_law_443 rfl (lv_at hl 0 rfl) ?_
            refine lv_iconst (v := nI 1) E.1.1 E.1.2.1 dL_law_444 rfl ?_
            refine k_add E dL_law_445 ?_
            refine va_sld E.1.1 E.1.2.1 hX hbl hbA hw.2.2.1 (vp_in_nI (show (5 * q) + 1 < LN by omega) (by omega)) dL_law_446 ?_
            refine k_top E (a1) (by rw [nI_clamp (by omega)]; exact ha1.symm) ?_
            refine lv_aload_n E.1.1 E.1.2.1 dL_law_447 rfl (lv_at hl 3 rfl) ?_
            refine lv_iload_n E.1.1 E.1.2.1 dL_law_448 rfl (lv_at hl 0 rfl) ?_
            refine lv_iconst (v := nI 2) E.1.1 E.1.2.1 dL_law_449 rfl ?_
            refine k_add E dL_law_450 ?_
            refine va_sld E.1.1 E.1.2.1 hX hbl hbA hw.2.2.1 (vp_in_nI (show (5 * q) + 2 < LN by omega) (by omega)) dL_law_451 ?_
            refine k_top E (a2) (by rw [nI_clamp (by omega)]; exact ha2.symm) ?_
            refine k_mi hw (va_runV (As := [.int a1, .int a2]) (rest := [.int r1]) E.1 (m_told l D cy Lw f H.size Z base SS kp kb KS hZA hMo a1 a2) ⟨callB_of 2 E.1.2.2.2.2 (gd_own w3_118) rfl rfl rfl (E.1.2.2.2.2 _ w1_10) (E.1.2.2.2.2 _ w3_115) hd_X6_told (by rw [hR]; exact ⟨Nat.le_of_ble_eq_true rfl, Nat.le_of_ble_eq_true rfl⟩), E.1.2.2.2.2 _ w3_116, E.1.2.2.2.2 _ w3_117⟩ (pw_preV (q := (RX6, TX6, 12)) E.2 hw h_mo rfl) rfl rfl hl.1 rfl (lv_room (Nat.le_of_ble_eq_true rfl)) dL_law_452 ⟨by rw [hR]; dsimp only; omega, by rw [hR]; dsimp only; omega⟩) (fun r L1 f H locs hp hw => ?_)
            obtain ⟨hL2, hfr2, hMo2, hsp2⟩ := hp
            dsimp only at hL2 hfr2 hMo2 hsp2
            subst hL2
            have hN2 := hN2.keep2 (fun _ h => h) (fun i hi => hfr2 _ (hAd.2.2 _ (hAd.1 i hi)) (fun j hj h => hAZ i j hi hj h)) (fun z hz hn => hfr2 z hz (fun j hj h => hn (h ▸ hZM j hj)))
            have hu := rd_told_uni (by omega) hsp hsp2
            refine lv_icmp_eq (tgt := 757) E.1.1 E.1.2.1 dL_law_455 (by decide) (fun c455 => ?_) (fun c455 => absurd hu c455)
            refine lv_iinc (v := nI (5 * q + 5)) (lv' := [(3, .int (nI (5 * q + 5))), (1, .ref (A 0)), (2, .ref (Z 0)), (0, .ref b)]) E.1.1 E.1.2.1 dL_law_757 hl (k := 0) rfl (nI_add (5 * q) 5) (by decide) rfl (fun ls hl => ?_)
            refine lv_goto (tgt := 18) E.1.1 E.1.2.1 dL_law_760 (by decide) ?_
            rw [show 5 * q + 5 = 5 * (q + 1) by omega] at hl
            refine W.widen (k := 25 + 4 * (q + 1)) (n := 5867 + 331 * (q + 1)) (by omega) (by omega) ?_
            exact ih18 (q + 1) Lw f H locs base SS kp kb KS ls (by omega) (by omega) ⟨hAd, hZA, hZM, hAZ, hN2, hMo2⟩ hw (lv_sub hl [0, 1, 2, 3] rfl)
          · refine lv_tableIn (tgt := 460) E.1.1 E.1.2.1 dL_law_32 (by decide) (by decide) (off := 428) (by decide) (by decide) ?_
            refine lv_aload_n E.1.1 E.1.2.1 dL_law_460 rfl (lv_at hl 1 rfl) ?_
            refine lv_aload_n E.1.1 E.1.2.1 dL_law_461 rfl (lv_at hl 3 rfl) ?_
            refine lv_iload_n E.1.1 E.1.2.1 dL_law_462 rfl (lv_at hl 0 rfl) ?_
            refine lv_iconst (v := nI 1) E.1.1 E.1.2.1 dL_law_463 rfl ?_
            refine k_add E dL_law_464 ?_
            refine va_sld E.1.1 E.1.2.1 hX hbl hbA hw.2.2.1 (vp_in_nI (show (5 * q) + 1 < LN by omega) (by omega)) dL_law_465 ?_
            refine k_top E (a1) (by rw [nI_clamp (by omega)]; exact ha1.symm) ?_
            refine lv_aload_n E.1.1 E.1.2.1 dL_law_466 rfl (lv_at hl 3 rfl) ?_
            refine lv_iload_n E.1.1 E.1.2.1 dL_law_467 rfl (lv_at hl 0 rfl) ?_
            refine lv_iconst (v := nI 2) E.1.1 E.1.2.1 dL_law_468 rfl ?_
            refine k_add E dL_law_469 ?_
            refine va_sld E.1.1 E.1.2.1 hX hbl hbA hw.2.2.1 (vp_in_nI (show (5 * q) + 2 < LN by omega) (by omega)) dL_law_470 ?_
            refine k_top E (a2) (by rw [nI_clamp (by omega)]; exact ha2.symm) ?_
            refine lv_aload_n E.1.1 E.1.2.1 dL_law_471 rfl (lv_at hl 3 rfl) ?_
            refine lv_iload_n E.1.1 E.1.2.1 dL_law_472 rfl (lv_at hl 0 rfl) ?_
            refine lv_iconst (v := nI 3) E.1.1 E.1.2.1 dL_law_473 rfl ?_
            refine k_add E dL_law_474 ?_
            refine va_sld E.1.1 E.1.2.1 hX hbl hbA hw.2.2.1 (vp_in_nI (show (5 * q) + 3 < LN by omega) (by omega)) dL_law_475 ?_
            refine k_top E (a3) (by rw [nI_clamp (by omega)]; exact ha3.symm) ?_
            refine k_rip (va_runV (As := [.int a1, .int a2, .int a3]) (rest := []) E.1 (p_state l D cy Lw f H.size M A base SS kp kb KS hAd hN a1 a2 a3) ⟨callB_of 3 E.1.2.2.2.2 (gd_own w2_121) rfl rfl rfl (E.1.2.2.2.2 _ w1_1) (E.1.2.2.2.2 _ w2_118) hd_X5_state (by rw [hR]; exact ⟨Nat.le_of_ble_eq_true rfl, Nat.le_of_ble_eq_true rfl⟩), E.1.2.2.2.2 _ w2_119, E.1.2.2.2.2 _ w2_120⟩ (pw_preV (q := (RX5, TX5, 5)) E.2 hw h_nm rfl) rfl rfl hl.1 rfl (lv_room (Nat.le_of_ble_eq_true rfl)) dL_law_476 ⟨by rw [hR]; dsimp only; omega, by rw [hR]; dsimp only; omega⟩) (fun r hp => ?_)
            obtain ⟨r1, hr1⟩ : ∃ X, X = r := ⟨_, rfl⟩
            have hsp := hp
            rw [← hr1] at hsp
            refine k_top E r1 hr1.symm ?_
            have hN2 := hN
            refine lv_aload_n E.1.1 E.1.2.1 dL_law_479 rfl (lv_at hl 2 rfl) ?_
            refine lv_aload_n E.1.1 E.1.2.1 dL_law_480 rfl (lv_at hl 3 rfl) ?_
            refine lv_iload_n E.1.1 E.1.2.1 dL_law_481 rfl (lv_at hl 0 rfl) ?_
            refine lv_iconst (v := nI 1) E.1.1 E.1.2.1 dL_law_482 rfl ?_
            refine k_add E dL_law_483 ?_
            refine va_sld E.1.1 E.1.2.1 hX hbl hbA hw.2.2.1 (vp_in_nI (show (5 * q) + 1 < LN by omega) (by omega)) dL_law_484 ?_
            refine k_top E (a1) (by rw [nI_clamp (by omega)]; exact ha1.symm) ?_
            refine lv_aload_n E.1.1 E.1.2.1 dL_law_485 rfl (lv_at hl 3 rfl) ?_
            refine lv_iload_n E.1.1 E.1.2.1 dL_law_486 rfl (lv_at hl 0 rfl) ?_
            refine lv_iconst (v := nI 2) E.1.1 E.1.2.1 dL_law_487 rfl ?_
            refine k_add E dL_law_488 ?_
            refine va_sld E.1.1 E.1.2.1 hX hbl hbA hw.2.2.1 (vp_in_nI (show (5 * q) + 2 < LN by omega) (by omega)) dL_law_489 ?_
            refine k_top E (a2) (by rw [nI_clamp (by omega)]; exact ha2.symm) ?_
            refine lv_aload_n E.1.1 E.1.2.1 dL_law_490 rfl (lv_at hl 3 rfl) ?_
            refine lv_iload_n E.1.1 E.1.2.1 dL_law_491 rfl (lv_at hl 0 rfl) ?_
            refine lv_iconst (v := nI 3) E.1.1 E.1.2.1 dL_law_492 rfl ?_
            refine k_add E dL_law_493 ?_
            refine va_sld E.1.1 E.1.2.1 hX hbl hbA hw.2.2.1 (vp_in_nI (show (5 * q) + 3 < LN by omega) (by omega)) dL_law_494 ?_
            refine k_top E (a3) (by rw [nI_clamp (by omega)]; exact ha3.symm) ?_
            refine k_mi hw (va_runV (As := [.int a1, .int a2, .int a3]) (rest := [.int r1]) E.1 (m_state l D cy Lw f H.size Z base SS kp kb KS hZA hMo a1 a2 a3) ⟨callB_of 3 E.1.2.2.2.2 (gd_own w3_130) rfl rfl rfl (E.1.2.2.2.2 _ w1_10) (E.1.2.2.2.2 _ w3_127) hd_X6_state (by rw [hR]; exact ⟨Nat.le_of_ble_eq_true rfl, Nat.le_of_ble_eq_true rfl⟩), E.1.2.2.2.2 _ w3_128, E.1.2.2.2.2 _ w3_129⟩ (pw_preV (q := (RX6, TX6, 12)) E.2 hw h_mo rfl) rfl rfl hl.1 rfl (lv_room (Nat.le_of_ble_eq_true rfl)) dL_law_495 ⟨by rw [hR]; dsimp only; omega, by rw [hR]; dsimp only; omega⟩) (fun r L1 f H locs hp hw => ?_)
            obtain ⟨hL2, hfr2, hMo2, hsp2⟩ := hp
            dsimp only at hL2 hfr2 hMo2 hsp2
            subst hL2
            have hN2 := hN2.keep2 (fun _ h => h) (fun i hi => hfr2 _ (hAd.2.2 _ (hAd.1 i hi)) (fun j hj h => hAZ i j hi hj h)) (fun z hz hn => hfr2 z hz (fun j hj h => hn (h ▸ hZM j hj)))
            have hu := rd_state_uni (by omega) hsp hsp2
            refine lv_icmp_eq (tgt := 757) E.1.1 E.1.2.1 dL_law_498 (by decide) (fun c498 => ?_) (fun c498 => absurd hu c498)
            refine lv_iinc (v := nI (5 * q + 5)) (lv' := [(3, .int (nI (5 * q + 5))), (1, .ref (A 0)), (2, .ref (Z 0)), (0, .ref b)]) E.1.1 E.1.2.1 dL_law_757 hl (k := 0) rfl (nI_add (5 * q) 5) (by decide) rfl (fun ls hl => ?_)
            refine lv_goto (tgt := 18) E.1.1 E.1.2.1 dL_law_760 (by decide) ?_
            rw [show 5 * q + 5 = 5 * (q + 1) by omega] at hl
            refine W.widen (k := 25 + 4 * (q + 1)) (n := 5867 + 331 * (q + 1)) (by omega) (by omega) ?_
            exact ih18 (q + 1) Lw f H locs base SS kp kb KS ls (by omega) (by omega) ⟨hAd, hZA, hZM, hAZ, hN2, hMo2⟩ hw (lv_sub hl [0, 1, 2, 3] rfl)
          · refine lv_tableIn (tgt := 503) E.1.1 E.1.2.1 dL_law_32 (by decide) (by decide) (off := 471) (by decide) (by decide) ?_
            refine lv_aload_n E.1.1 E.1.2.1 dL_law_503 rfl (lv_at hl 1 rfl) ?_
            refine lv_aload_n E.1.1 E.1.2.1 dL_law_504 rfl (lv_at hl 3 rfl) ?_
            refine lv_iload_n E.1.1 E.1.2.1 dL_law_505 rfl (lv_at hl 0 rfl) ?_
            refine lv_iconst (v := nI 1) E.1.1 E.1.2.1 dL_law_506 rfl ?_
            refine k_add E dL_law_507 ?_
            refine va_sld E.1.1 E.1.2.1 hX hbl hbA hw.2.2.1 (vp_in_nI (show (5 * q) + 1 < LN by omega) (by omega)) dL_law_508 ?_
            refine k_top E (a1) (by rw [nI_clamp (by omega)]; exact ha1.symm) ?_
            refine lv_aload_n E.1.1 E.1.2.1 dL_law_509 rfl (lv_at hl 3 rfl) ?_
            refine lv_iload_n E.1.1 E.1.2.1 dL_law_510 rfl (lv_at hl 0 rfl) ?_
            refine lv_iconst (v := nI 2) E.1.1 E.1.2.1 dL_law_511 rfl ?_
            refine k_add E dL_law_512 ?_
            refine va_sld E.1.1 E.1.2.1 hX hbl hbA hw.2.2.1 (vp_in_nI (show (5 * q) + 2 < LN by omega) (by omega)) dL_law_513 ?_
            refine k_top E (a2) (by rw [nI_clamp (by omega)]; exact ha2.symm) ?_
            refine lv_aload_n E.1.1 E.1.2.1 dL_law_514 rfl (lv_at hl 3 rfl) ?_
            refine lv_iload_n E.1.1 E.1.2.1 dL_law_515 rfl (lv_at hl 0 rfl) ?_
            refine lv_iconst (v := nI 3) E.1.1 E.1.2.1 dL_law_516 rfl ?_
            refine k_add E dL_law_517 ?_
            refine va_sld E.1.1 E.1.2.1 hX hbl hbA hw.2.2.1 (vp_in_nI (show (5 * q) + 3 < LN by omega) (by omega)) dL_law_518 ?_
            refine k_top E (a3) (by rw [nI_clamp (by omega)]; exact ha3.symm) ?_
            refine k_rip (va_runV (As := [.int a1, .int a2, .int a3]) (rest := []) E.1 (p_walk l D cy Lw f H.size M A base SS kp kb KS hAd hN a1 a2 a3) ⟨callB_of 3 E.1.2.2.2.2 (gd_own w2_145) rfl rfl rfl (E.1.2.2.2.2 _ w1_1) (E.1.2.2.2.2 _ w2_142) hd_X5_walk (by rw [hR]; exact ⟨Nat.le_of_ble_eq_true rfl, Nat.le_of_ble_eq_true rfl⟩), E.1.2.2.2.2 _ w2_143, E.1.2.2.2.2 _ w2_144⟩ (pw_preV (q := (RX5, TX5, 5)) E.2 hw h_nm rfl) rfl rfl hl.1 rfl (lv_room (Nat.le_of_ble_eq_true rfl)) dL_law_519 ⟨by rw [hR]; dsimp only; omega, by rw [hR]; dsimp only; omega⟩) (fun r hp => ?_)
            obtain ⟨r1, hr1⟩ : ∃ X, X = r := ⟨_, rfl⟩
            have hsp := hp
            rw [← hr1] at hsp
            refine k_top E r1 hr1.symm ?_
            have hN2 := hN
            refine lv_aload_n E.1.1 E.1.2.1 dL_law_522 rfl (lv_at hl 2 rfl) ?_
            refine lv_aload_n E.1.1 E.1.2.1 dL_law_523 rfl (lv_at hl 3 rfl) ?_
            refine lv_iload_n E.1.1 E.1.2.1 dL_law_524 rfl (lv_at hl 0 rfl) ?_
            refine lv_iconst (v := nI 1) E.1.1 E.1.2.1 dL_law_525 rfl ?_
            refine k_add E dL_law_526 ?_
            refine va_sld E.1.1 E.1.2.1 hX hbl hbA hw.2.2.1 (vp_in_nI (show (5 * q) + 1 < LN by omega) (by omega)) dL_law_527 ?_
            refine k_top E (a1) (by rw [nI_clamp (by omega)]; exact ha1.symm) ?_
            refine lv_aload_n E.1.1 E.1.2.1 dL_law_528 rfl (lv_at hl 3 rfl) ?_
            refine lv_iload_n E.1.1 E.1.2.1 dL_law_529 rfl (lv_at hl 0 rfl) ?_
            refine lv_iconst (v := nI 2) E.1.1 E.1.2.1 dL_law_530 rfl ?_
            refine k_add E dL_law_531 ?_
            refine va_sld E.1.1 E.1.2.1 hX hbl hbA hw.2.2.1 (vp_in_nI (show (5 * q) + 2 < LN by omega) (by omega)) dL_law_532 ?_
            refine k_top E (a2) (by rw [nI_clamp (by omega)]; exact ha2.symm) ?_
            refine lv_aload_n E.1.1 E.1.2.1 dL_law_533 rfl (lv_at hl 3 rfl) ?_
            refine lv_iload_n E.1.1 E.1.2.1 dL_law_534 rfl (lv_at hl 0 rfl) ?_
            refine lv_iconst (v := nI 3) E.1.1 E.1.2.1 dL_law_535 rfl ?_
            refine k_add E dL_law_536 ?_
            refine va_sld E.1.1 E.1.2.1 hX hbl hbA hw.2.2.1 (vp_in_nI (show (5 * q) + 3 < LN by omega) (by omega)) dL_law_537 ?_
            refine k_top E (a3) (by rw [nI_clamp (by omega)]; exact ha3.symm) ?_
            refine k_mi hw (va_runV (As := [.int a1, .int a2, .int a3]) (rest := [.int r1]) E.1 (m_walk l D cy Lw f H.size Z base SS kp kb KS hZA hMo a1 a2 a3) ⟨callB_of 3 E.1.2.2.2.2 (gd_own w3_138) rfl rfl rfl (E.1.2.2.2.2 _ w1_10) (E.1.2.2.2.2 _ w3_135) hd_X6_walk (by rw [hR]; exact ⟨Nat.le_of_ble_eq_true rfl, Nat.le_of_ble_eq_true rfl⟩), E.1.2.2.2.2 _ w3_136, E.1.2.2.2.2 _ w3_137⟩ (pw_preV (q := (RX6, TX6, 12)) E.2 hw h_mo rfl) rfl rfl hl.1 rfl (lv_room (Nat.le_of_ble_eq_true rfl)) dL_law_538 ⟨by rw [hR]; dsimp only; omega, by rw [hR]; dsimp only; omega⟩) (fun r L1 f H locs hp hw => ?_)
            obtain ⟨hL2, hfr2, hMo2, hsp2⟩ := hp
            dsimp only at hL2 hfr2 hMo2 hsp2
            subst hL2
            have hN2 := hN2.keep2 (fun _ h => h) (fun i hi => hfr2 _ (hAd.2.2 _ (hAd.1 i hi)) (fun j hj h => hAZ i j hi hj h)) (fun z hz hn => hfr2 z hz (fun j hj h => hn (h ▸ hZM j hj)))
            have hu := rd_walk_uni (by omega) hsp hsp2
            refine lv_icmp_eq (tgt := 757) E.1.1 E.1.2.1 dL_law_541 (by decide) (fun c541 => ?_) (fun c541 => absurd hu c541)
            refine lv_iinc (v := nI (5 * q + 5)) (lv' := [(3, .int (nI (5 * q + 5))), (1, .ref (A 0)), (2, .ref (Z 0)), (0, .ref b)]) E.1.1 E.1.2.1 dL_law_757 hl (k := 0) rfl (nI_add (5 * q) 5) (by decide) rfl (fun ls hl => ?_)
            refine lv_goto (tgt := 18) E.1.1 E.1.2.1 dL_law_760 (by decide) ?_
            rw [show 5 * q + 5 = 5 * (q + 1) by omega] at hl
            refine W.widen (k := 25 + 4 * (q + 1)) (n := 5867 + 331 * (q + 1)) (by omega) (by omega) ?_
            exact ih18 (q + 1) Lw f H locs base SS kp kb KS ls (by omega) (by omega) ⟨hAd, hZA, hZM, hAZ, hN2, hMo2⟩ hw (lv_sub hl [0, 1, 2, 3] rfl)
          · refine lv_tableIn (tgt := 546) E.1.1 E.1.2.1 dL_law_32 (by decide) (by decide) (off := 514) (by decide) (by decide) ?_
            refine lv_aload_n E.1.1 E.1.2.1 dL_law_546 rfl (lv_at hl 1 rfl) ?_
            refine lv_aload_n E.1.1 E.1.2.1 dL_law_547 rfl (lv_at hl 3 rfl) ?_
            refine lv_iload_n E.1.1 E.1.2.1 dL_law_548 rfl (lv_at hl 0 rfl) ?_
            refine lv_iconst (v := nI 1) E.1.1 E.1.2.1 dL_law_549 rfl ?_
            refine k_add E dL_law_550 ?_
            refine va_sld E.1.1 E.1.2.1 hX hbl hbA hw.2.2.1 (vp_in_nI (show (5 * q) + 1 < LN by omega) (by omega)) dL_law_551 ?_
            refine k_top E (a1) (by rw [nI_clamp (by omega)]; exact ha1.symm) ?_
            refine lv_aload_n E.1.1 E.1.2.1 dL_law_552 rfl (lv_at hl 3 rfl) ?_
            refine lv_iload_n E.1.1 E.1.2.1 dL_law_553 rfl (lv_at hl 0 rfl) ?_
            refine lv_iconst (v := nI 2) E.1.1 E.1.2.1 dL_law_554 rfl ?_
            refine k_add E dL_law_555 ?_
            refine va_sld E.1.1 E.1.2.1 hX hbl hbA hw.2.2.1 (vp_in_nI (show (5 * q) + 2 < LN by omega) (by omega)) dL_law_556 ?_
            refine k_top E (a2) (by rw [nI_clamp (by omega)]; exact ha2.symm) ?_
            refine k_rip (va_runV (As := [.int a1, .int a2]) (rest := []) E.1 (p_has l D cy Lw f H.size M A base SS kp kb KS hAd hN a1 a2) ⟨callB_of 2 E.1.2.2.2.2 (gd_own w2_153) rfl rfl rfl (E.1.2.2.2.2 _ w1_1) (E.1.2.2.2.2 _ w2_150) hd_X5_has (by rw [hR]; exact ⟨Nat.le_of_ble_eq_true rfl, Nat.le_of_ble_eq_true rfl⟩), E.1.2.2.2.2 _ w2_151, E.1.2.2.2.2 _ w2_152⟩ (pw_preV (q := (RX5, TX5, 5)) E.2 hw h_nm rfl) rfl rfl hl.1 rfl (lv_room (Nat.le_of_ble_eq_true rfl)) dL_law_557 ⟨by rw [hR]; dsimp only; omega, by rw [hR]; dsimp only; omega⟩) (fun r hp => ?_)
            obtain ⟨r1, hr1⟩ : ∃ X, X = r := ⟨_, rfl⟩
            have hsp := hp
            rw [← hr1] at hsp
            refine k_top E r1 hr1.symm ?_
            have hN2 := hN
            refine lv_aload_n E.1.1 E.1.2.1 dL_law_560 rfl (lv_at hl 2 rfl) ?_
            refine lv_aload_n E.1.1 E.1.2.1 dL_law_561 rfl (lv_at hl 3 rfl) ?_
            refine lv_iload_n E.1.1 E.1.2.1 dL_law_562 rfl (lv_at hl 0 rfl) ?_
            refine lv_iconst (v := nI 1) E.1.1 E.1.2.1 dL_law_563 rfl ?_
            refine k_add E dL_law_564 ?_
            refine va_sld E.1.1 E.1.2.1 hX hbl hbA hw.2.2.1 (vp_in_nI (show (5 * q) + 1 < LN by omega) (by omega)) dL_law_565 ?_
            refine k_top E (a1) (by rw [nI_clamp (by omega)]; exact ha1.symm) ?_
            refine lv_aload_n E.1.1 E.1.2.1 dL_law_566 rfl (lv_at hl 3 rfl) ?_
            refine lv_iload_n E.1.1 E.1.2.1 dL_law_567 rfl (lv_at hl 0 rfl) ?_
            refine lv_iconst (v := nI 2) E.1.1 E.1.2.1 dL_law_568 rfl ?_
            refine k_add E dL_law_569 ?_
            refine va_sld E.1.1 E.1.2.1 hX hbl hbA hw.2.2.1 (vp_in_nI (show (5 * q) + 2 < LN by omega) (by omega)) dL_law_570 ?_
            refine k_top E (a2) (by rw [nI_clamp (by omega)]; exact ha2.symm) ?_
            refine k_mi hw (va_runV (As := [.int a1, .int a2]) (rest := [.int r1]) E.1 (m_has l D cy Lw f H.size Z base SS kp kb KS hZA hMo a1 a2) ⟨callB_of 2 E.1.2.2.2.2 (gd_own w3_142) rfl rfl rfl (E.1.2.2.2.2 _ w1_10) (E.1.2.2.2.2 _ w3_139) hd_X6_has (by rw [hR]; exact ⟨Nat.le_of_ble_eq_true rfl, Nat.le_of_ble_eq_true rfl⟩), E.1.2.2.2.2 _ w3_140, E.1.2.2.2.2 _ w3_141⟩ (pw_preV (q := (RX6, TX6, 12)) E.2 hw h_mo rfl) rfl rfl hl.1 rfl (lv_room (Nat.le_of_ble_eq_true rfl)) dL_law_571 ⟨by rw [hR]; dsimp only; omega, by rw [hR]; dsimp only; omega⟩) (fun r L1 f H locs hp hw => ?_)
            obtain ⟨hL2, hfr2, hMo2, hsp2⟩ := hp
            dsimp only at hL2 hfr2 hMo2 hsp2
            subst hL2
            have hN2 := hN2.keep2 (fun _ h => h) (fun i hi => hfr2 _ (hAd.2.2 _ (hAd.1 i hi)) (fun j hj h => hAZ i j hi hj h)) (fun z hz hn => hfr2 z hz (fun j hj h => hn (h ▸ hZM j hj)))
            have hu := rd_has_uni hsp hsp2
            refine lv_icmp_eq (tgt := 757) E.1.1 E.1.2.1 dL_law_574 (by decide) (fun c574 => ?_) (fun c574 => absurd hu c574)
            refine lv_iinc (v := nI (5 * q + 5)) (lv' := [(3, .int (nI (5 * q + 5))), (1, .ref (A 0)), (2, .ref (Z 0)), (0, .ref b)]) E.1.1 E.1.2.1 dL_law_757 hl (k := 0) rfl (nI_add (5 * q) 5) (by decide) rfl (fun ls hl => ?_)
            refine lv_goto (tgt := 18) E.1.1 E.1.2.1 dL_law_760 (by decide) ?_
            rw [show 5 * q + 5 = 5 * (q + 1) by omega] at hl
            refine W.widen (k := 25 + 4 * (q + 1)) (n := 5867 + 331 * (q + 1)) (by omega) (by omega) ?_
            exact ih18 (q + 1) Lw f H locs base SS kp kb KS ls (by omega) (by omega) ⟨hAd, hZA, hZM, hAZ, hN2, hMo2⟩ hw (lv_sub hl [0, 1, 2, 3] rfl)
          · refine lv_tableIn (tgt := 579) E.1.1 E.1.2.1 dL_law_32 (by decide) (by decide) (off := 547) (by decide) (by decide) ?_
            refine lv_aload_n E.1.1 E.1.2.1 dL_law_579 rfl (lv_at hl 1 rfl) ?_
            refine lv_aload_n E.1.1 E.1.2.1 dL_law_580 rfl (lv_at hl 3 rfl) ?_
            refine lv_iload_n E.1.1 E.1.2.1 dL_law_581 rfl (lv_at hl 0 rfl) ?_
            refine lv_iconst (v := nI 1) E.1.1 E.1.2.1 dL_law_582 rfl ?_
            refine k_add E dL_law_583 ?_
            refine va_sld E.1.1 E.1.2.1 hX hbl hbA hw.2.2.1 (vp_in_nI (show (5 * q) + 1 < LN by omega) (by omega)) dL_law_584 ?_
            refine k_top E (a1) (by rw [nI_clamp (by omega)]; exact ha1.symm) ?_
            refine lv_aload_n E.1.1 E.1.2.1 dL_law_585 rfl (lv_at hl 3 rfl) ?_
            refine lv_iload_n E.1.1 E.1.2.1 dL_law_586 rfl (lv_at hl 0 rfl) ?_
            refine lv_iconst (v := nI 2) E.1.1 E.1.2.1 dL_law_587 rfl ?_
            refine k_add E dL_law_588 ?_
            refine va_sld E.1.1 E.1.2.1 hX hbl hbA hw.2.2.1 (vp_in_nI (show (5 * q) + 2 < LN by omega) (by omega)) dL_law_589 ?_
            refine k_top E (a2) (by rw [nI_clamp (by omega)]; exact ha2.symm) ?_
            refine k_rip (va_runV (As := [.int a1, .int a2]) (rest := []) E.1 (p_next l D cy Lw f H.size M A base SS kp kb KS hAd hN a1 a2) ⟨callB_of 2 E.1.2.2.2.2 (gd_own w2_158) rfl rfl rfl (E.1.2.2.2.2 _ w1_1) (E.1.2.2.2.2 _ w2_155) hd_X5_next (by rw [hR]; exact ⟨Nat.le_of_ble_eq_true rfl, Nat.le_of_ble_eq_true rfl⟩), E.1.2.2.2.2 _ w2_156, E.1.2.2.2.2 _ w2_157⟩ (pw_preV (q := (RX5, TX5, 5)) E.2 hw h_nm rfl) rfl rfl hl.1 rfl (lv_room (Nat.le_of_ble_eq_true rfl)) dL_law_590 ⟨by rw [hR]; dsimp only; omega, by rw [hR]; dsimp only; omega⟩) (fun r hp => ?_)
            obtain ⟨r1, hr1⟩ : ∃ X, X = r := ⟨_, rfl⟩
            have hsp := hp
            rw [← hr1] at hsp
            refine k_top E r1 hr1.symm ?_
            have hN2 := hN
            refine lv_aload_n E.1.1 E.1.2.1 dL_law_593 rfl (lv_at hl 2 rfl) ?_
            refine lv_aload_n E.1.1 E.1.2.1 dL_law_594 rfl (lv_at hl 3 rfl) ?_
            refine lv_iload_n E.1.1 E.1.2.1 dL_law_595 rfl (lv_at hl 0 rfl) ?_
            refine lv_iconst (v := nI 1) E.1.1 E.1.2.1 dL_law_596 rfl ?_
            refine k_add E dL_law_597 ?_
            refine va_sld E.1.1 E.1.2.1 hX hbl hbA hw.2.2.1 (vp_in_nI (show (5 * q) + 1 < LN by omega) (by omega)) dL_law_598 ?_
            refine k_top E (a1) (by rw [nI_clamp (by omega)]; exact ha1.symm) ?_
            refine lv_aload_n E.1.1 E.1.2.1 dL_law_599 rfl (lv_at hl 3 rfl) ?_
            refine lv_iload_n E.1.1 E.1.2.1 dL_law_600 rfl (lv_at hl 0 rfl) ?_
            refine lv_iconst (v := nI 2) E.1.1 E.1.2.1 dL_law_601 rfl ?_
            refine k_add E dL_law_602 ?_
            refine va_sld E.1.1 E.1.2.1 hX hbl hbA hw.2.2.1 (vp_in_nI (show (5 * q) + 2 < LN by omega) (by omega)) dL_law_603 ?_
            refine k_top E (a2) (by rw [nI_clamp (by omega)]; exact ha2.symm) ?_
            refine k_mi hw (va_runV (As := [.int a1, .int a2]) (rest := [.int r1]) E.1 (m_next l D cy Lw f H.size Z base SS kp kb KS hZA hMo a1 a2) ⟨callB_of 2 E.1.2.2.2.2 (gd_own w3_147) rfl rfl rfl (E.1.2.2.2.2 _ w1_10) (E.1.2.2.2.2 _ w3_144) hd_X6_next (by rw [hR]; exact ⟨Nat.le_of_ble_eq_true rfl, Nat.le_of_ble_eq_true rfl⟩), E.1.2.2.2.2 _ w3_145, E.1.2.2.2.2 _ w3_146⟩ (pw_preV (q := (RX6, TX6, 12)) E.2 hw h_mo rfl) rfl rfl hl.1 rfl (lv_room (Nat.le_of_ble_eq_true rfl)) dL_law_604 ⟨by rw [hR]; dsimp only; omega, by rw [hR]; dsimp only; omega⟩) (fun r L1 f H locs hp hw => ?_)
            obtain ⟨hL2, hfr2, hMo2, hsp2⟩ := hp
            dsimp only at hL2 hfr2 hMo2 hsp2
            subst hL2
            have hN2 := hN2.keep2 (fun _ h => h) (fun i hi => hfr2 _ (hAd.2.2 _ (hAd.1 i hi)) (fun j hj h => hAZ i j hi hj h)) (fun z hz hn => hfr2 z hz (fun j hj h => hn (h ▸ hZM j hj)))
            have hu := rd_next_uni hsp hsp2
            refine lv_icmp_eq (tgt := 757) E.1.1 E.1.2.1 dL_law_607 (by decide) (fun c607 => ?_) (fun c607 => absurd hu c607)
            refine lv_iinc (v := nI (5 * q + 5)) (lv' := [(3, .int (nI (5 * q + 5))), (1, .ref (A 0)), (2, .ref (Z 0)), (0, .ref b)]) E.1.1 E.1.2.1 dL_law_757 hl (k := 0) rfl (nI_add (5 * q) 5) (by decide) rfl (fun ls hl => ?_)
            refine lv_goto (tgt := 18) E.1.1 E.1.2.1 dL_law_760 (by decide) ?_
            rw [show 5 * q + 5 = 5 * (q + 1) by omega] at hl
            refine W.widen (k := 25 + 4 * (q + 1)) (n := 5867 + 331 * (q + 1)) (by omega) (by omega) ?_
            exact ih18 (q + 1) Lw f H locs base SS kp kb KS ls (by omega) (by omega) ⟨hAd, hZA, hZM, hAZ, hN2, hMo2⟩ hw (lv_sub hl [0, 1, 2, 3] rfl)
          · refine lv_tableIn (tgt := 612) E.1.1 E.1.2.1 dL_law_32 (by decide) (by decide) (off := 580) (by decide) (by decide) ?_
            refine lv_aload_n E.1.1 E.1.2.1 dL_law_612 rfl (lv_at hl 1 rfl) ?_
            refine lv_aload_n E.1.1 E.1.2.1 dL_law_613 rfl (lv_at hl 3 rfl) ?_
            refine lv_iload_n E.1.1 E.1.2.1 dL_law_614 rfl (lv_at hl 0 rfl) ?_
            refine lv_iconst (v := nI 1) E.1.1 E.1.2.1 dL_law_615 rfl ?_
            refine k_add E dL_law_616 ?_
            refine va_sld E.1.1 E.1.2.1 hX hbl hbA hw.2.2.1 (vp_in_nI (show (5 * q) + 1 < LN by omega) (by omega)) dL_law_617 ?_
            refine k_top E (a1) (by rw [nI_clamp (by omega)]; exact ha1.symm) ?_
            refine lv_aload_n E.1.1 E.1.2.1 dL_law_618 rfl (lv_at hl 3 rfl) ?_
            refine lv_iload_n E.1.1 E.1.2.1 dL_law_619 rfl (lv_at hl 0 rfl) ?_
            refine lv_iconst (v := nI 2) E.1.1 E.1.2.1 dL_law_620 rfl ?_
            refine k_add E dL_law_621 ?_
            refine va_sld E.1.1 E.1.2.1 hX hbl hbA hw.2.2.1 (vp_in_nI (show (5 * q) + 2 < LN by omega) (by omega)) dL_law_622 ?_
            refine k_top E (a2) (by rw [nI_clamp (by omega)]; exact ha2.symm) ?_
            refine k_rip (va_runV (As := [.int a1, .int a2]) (rest := []) E.1 (p_below l D cy Lw f H.size M A base SS kp kb KS hAd hN a1 a2) ⟨callB_of 2 E.1.2.2.2.2 (gd_own w2_167) rfl rfl rfl (E.1.2.2.2.2 _ w1_1) (E.1.2.2.2.2 _ w2_164) hd_X5_below (by rw [hR]; exact ⟨Nat.le_of_ble_eq_true rfl, Nat.le_of_ble_eq_true rfl⟩), E.1.2.2.2.2 _ w2_165, E.1.2.2.2.2 _ w2_166⟩ (pw_preV (q := (RX5, TX5, 5)) E.2 hw h_nm rfl) rfl rfl hl.1 rfl (lv_room (Nat.le_of_ble_eq_true rfl)) dL_law_623 ⟨by rw [hR]; dsimp only; omega, by rw [hR]; dsimp only; omega⟩) (fun r hp => ?_)
            obtain ⟨r1, hr1⟩ : ∃ X, X = r := ⟨_, rfl⟩
            have hsp := hp
            rw [← hr1] at hsp
            refine k_top E r1 hr1.symm ?_
            have hN2 := hN
            refine lv_aload_n E.1.1 E.1.2.1 dL_law_626 rfl (lv_at hl 2 rfl) ?_
            refine lv_aload_n E.1.1 E.1.2.1 dL_law_627 rfl (lv_at hl 3 rfl) ?_
            refine lv_iload_n E.1.1 E.1.2.1 dL_law_628 rfl (lv_at hl 0 rfl) ?_
            refine lv_iconst (v := nI 1) E.1.1 E.1.2.1 dL_law_629 rfl ?_
            refine k_add E dL_law_630 ?_
            refine va_sld E.1.1 E.1.2.1 hX hbl hbA hw.2.2.1 (vp_in_nI (show (5 * q) + 1 < LN by omega) (by omega)) dL_law_631 ?_
            refine k_top E (a1) (by rw [nI_clamp (by omega)]; exact ha1.symm) ?_
            refine lv_aload_n E.1.1 E.1.2.1 dL_law_632 rfl (lv_at hl 3 rfl) ?_
            refine lv_iload_n E.1.1 E.1.2.1 dL_law_633 rfl (lv_at hl 0 rfl) ?_
            refine lv_iconst (v := nI 2) E.1.1 E.1.2.1 dL_law_634 rfl ?_
            refine k_add E dL_law_635 ?_
            refine va_sld E.1.1 E.1.2.1 hX hbl hbA hw.2.2.1 (vp_in_nI (show (5 * q) + 2 < LN by omega) (by omega)) dL_law_636 ?_
            refine k_top E (a2) (by rw [nI_clamp (by omega)]; exact ha2.symm) ?_
            refine k_mi hw (va_runV (As := [.int a1, .int a2]) (rest := [.int r1]) E.1 (m_below l D cy Lw f H.size Z base SS kp kb KS hZA hMo a1 a2) ⟨callB_of 2 E.1.2.2.2.2 (gd_own w3_151) rfl rfl rfl (E.1.2.2.2.2 _ w1_10) (E.1.2.2.2.2 _ w3_148) hd_X6_below (by rw [hR]; exact ⟨Nat.le_of_ble_eq_true rfl, Nat.le_of_ble_eq_true rfl⟩), E.1.2.2.2.2 _ w3_149, E.1.2.2.2.2 _ w3_150⟩ (pw_preV (q := (RX6, TX6, 12)) E.2 hw h_mo rfl) rfl rfl hl.1 rfl (lv_room (Nat.le_of_ble_eq_true rfl)) dL_law_637 ⟨by rw [hR]; dsimp only; omega, by rw [hR]; dsimp only; omega⟩) (fun r L1 f H locs hp hw => ?_)
            obtain ⟨hL2, hfr2, hMo2, hsp2⟩ := hp
            dsimp only at hL2 hfr2 hMo2 hsp2
            subst hL2
            have hN2 := hN2.keep2 (fun _ h => h) (fun i hi => hfr2 _ (hAd.2.2 _ (hAd.1 i hi)) (fun j hj h => hAZ i j hi hj h)) (fun z hz hn => hfr2 z hz (fun j hj h => hn (h ▸ hZM j hj)))
            have hu := rd_below_uni hsp hsp2
            refine lv_icmp_eq (tgt := 757) E.1.1 E.1.2.1 dL_law_640 (by decide) (fun c640 => ?_) (fun c640 => absurd hu c640)
            refine lv_iinc (v := nI (5 * q + 5)) (lv' := [(3, .int (nI (5 * q + 5))), (1, .ref (A 0)), (2, .ref (Z 0)), (0, .ref b)]) E.1.1 E.1.2.1 dL_law_757 hl (k := 0) rfl (nI_add (5 * q) 5) (by decide) rfl (fun ls hl => ?_)
            refine lv_goto (tgt := 18) E.1.1 E.1.2.1 dL_law_760 (by decide) ?_
            rw [show 5 * q + 5 = 5 * (q + 1) by omega] at hl
            refine W.widen (k := 25 + 4 * (q + 1)) (n := 5867 + 331 * (q + 1)) (by omega) (by omega) ?_
            exact ih18 (q + 1) Lw f H locs base SS kp kb KS ls (by omega) (by omega) ⟨hAd, hZA, hZM, hAZ, hN2, hMo2⟩ hw (lv_sub hl [0, 1, 2, 3] rfl)
          · refine lv_tableIn (tgt := 645) E.1.1 E.1.2.1 dL_law_32 (by decide) (by decide) (off := 613) (by decide) (by decide) ?_
            refine lv_aload_n E.1.1 E.1.2.1 dL_law_645 rfl (lv_at hl 1 rfl) ?_
            refine lv_aload_n E.1.1 E.1.2.1 dL_law_646 rfl (lv_at hl 3 rfl) ?_
            refine lv_iload_n E.1.1 E.1.2.1 dL_law_647 rfl (lv_at hl 0 rfl) ?_
            refine lv_iconst (v := nI 1) E.1.1 E.1.2.1 dL_law_648 rfl ?_
            refine k_add E dL_law_649 ?_
            refine va_sld E.1.1 E.1.2.1 hX hbl hbA hw.2.2.1 (vp_in_nI (show (5 * q) + 1 < LN by omega) (by omega)) dL_law_650 ?_
            refine k_top E (a1) (by rw [nI_clamp (by omega)]; exact ha1.symm) ?_
            refine lv_aload_n E.1.1 E.1.2.1 dL_law_651 rfl (lv_at hl 3 rfl) ?_
            refine lv_iload_n E.1.1 E.1.2.1 dL_law_652 rfl (lv_at hl 0 rfl) ?_
            refine lv_iconst (v := nI 2) E.1.1 E.1.2.1 dL_law_653 rfl ?_
            refine k_add E dL_law_654 ?_
            refine va_sld E.1.1 E.1.2.1 hX hbl hbA hw.2.2.1 (vp_in_nI (show (5 * q) + 2 < LN by omega) (by omega)) dL_law_655 ?_
            refine k_top E (a2) (by rw [nI_clamp (by omega)]; exact ha2.symm) ?_
            refine lv_aload_n E.1.1 E.1.2.1 dL_law_656 rfl (lv_at hl 3 rfl) ?_
            refine lv_iload_n E.1.1 E.1.2.1 dL_law_657 rfl (lv_at hl 0 rfl) ?_
            refine lv_iconst (v := nI 3) E.1.1 E.1.2.1 dL_law_658 rfl ?_
            refine k_add E dL_law_659 ?_
            refine va_sld E.1.1 E.1.2.1 hX hbl hbA hw.2.2.1 (vp_in_nI (show (5 * q) + 3 < LN by omega) (by omega)) dL_law_660 ?_
            refine k_top E (a3) (by rw [nI_clamp (by omega)]; exact ha3.symm) ?_
            refine k_rip (va_runV (As := [.int a1, .int a2, .int a3]) (rest := []) E.1 (p_alike l D cy Lw f H.size M A base SS kp kb KS hAd hN a1 a2 a3) ⟨callB_of 3 E.1.2.2.2.2 (gd_own w2_171) rfl rfl rfl (E.1.2.2.2.2 _ w1_1) (E.1.2.2.2.2 _ w2_168) hd_X5_alike (by rw [hR]; exact ⟨Nat.le_of_ble_eq_true rfl, Nat.le_of_ble_eq_true rfl⟩), E.1.2.2.2.2 _ w2_169, E.1.2.2.2.2 _ w2_170⟩ (pw_preV (q := (RX5, TX5, 5)) E.2 hw h_nm rfl) rfl rfl hl.1 rfl (lv_room (Nat.le_of_ble_eq_true rfl)) dL_law_661 ⟨by rw [hR]; dsimp only; omega, by rw [hR]; dsimp only; omega⟩) (fun r hp => ?_)
            obtain ⟨r1, hr1⟩ : ∃ X, X = r := ⟨_, rfl⟩
            have hsp := hp
            rw [← hr1] at hsp
            refine k_top E r1 hr1.symm ?_
            have hN2 := hN
            refine lv_aload_n E.1.1 E.1.2.1 dL_law_664 rfl (lv_at hl 2 rfl) ?_
            refine lv_aload_n E.1.1 E.1.2.1 dL_law_665 rfl (lv_at hl 3 rfl) ?_
            refine lv_iload_n E.1.1 E.1.2.1 dL_law_666 rfl (lv_at hl 0 rfl) ?_
            refine lv_iconst (v := nI 1) E.1.1 E.1.2.1 dL_law_667 rfl ?_
            refine k_add E dL_law_668 ?_
            refine va_sld E.1.1 E.1.2.1 hX hbl hbA hw.2.2.1 (vp_in_nI (show (5 * q) + 1 < LN by omega) (by omega)) dL_law_669 ?_
            refine k_top E (a1) (by rw [nI_clamp (by omega)]; exact ha1.symm) ?_
            refine lv_aload_n E.1.1 E.1.2.1 dL_law_670 rfl (lv_at hl 3 rfl) ?_
            refine lv_iload_n E.1.1 E.1.2.1 dL_law_671 rfl (lv_at hl 0 rfl) ?_
            refine lv_iconst (v := nI 2) E.1.1 E.1.2.1 dL_law_672 rfl ?_
            refine k_add E dL_law_673 ?_
            refine va_sld E.1.1 E.1.2.1 hX hbl hbA hw.2.2.1 (vp_in_nI (show (5 * q) + 2 < LN by omega) (by omega)) dL_law_674 ?_
            refine k_top E (a2) (by rw [nI_clamp (by omega)]; exact ha2.symm) ?_
            refine lv_aload_n E.1.1 E.1.2.1 dL_law_675 rfl (lv_at hl 3 rfl) ?_
            refine lv_iload_n E.1.1 E.1.2.1 dL_law_676 rfl (lv_at hl 0 rfl) ?_
            refine lv_iconst (v := nI 3) E.1.1 E.1.2.1 dL_law_677 rfl ?_
            refine k_add E dL_law_678 ?_
            refine va_sld E.1.1 E.1.2.1 hX hbl hbA hw.2.2.1 (vp_in_nI (show (5 * q) + 3 < LN by omega) (by omega)) dL_law_679 ?_
            refine k_top E (a3) (by rw [nI_clamp (by omega)]; exact ha3.symm) ?_
            refine k_mi hw (va_runV (As := [.int a1, .int a2, .int a3]) (rest := [.int r1]) E.1 (m_alike l D cy Lw f H.size Z base SS kp kb KS hZA hMo a1 a2 a3) ⟨callB_of 3 E.1.2.2.2.2 (gd_own w3_155) rfl rfl rfl (E.1.2.2.2.2 _ w1_10) (E.1.2.2.2.2 _ w3_152) hd_X6_alike (by rw [hR]; exact ⟨Nat.le_of_ble_eq_true rfl, Nat.le_of_ble_eq_true rfl⟩), E.1.2.2.2.2 _ w3_153, E.1.2.2.2.2 _ w3_154⟩ (pw_preV (q := (RX6, TX6, 12)) E.2 hw h_mo rfl) rfl rfl hl.1 rfl (lv_room (Nat.le_of_ble_eq_true rfl)) dL_law_680 ⟨by rw [hR]; dsimp only; omega, by rw [hR]; dsimp only; omega⟩) (fun r L1 f H locs hp hw => ?_)
            obtain ⟨hL2, hfr2, hMo2, hsp2⟩ := hp
            dsimp only at hL2 hfr2 hMo2 hsp2
            subst hL2
            have hN2 := hN2.keep2 (fun _ h => h) (fun i hi => hfr2 _ (hAd.2.2 _ (hAd.1 i hi)) (fun j hj h => hAZ i j hi hj h)) (fun z hz hn => hfr2 z hz (fun j hj h => hn (h ▸ hZM j hj)))
            have hu := rd_alike_uni hsp hsp2
            refine lv_icmp_eq (tgt := 757) E.1.1 E.1.2.1 dL_law_683 (by decide) (fun c683 => ?_) (fun c683 => absurd hu c683)
            refine lv_iinc (v := nI (5 * q + 5)) (lv' := [(3, .int (nI (5 * q + 5))), (1, .ref (A 0)), (2, .ref (Z 0)), (0, .ref b)]) E.1.1 E.1.2.1 dL_law_757 hl (k := 0) rfl (nI_add (5 * q) 5) (by decide) rfl (fun ls hl => ?_)
            refine lv_goto (tgt := 18) E.1.1 E.1.2.1 dL_law_760 (by decide) ?_
            rw [show 5 * q + 5 = 5 * (q + 1) by omega] at hl
            refine W.widen (k := 25 + 4 * (q + 1)) (n := 5867 + 331 * (q + 1)) (by omega) (by omega) ?_
            exact ih18 (q + 1) Lw f H locs base SS kp kb KS ls (by omega) (by omega) ⟨hAd, hZA, hZM, hAZ, hN2, hMo2⟩ hw (lv_sub hl [0, 1, 2, 3] rfl)
          · refine lv_tableIn (tgt := 688) E.1.1 E.1.2.1 dL_law_32 (by decide) (by decide) (off := 656) (by decide) (by decide) ?_
            cases hk1 : i32in a1 0 (nI 1)
            · refine lv_aload_n E.1.1 E.1.2.1 dL_law_688 rfl (lv_at hl 1 rfl) ?_
              refine lv_aload_n E.1.1 E.1.2.1 dL_law_689 rfl (lv_at hl 3 rfl) ?_
              refine lv_iload_n E.1.1 E.1.2.1 dL_law_690 rfl (lv_at hl 0 rfl) ?_
              refine lv_iconst (v := nI 1) E.1.1 E.1.2.1 dL_law_691 rfl ?_
              refine k_add E dL_law_692 ?_
              refine va_sld E.1.1 E.1.2.1 hX hbl hbA hw.2.2.1 (vp_in_nI (show (5 * q) + 1 < LN by omega) (by omega)) dL_law_693 ?_
              refine k_top E (a1) (by rw [nI_clamp (by omega)]; exact ha1.symm) ?_
              refine k_mi hw (va_runV (As := [.int a1]) (rest := []) E.1 (p_imagex l D cy Lw f H.size M A base SS kp kb KS hAd hN a1 hk1) ⟨callB_of 1 E.1.2.2.2.2 (gd_own w2_182) rfl rfl rfl (E.1.2.2.2.2 _ w1_1) (E.1.2.2.2.2 _ w2_179) hd_X5_image (by rw [hR]; exact ⟨Nat.le_of_ble_eq_true rfl, Nat.le_of_ble_eq_true rfl⟩), E.1.2.2.2.2 _ w2_180, E.1.2.2.2.2 _ w2_181⟩ (pw_preV (q := (RX5, TX5, 5)) E.2 hw h_nm rfl) rfl rfl hl.1 rfl (lv_room (Nat.le_of_ble_eq_true rfl)) dL_law_694 ⟨by rw [hR]; dsimp only; omega, by rw [hR]; dsimp only; omega⟩) (fun r Lx f H locs hp hw => ?_)
              obtain ⟨hLn, hfr, kp2, kb2, KS2, hN2, hsp⟩ := hp
              dsimp only at hLn hfr hN2 hsp
              obtain ⟨r1, hr1⟩ : ∃ X, X = r := ⟨_, rfl⟩
              rw [← hr1] at hsp
              refine k_top E r1 hr1.symm ?_
              have hMo := hMo.keep hLn (fun i hi => hfr _ (hAd.2.2 _ (hZM i hi)) (fun j hj h => hAZ j i hj hi h.symm))
              have hAd := hAd.grow hLn
              have h_nm := hN2.2.1
              obtain ⟨vs, h_mo⟩ := hMo.obj
              refine lv_aload_n E.1.1 E.1.2.1 dL_law_697 rfl (lv_at hl 2 rfl) ?_
              refine lv_aload_n E.1.1 E.1.2.1 dL_law_698 rfl (lv_at hl 3 rfl) ?_
              refine lv_iload_n E.1.1 E.1.2.1 dL_law_699 rfl (lv_at hl 0 rfl) ?_
              refine lv_iconst (v := nI 1) E.1.1 E.1.2.1 dL_law_700 rfl ?_
              refine k_add E dL_law_701 ?_
              refine va_sld E.1.1 E.1.2.1 hX hbl hbA hw.2.2.1 (vp_in_nI (show (5 * q) + 1 < LN by omega) (by omega)) dL_law_702 ?_
              refine k_top E (a1) (by rw [nI_clamp (by omega)]; exact ha1.symm) ?_
              refine k_mi hw (va_runV (As := [.int a1]) (rest := [.int r1]) E.1 (m_image l D cy Lx f H.size Z base SS kp kb KS hZA hMo a1) ⟨callB_of 1 E.1.2.2.2.2 (gd_own w3_159) rfl rfl rfl (E.1.2.2.2.2 _ w1_10) (E.1.2.2.2.2 _ w3_156) hd_X6_image (by rw [hR]; exact ⟨Nat.le_of_ble_eq_true rfl, Nat.le_of_ble_eq_true rfl⟩), E.1.2.2.2.2 _ w3_157, E.1.2.2.2.2 _ w3_158⟩ (pw_preV (q := (RX6, TX6, 12)) E.2 hw h_mo rfl) rfl rfl hl.1 rfl (lv_room (Nat.le_of_ble_eq_true rfl)) dL_law_703 ⟨by rw [hR]; dsimp only; omega, by rw [hR]; dsimp only; omega⟩) (fun r L1 f H locs hp hw => ?_)
              obtain ⟨hL2, hfr2, kp3, kb3, KS3, hMo2, hsp2⟩ := hp
              dsimp only at hL2 hfr2 hMo2 hsp2
              subst hL2
              have hN2 := hN2.keep2 (fun _ h => h) (fun i hi => hfr2 _ (hAd.2.2 _ (hAd.1 i hi)) (fun j hj h => hAZ i j hi hj h)) (fun z hz hn => hfr2 z hz (fun j hj h => hn (h ▸ hZM j hj)))
              have hu := sp_image_uni hsp hsp2
              obtain ⟨hu, rfl, rfl, rfl⟩ := hu
              refine lv_icmp_eq (tgt := 757) E.1.1 E.1.2.1 dL_law_706 (by decide) (fun c706 => ?_) (fun c706 => absurd hu c706)
              refine lv_iinc (v := nI (5 * q + 5)) (lv' := [(3, .int (nI (5 * q + 5))), (1, .ref (A 0)), (2, .ref (Z 0)), (0, .ref b)]) E.1.1 E.1.2.1 dL_law_757 hl (k := 0) rfl (nI_add (5 * q) 5) (by decide) rfl (fun ls hl => ?_)
              refine lv_goto (tgt := 18) E.1.1 E.1.2.1 dL_law_760 (by decide) ?_
              rw [show 5 * q + 5 = 5 * (q + 1) by omega] at hl
              refine W.widen (k := 25 + 4 * (q + 1)) (n := 5867 + 331 * (q + 1)) (by omega) (by omega) ?_
              exact ih18 (q + 1) Lx f H locs base SS kp2 kb2 KS2 ls (by omega) (by omega) ⟨hAd, hZA, hZM, hAZ, hN2, hMo2⟩ hw (lv_sub hl [0, 1, 2, 3] rfl)
            · obtain ⟨k1, hk1b, rfl⟩ := in_ex (by decide) hk1
              rcases (show k1 = 0 ∨ k1 = 1 by omega) with rfl | rfl
              · refine lv_aload_n E.1.1 E.1.2.1 dL_law_688 rfl (lv_at hl 1 rfl) ?_
                refine lv_aload_n E.1.1 E.1.2.1 dL_law_689 rfl (lv_at hl 3 rfl) ?_
                refine lv_iload_n E.1.1 E.1.2.1 dL_law_690 rfl (lv_at hl 0 rfl) ?_
                refine lv_iconst (v := nI 1) E.1.1 E.1.2.1 dL_law_691 rfl ?_
                refine k_add E dL_law_692 ?_
                refine va_sld E.1.1 E.1.2.1 hX hbl hbA hw.2.2.1 (vp_in_nI (show (5 * q) + 1 < LN by omega) (by omega)) dL_law_693 ?_
                refine k_top E (nI 0) (by rw [nI_clamp (by omega)]; exact ha1.symm) ?_
                refine k_mi hw (va_runV (As := [.int (nI 0)]) (rest := []) E.1 (p_image0 l D cy Lw f H.size M A base SS kp kb KS hAd hN ) ⟨callB_of 1 E.1.2.2.2.2 (gd_own w2_182) rfl rfl rfl (E.1.2.2.2.2 _ w1_1) (E.1.2.2.2.2 _ w2_179) hd_X5_image (by rw [hR]; exact ⟨Nat.le_of_ble_eq_true rfl, Nat.le_of_ble_eq_true rfl⟩), E.1.2.2.2.2 _ w2_180, E.1.2.2.2.2 _ w2_181⟩ (pw_preV (q := (RX5, TX5, 5)) E.2 hw h_nm rfl) rfl rfl hl.1 rfl (lv_room (Nat.le_of_ble_eq_true rfl)) dL_law_694 ⟨by rw [hR]; dsimp only; omega, by rw [hR]; dsimp only; omega⟩) (fun r Lx f H locs hp hw => ?_)
                obtain ⟨hLn, hfr, kp2, kb2, KS2, hN2, hsp⟩ := hp
                dsimp only at hLn hfr hN2 hsp
                obtain ⟨r1, hr1⟩ : ∃ X, X = r := ⟨_, rfl⟩
                rw [← hr1] at hsp
                refine k_top E r1 hr1.symm ?_
                have hMo := hMo.keep hLn (fun i hi => hfr _ (hAd.2.2 _ (hZM i hi)) (fun j hj h => hAZ j i hj hi h.symm))
                have hAd := hAd.grow hLn
                have h_nm := hN2.2.1
                obtain ⟨vs, h_mo⟩ := hMo.obj
                refine lv_aload_n E.1.1 E.1.2.1 dL_law_697 rfl (lv_at hl 2 rfl) ?_
                refine lv_aload_n E.1.1 E.1.2.1 dL_law_698 rfl (lv_at hl 3 rfl) ?_
                refine lv_iload_n E.1.1 E.1.2.1 dL_law_699 rfl (lv_at hl 0 rfl) ?_
                refine lv_iconst (v := nI 1) E.1.1 E.1.2.1 dL_law_700 rfl ?_
                refine k_add E dL_law_701 ?_
                refine va_sld E.1.1 E.1.2.1 hX hbl hbA hw.2.2.1 (vp_in_nI (show (5 * q) + 1 < LN by omega) (by omega)) dL_law_702 ?_
                refine k_top E (nI 0) (by rw [nI_clamp (by omega)]; exact ha1.symm) ?_
                refine k_mi hw (va_runV (As := [.int (nI 0)]) (rest := [.int r1]) E.1 (m_image l D cy Lx f H.size Z base SS kp kb KS hZA hMo (nI 0)) ⟨callB_of 1 E.1.2.2.2.2 (gd_own w3_159) rfl rfl rfl (E.1.2.2.2.2 _ w1_10) (E.1.2.2.2.2 _ w3_156) hd_X6_image (by rw [hR]; exact ⟨Nat.le_of_ble_eq_true rfl, Nat.le_of_ble_eq_true rfl⟩), E.1.2.2.2.2 _ w3_157, E.1.2.2.2.2 _ w3_158⟩ (pw_preV (q := (RX6, TX6, 12)) E.2 hw h_mo rfl) rfl rfl hl.1 rfl (lv_room (Nat.le_of_ble_eq_true rfl)) dL_law_703 ⟨by rw [hR]; dsimp only; omega, by rw [hR]; dsimp only; omega⟩) (fun r L1 f H locs hp hw => ?_)
                obtain ⟨hL2, hfr2, kp3, kb3, KS3, hMo2, hsp2⟩ := hp
                dsimp only at hL2 hfr2 hMo2 hsp2
                subst hL2
                have hN2 := hN2.keep2 (fun _ h => h) (fun i hi => hfr2 _ (hAd.2.2 _ (hAd.1 i hi)) (fun j hj h => hAZ i j hi hj h)) (fun z hz hn => hfr2 z hz (fun j hj h => hn (h ▸ hZM j hj)))
                have hu := sp_image_uni hsp hsp2
                obtain ⟨hu, rfl, rfl, rfl⟩ := hu
                refine lv_icmp_eq (tgt := 757) E.1.1 E.1.2.1 dL_law_706 (by decide) (fun c706 => ?_) (fun c706 => absurd hu c706)
                refine lv_iinc (v := nI (5 * q + 5)) (lv' := [(3, .int (nI (5 * q + 5))), (1, .ref (A 0)), (2, .ref (Z 0)), (0, .ref b)]) E.1.1 E.1.2.1 dL_law_757 hl (k := 0) rfl (nI_add (5 * q) 5) (by decide) rfl (fun ls hl => ?_)
                refine lv_goto (tgt := 18) E.1.1 E.1.2.1 dL_law_760 (by decide) ?_
                rw [show 5 * q + 5 = 5 * (q + 1) by omega] at hl
                refine W.widen (k := 25 + 4 * (q + 1)) (n := 5867 + 331 * (q + 1)) (by omega) (by omega) ?_
                exact ih18 (q + 1) Lx f H locs base SS kp2 kb2 KS2 ls (by omega) (by omega) ⟨hAd, hZA, hZM, hAZ, hN2, hMo2⟩ hw (lv_sub hl [0, 1, 2, 3] rfl)
              · refine lv_aload_n E.1.1 E.1.2.1 dL_law_688 rfl (lv_at hl 1 rfl) ?_
                refine lv_aload_n E.1.1 E.1.2.1 dL_law_689 rfl (lv_at hl 3 rfl) ?_
                refine lv_iload_n E.1.1 E.1.2.1 dL_law_690 rfl (lv_at hl 0 rfl) ?_
                refine lv_iconst (v := nI 1) E.1.1 E.1.2.1 dL_law_691 rfl ?_
                refine k_add E dL_law_692 ?_
                refine va_sld E.1.1 E.1.2.1 hX hbl hbA hw.2.2.1 (vp_in_nI (show (5 * q) + 1 < LN by omega) (by omega)) dL_law_693 ?_
                refine k_top E (nI 1) (by rw [nI_clamp (by omega)]; exact ha1.symm) ?_
                refine k_mi hw (va_runV (As := [.int (nI 1)]) (rest := []) E.1 (p_image1 l D cy Lw f H.size M A base SS kp kb KS hAd hN ) ⟨callB_of 1 E.1.2.2.2.2 (gd_own w2_182) rfl rfl rfl (E.1.2.2.2.2 _ w1_1) (E.1.2.2.2.2 _ w2_179) hd_X5_image (by rw [hR]; exact ⟨Nat.le_of_ble_eq_true rfl, Nat.le_of_ble_eq_true rfl⟩), E.1.2.2.2.2 _ w2_180, E.1.2.2.2.2 _ w2_181⟩ (pw_preV (q := (RX5, TX5, 5)) E.2 hw h_nm rfl) rfl rfl hl.1 rfl (lv_room (Nat.le_of_ble_eq_true rfl)) dL_law_694 ⟨by rw [hR]; dsimp only; omega, by rw [hR]; dsimp only; omega⟩) (fun r Lx f H locs hp hw => ?_)
                obtain ⟨hLn, hfr, kp2, kb2, KS2, hN2, hsp⟩ := hp
                dsimp only at hLn hfr hN2 hsp
                obtain ⟨r1, hr1⟩ : ∃ X, X = r := ⟨_, rfl⟩
                rw [← hr1] at hsp
                refine k_top E r1 hr1.symm ?_
                have hMo := hMo.keep hLn (fun i hi => hfr _ (hAd.2.2 _ (hZM i hi)) (fun j hj h => hAZ j i hj hi h.symm))
                have hAd := hAd.grow hLn
                have h_nm := hN2.2.1
                obtain ⟨vs, h_mo⟩ := hMo.obj
                refine lv_aload_n E.1.1 E.1.2.1 dL_law_697 rfl (lv_at hl 2 rfl) ?_
                refine lv_aload_n E.1.1 E.1.2.1 dL_law_698 rfl (lv_at hl 3 rfl) ?_
                refine lv_iload_n E.1.1 E.1.2.1 dL_law_699 rfl (lv_at hl 0 rfl) ?_
                refine lv_iconst (v := nI 1) E.1.1 E.1.2.1 dL_law_700 rfl ?_
                refine k_add E dL_law_701 ?_
                refine va_sld E.1.1 E.1.2.1 hX hbl hbA hw.2.2.1 (vp_in_nI (show (5 * q) + 1 < LN by omega) (by omega)) dL_law_702 ?_
                refine k_top E (nI 1) (by rw [nI_clamp (by omega)]; exact ha1.symm) ?_
                refine k_mi hw (va_runV (As := [.int (nI 1)]) (rest := [.int r1]) E.1 (m_image l D cy Lx f H.size Z base SS kp kb KS hZA hMo (nI 1)) ⟨callB_of 1 E.1.2.2.2.2 (gd_own w3_159) rfl rfl rfl (E.1.2.2.2.2 _ w1_10) (E.1.2.2.2.2 _ w3_156) hd_X6_image (by rw [hR]; exact ⟨Nat.le_of_ble_eq_true rfl, Nat.le_of_ble_eq_true rfl⟩), E.1.2.2.2.2 _ w3_157, E.1.2.2.2.2 _ w3_158⟩ (pw_preV (q := (RX6, TX6, 12)) E.2 hw h_mo rfl) rfl rfl hl.1 rfl (lv_room (Nat.le_of_ble_eq_true rfl)) dL_law_703 ⟨by rw [hR]; dsimp only; omega, by rw [hR]; dsimp only; omega⟩) (fun r L1 f H locs hp hw => ?_)
                obtain ⟨hL2, hfr2, kp3, kb3, KS3, hMo2, hsp2⟩ := hp
                dsimp only at hL2 hfr2 hMo2 hsp2
                subst hL2
                have hN2 := hN2.keep2 (fun _ h => h) (fun i hi => hfr2 _ (hAd.2.2 _ (hAd.1 i hi)) (fun j hj h => hAZ i j hi hj h)) (fun z hz hn => hfr2 z hz (fun j hj h => hn (h ▸ hZM j hj)))
                have hu := sp_image_uni hsp hsp2
                obtain ⟨hu, rfl, rfl, rfl⟩ := hu
                refine lv_icmp_eq (tgt := 757) E.1.1 E.1.2.1 dL_law_706 (by decide) (fun c706 => ?_) (fun c706 => absurd hu c706)
                refine lv_iinc (v := nI (5 * q + 5)) (lv' := [(3, .int (nI (5 * q + 5))), (1, .ref (A 0)), (2, .ref (Z 0)), (0, .ref b)]) E.1.1 E.1.2.1 dL_law_757 hl (k := 0) rfl (nI_add (5 * q) 5) (by decide) rfl (fun ls hl => ?_)
                refine lv_goto (tgt := 18) E.1.1 E.1.2.1 dL_law_760 (by decide) ?_
                rw [show 5 * q + 5 = 5 * (q + 1) by omega] at hl
                refine W.widen (k := 25 + 4 * (q + 1)) (n := 5867 + 331 * (q + 1)) (by omega) (by omega) ?_
                exact ih18 (q + 1) Lx f H locs base SS kp2 kb2 KS2 ls (by omega) (by omega) ⟨hAd, hZA, hZM, hAZ, hN2, hMo2⟩ hw (lv_sub hl [0, 1, 2, 3] rfl)
          · refine lv_tableIn (tgt := 711) E.1.1 E.1.2.1 dL_law_32 (by decide) (by decide) (off := 679) (by decide) (by decide) ?_
            cases hk1 : i32in a1 0 (nI 1)
            · refine lv_aload_n E.1.1 E.1.2.1 dL_law_711 rfl (lv_at hl 1 rfl) ?_
              refine lv_aload_n E.1.1 E.1.2.1 dL_law_712 rfl (lv_at hl 3 rfl) ?_
              refine lv_iload_n E.1.1 E.1.2.1 dL_law_713 rfl (lv_at hl 0 rfl) ?_
              refine lv_iconst (v := nI 1) E.1.1 E.1.2.1 dL_law_714 rfl ?_
              refine k_add E dL_law_715 ?_
              refine va_sld E.1.1 E.1.2.1 hX hbl hbA hw.2.2.1 (vp_in_nI (show (5 * q) + 1 < LN by omega) (by omega)) dL_law_716 ?_
              refine k_top E (a1) (by rw [nI_clamp (by omega)]; exact ha1.symm) ?_
              refine k_mi hw (va_runV (As := [.int a1]) (rest := []) E.1 (p_restorex l D cy Lw f H.size M A base SS kp kb KS hAd hN a1 hk1) ⟨callB_of 1 E.1.2.2.2.2 (gd_own w2_197) rfl rfl rfl (E.1.2.2.2.2 _ w1_1) (E.1.2.2.2.2 _ w2_194) hd_X5_restore (by rw [hR]; exact ⟨Nat.le_of_ble_eq_true rfl, Nat.le_of_ble_eq_true rfl⟩), E.1.2.2.2.2 _ w2_195, E.1.2.2.2.2 _ w2_196⟩ (pw_preV (q := (RX5, TX5, 5)) E.2 hw h_nm rfl) rfl rfl hl.1 rfl (lv_room (Nat.le_of_ble_eq_true rfl)) dL_law_717 ⟨by rw [hR]; dsimp only; omega, by rw [hR]; dsimp only; omega⟩) (fun r Lx f H locs hp hw => ?_)
              obtain ⟨hLn, hfr, base2, SS2, hN2, hsp⟩ := hp
              dsimp only at hLn hfr hN2 hsp
              obtain ⟨r1, hr1⟩ : ∃ X, X = r := ⟨_, rfl⟩
              rw [← hr1] at hsp
              refine k_top E r1 hr1.symm ?_
              have hMo := hMo.keep hLn (fun i hi => hfr _ (hAd.2.2 _ (hZM i hi)) (fun j hj h => hAZ j i hj hi h.symm))
              have hAd := hAd.grow hLn
              have h_nm := hN2.2.1
              obtain ⟨vs, h_mo⟩ := hMo.obj
              refine lv_aload_n E.1.1 E.1.2.1 dL_law_720 rfl (lv_at hl 2 rfl) ?_
              refine lv_aload_n E.1.1 E.1.2.1 dL_law_721 rfl (lv_at hl 3 rfl) ?_
              refine lv_iload_n E.1.1 E.1.2.1 dL_law_722 rfl (lv_at hl 0 rfl) ?_
              refine lv_iconst (v := nI 1) E.1.1 E.1.2.1 dL_law_723 rfl ?_
              refine k_add E dL_law_724 ?_
              refine va_sld E.1.1 E.1.2.1 hX hbl hbA hw.2.2.1 (vp_in_nI (show (5 * q) + 1 < LN by omega) (by omega)) dL_law_725 ?_
              refine k_top E (a1) (by rw [nI_clamp (by omega)]; exact ha1.symm) ?_
              refine k_mi hw (va_runV (As := [.int a1]) (rest := [.int r1]) E.1 (m_restore l D cy Lx f H.size Z base SS kp kb KS hZA hMo a1) ⟨callB_of 1 E.1.2.2.2.2 (gd_own w3_163) rfl rfl rfl (E.1.2.2.2.2 _ w1_10) (E.1.2.2.2.2 _ w3_160) hd_X6_restore (by rw [hR]; exact ⟨Nat.le_of_ble_eq_true rfl, Nat.le_of_ble_eq_true rfl⟩), E.1.2.2.2.2 _ w3_161, E.1.2.2.2.2 _ w3_162⟩ (pw_preV (q := (RX6, TX6, 12)) E.2 hw h_mo rfl) rfl rfl hl.1 rfl (lv_room (Nat.le_of_ble_eq_true rfl)) dL_law_726 ⟨by rw [hR]; dsimp only; omega, by rw [hR]; dsimp only; omega⟩) (fun r L1 f H locs hp hw => ?_)
              obtain ⟨hL2, hfr2, base3, SS3, hMo2, hsp2⟩ := hp
              dsimp only at hL2 hfr2 hMo2 hsp2
              subst hL2
              have hN2 := hN2.keep2 (fun _ h => h) (fun i hi => hfr2 _ (hAd.2.2 _ (hAd.1 i hi)) (fun j hj h => hAZ i j hi hj h)) (fun z hz hn => hfr2 z hz (fun j hj h => hn (h ▸ hZM j hj)))
              have hu := sp_restore_uni hsp hsp2
              obtain ⟨hu, rfl, rfl⟩ := hu
              refine lv_icmp_eq (tgt := 757) E.1.1 E.1.2.1 dL_law_729 (by decide) (fun c729 => ?_) (fun c729 => absurd hu c729)
              refine lv_iinc (v := nI (5 * q + 5)) (lv' := [(3, .int (nI (5 * q + 5))), (1, .ref (A 0)), (2, .ref (Z 0)), (0, .ref b)]) E.1.1 E.1.2.1 dL_law_757 hl (k := 0) rfl (nI_add (5 * q) 5) (by decide) rfl (fun ls hl => ?_)
              refine lv_goto (tgt := 18) E.1.1 E.1.2.1 dL_law_760 (by decide) ?_
              rw [show 5 * q + 5 = 5 * (q + 1) by omega] at hl
              refine W.widen (k := 25 + 4 * (q + 1)) (n := 5867 + 331 * (q + 1)) (by omega) (by omega) ?_
              exact ih18 (q + 1) Lx f H locs base2 SS2 kp kb KS ls (by omega) (by omega) ⟨hAd, hZA, hZM, hAZ, hN2, hMo2⟩ hw (lv_sub hl [0, 1, 2, 3] rfl)
            · obtain ⟨k1, hk1b, rfl⟩ := in_ex (by decide) hk1
              rcases (show k1 = 0 ∨ k1 = 1 by omega) with rfl | rfl
              · refine lv_aload_n E.1.1 E.1.2.1 dL_law_711 rfl (lv_at hl 1 rfl) ?_
                refine lv_aload_n E.1.1 E.1.2.1 dL_law_712 rfl (lv_at hl 3 rfl) ?_
                refine lv_iload_n E.1.1 E.1.2.1 dL_law_713 rfl (lv_at hl 0 rfl) ?_
                refine lv_iconst (v := nI 1) E.1.1 E.1.2.1 dL_law_714 rfl ?_
                refine k_add E dL_law_715 ?_
                refine va_sld E.1.1 E.1.2.1 hX hbl hbA hw.2.2.1 (vp_in_nI (show (5 * q) + 1 < LN by omega) (by omega)) dL_law_716 ?_
                refine k_top E (nI 0) (by rw [nI_clamp (by omega)]; exact ha1.symm) ?_
                refine k_mi hw (va_runV (As := [.int (nI 0)]) (rest := []) E.1 (p_restore0 l D cy Lw f H.size M A base SS kp kb KS hAd hN ) ⟨callB_of 1 E.1.2.2.2.2 (gd_own w2_197) rfl rfl rfl (E.1.2.2.2.2 _ w1_1) (E.1.2.2.2.2 _ w2_194) hd_X5_restore (by rw [hR]; exact ⟨Nat.le_of_ble_eq_true rfl, Nat.le_of_ble_eq_true rfl⟩), E.1.2.2.2.2 _ w2_195, E.1.2.2.2.2 _ w2_196⟩ (pw_preV (q := (RX5, TX5, 5)) E.2 hw h_nm rfl) rfl rfl hl.1 rfl (lv_room (Nat.le_of_ble_eq_true rfl)) dL_law_717 ⟨by rw [hR]; dsimp only; omega, by rw [hR]; dsimp only; omega⟩) (fun r Lx f H locs hp hw => ?_)
                obtain ⟨hLn, hfr, base2, SS2, hN2, hsp⟩ := hp
                dsimp only at hLn hfr hN2 hsp
                obtain ⟨r1, hr1⟩ : ∃ X, X = r := ⟨_, rfl⟩
                rw [← hr1] at hsp
                refine k_top E r1 hr1.symm ?_
                have hMo := hMo.keep hLn (fun i hi => hfr _ (hAd.2.2 _ (hZM i hi)) (fun j hj h => hAZ j i hj hi h.symm))
                have hAd := hAd.grow hLn
                have h_nm := hN2.2.1
                obtain ⟨vs, h_mo⟩ := hMo.obj
                refine lv_aload_n E.1.1 E.1.2.1 dL_law_720 rfl (lv_at hl 2 rfl) ?_
                refine lv_aload_n E.1.1 E.1.2.1 dL_law_721 rfl (lv_at hl 3 rfl) ?_
                refine lv_iload_n E.1.1 E.1.2.1 dL_law_722 rfl (lv_at hl 0 rfl) ?_
                refine lv_iconst (v := nI 1) E.1.1 E.1.2.1 dL_law_723 rfl ?_
                refine k_add E dL_law_724 ?_
                refine va_sld E.1.1 E.1.2.1 hX hbl hbA hw.2.2.1 (vp_in_nI (show (5 * q) + 1 < LN by omega) (by omega)) dL_law_725 ?_
                refine k_top E (nI 0) (by rw [nI_clamp (by omega)]; exact ha1.symm) ?_
                refine k_mi hw (va_runV (As := [.int (nI 0)]) (rest := [.int r1]) E.1 (m_restore l D cy Lx f H.size Z base SS kp kb KS hZA hMo (nI 0)) ⟨callB_of 1 E.1.2.2.2.2 (gd_own w3_163) rfl rfl rfl (E.1.2.2.2.2 _ w1_10) (E.1.2.2.2.2 _ w3_160) hd_X6_restore (by rw [hR]; exact ⟨Nat.le_of_ble_eq_true rfl, Nat.le_of_ble_eq_true rfl⟩), E.1.2.2.2.2 _ w3_161, E.1.2.2.2.2 _ w3_162⟩ (pw_preV (q := (RX6, TX6, 12)) E.2 hw h_mo rfl) rfl rfl hl.1 rfl (lv_room (Nat.le_of_ble_eq_true rfl)) dL_law_726 ⟨by rw [hR]; dsimp only; omega, by rw [hR]; dsimp only; omega⟩) (fun r L1 f H locs hp hw => ?_)
                obtain ⟨hL2, hfr2, base3, SS3, hMo2, hsp2⟩ := hp
                dsimp only at hL2 hfr2 hMo2 hsp2
                subst hL2
                have hN2 := hN2.keep2 (fun _ h => h) (fun i hi => hfr2 _ (hAd.2.2 _ (hAd.1 i hi)) (fun j hj h => hAZ i j hi hj h)) (fun z hz hn => hfr2 z hz (fun j hj h => hn (h ▸ hZM j hj)))
                have hu := sp_restore_uni hsp hsp2
                obtain ⟨hu, rfl, rfl⟩ := hu
                refine lv_icmp_eq (tgt := 757) E.1.1 E.1.2.1 dL_law_729 (by decide) (fun c729 => ?_) (fun c729 => absurd hu c729)
                refine lv_iinc (v := nI (5 * q + 5)) (lv' := [(3, .int (nI (5 * q + 5))), (1, .ref (A 0)), (2, .ref (Z 0)), (0, .ref b)]) E.1.1 E.1.2.1 dL_law_757 hl (k := 0) rfl (nI_add (5 * q) 5) (by decide) rfl (fun ls hl => ?_)
                refine lv_goto (tgt := 18) E.1.1 E.1.2.1 dL_law_760 (by decide) ?_
                rw [show 5 * q + 5 = 5 * (q + 1) by omega] at hl
                refine W.widen (k := 25 + 4 * (q + 1)) (n := 5867 + 331 * (q + 1)) (by omega) (by omega) ?_
                exact ih18 (q + 1) Lx f H locs base2 SS2 kp kb KS ls (by omega) (by omega) ⟨hAd, hZA, hZM, hAZ, hN2, hMo2⟩ hw (lv_sub hl [0, 1, 2, 3] rfl)
              · refine lv_aload_n E.1.1 E.1.2.1 dL_law_711 rfl (lv_at hl 1 rfl) ?_
                refine lv_aload_n E.1.1 E.1.2.1 dL_law_712 rfl (lv_at hl 3 rfl) ?_
                refine lv_iload_n E.1.1 E.1.2.1 dL_law_713 rfl (lv_at hl 0 rfl) ?_
                refine lv_iconst (v := nI 1) E.1.1 E.1.2.1 dL_law_714 rfl ?_
                refine k_add E dL_law_715 ?_
                refine va_sld E.1.1 E.1.2.1 hX hbl hbA hw.2.2.1 (vp_in_nI (show (5 * q) + 1 < LN by omega) (by omega)) dL_law_716 ?_
                refine k_top E (nI 1) (by rw [nI_clamp (by omega)]; exact ha1.symm) ?_
                refine k_mi hw (va_runV (As := [.int (nI 1)]) (rest := []) E.1 (p_restore1 l D cy Lw f H.size M A base SS kp kb KS hAd hN ) ⟨callB_of 1 E.1.2.2.2.2 (gd_own w2_197) rfl rfl rfl (E.1.2.2.2.2 _ w1_1) (E.1.2.2.2.2 _ w2_194) hd_X5_restore (by rw [hR]; exact ⟨Nat.le_of_ble_eq_true rfl, Nat.le_of_ble_eq_true rfl⟩), E.1.2.2.2.2 _ w2_195, E.1.2.2.2.2 _ w2_196⟩ (pw_preV (q := (RX5, TX5, 5)) E.2 hw h_nm rfl) rfl rfl hl.1 rfl (lv_room (Nat.le_of_ble_eq_true rfl)) dL_law_717 ⟨by rw [hR]; dsimp only; omega, by rw [hR]; dsimp only; omega⟩) (fun r Lx f H locs hp hw => ?_)
                obtain ⟨hLn, hfr, base2, SS2, hN2, hsp⟩ := hp
                dsimp only at hLn hfr hN2 hsp
                obtain ⟨r1, hr1⟩ : ∃ X, X = r := ⟨_, rfl⟩
                rw [← hr1] at hsp
                refine k_top E r1 hr1.symm ?_
                have hMo := hMo.keep hLn (fun i hi => hfr _ (hAd.2.2 _ (hZM i hi)) (fun j hj h => hAZ j i hj hi h.symm))
                have hAd := hAd.grow hLn
                have h_nm := hN2.2.1
                obtain ⟨vs, h_mo⟩ := hMo.obj
                refine lv_aload_n E.1.1 E.1.2.1 dL_law_720 rfl (lv_at hl 2 rfl) ?_
                refine lv_aload_n E.1.1 E.1.2.1 dL_law_721 rfl (lv_at hl 3 rfl) ?_
                refine lv_iload_n E.1.1 E.1.2.1 dL_law_722 rfl (lv_at hl 0 rfl) ?_
                refine lv_iconst (v := nI 1) E.1.1 E.1.2.1 dL_law_723 rfl ?_
                refine k_add E dL_law_724 ?_
                refine va_sld E.1.1 E.1.2.1 hX hbl hbA hw.2.2.1 (vp_in_nI (show (5 * q) + 1 < LN by omega) (by omega)) dL_law_725 ?_
                refine k_top E (nI 1) (by rw [nI_clamp (by omega)]; exact ha1.symm) ?_
                refine k_mi hw (va_runV (As := [.int (nI 1)]) (rest := [.int r1]) E.1 (m_restore l D cy Lx f H.size Z base SS kp kb KS hZA hMo (nI 1)) ⟨callB_of 1 E.1.2.2.2.2 (gd_own w3_163) rfl rfl rfl (E.1.2.2.2.2 _ w1_10) (E.1.2.2.2.2 _ w3_160) hd_X6_restore (by rw [hR]; exact ⟨Nat.le_of_ble_eq_true rfl, Nat.le_of_ble_eq_true rfl⟩), E.1.2.2.2.2 _ w3_161, E.1.2.2.2.2 _ w3_162⟩ (pw_preV (q := (RX6, TX6, 12)) E.2 hw h_mo rfl) rfl rfl hl.1 rfl (lv_room (Nat.le_of_ble_eq_true rfl)) dL_law_726 ⟨by rw [hR]; dsimp only; omega, by rw [hR]; dsimp only; omega⟩) (fun r L1 f H locs hp hw => ?_)
                obtain ⟨hL2, hfr2, base3, SS3, hMo2, hsp2⟩ := hp
                dsimp only at hL2 hfr2 hMo2 hsp2
                subst hL2
                have hN2 := hN2.keep2 (fun _ h => h) (fun i hi => hfr2 _ (hAd.2.2 _ (hAd.1 i hi)) (fun j hj h => hAZ i j hi hj h)) (fun z hz hn => hfr2 z hz (fun j hj h => hn (h ▸ hZM j hj)))
                have hu := sp_restore_uni hsp hsp2
                obtain ⟨hu, rfl, rfl⟩ := hu
                refine lv_icmp_eq (tgt := 757) E.1.1 E.1.2.1 dL_law_729 (by decide) (fun c729 => ?_) (fun c729 => absurd hu c729)
                refine lv_iinc (v := nI (5 * q + 5)) (lv' := [(3, .int (nI (5 * q + 5))), (1, .ref (A 0)), (2, .ref (Z 0)), (0, .ref b)]) E.1.1 E.1.2.1 dL_law_757 hl (k := 0) rfl (nI_add (5 * q) 5) (by decide) rfl (fun ls hl => ?_)
                refine lv_goto (tgt := 18) E.1.1 E.1.2.1 dL_law_760 (by decide) ?_
                rw [show 5 * q + 5 = 5 * (q + 1) by omega] at hl
                refine W.widen (k := 25 + 4 * (q + 1)) (n := 5867 + 331 * (q + 1)) (by omega) (by omega) ?_
                exact ih18 (q + 1) Lx f H locs base2 SS2 kp kb KS ls (by omega) (by omega) ⟨hAd, hZA, hZM, hAZ, hN2, hMo2⟩ hw (lv_sub hl [0, 1, 2, 3] rfl)
          · refine lv_tableIn (tgt := 734) E.1.1 E.1.2.1 dL_law_32 (by decide) (by decide) (off := 702) (by decide) (by decide) ?_
            refine lv_aload_n E.1.1 E.1.2.1 dL_law_734 rfl (lv_at hl 1 rfl) ?_
            refine lv_aload_n E.1.1 E.1.2.1 dL_law_735 rfl (lv_at hl 3 rfl) ?_
            refine lv_iload_n E.1.1 E.1.2.1 dL_law_736 rfl (lv_at hl 0 rfl) ?_
            refine lv_iconst (v := nI 1) E.1.1 E.1.2.1 dL_law_737 rfl ?_
            refine k_add E dL_law_738 ?_
            refine va_sld E.1.1 E.1.2.1 hX hbl hbA hw.2.2.1 (vp_in_nI (show (5 * q) + 1 < LN by omega) (by omega)) dL_law_739 ?_
            refine k_top E (a1) (by rw [nI_clamp (by omega)]; exact ha1.symm) ?_
            refine k_rip (va_runV (As := [.int a1]) (rest := []) E.1 (p_count l D cy Lw f H.size M A base SS kp kb KS hAd hN a1) ⟨callB_of 1 E.1.2.2.2.2 (gd_own w2_205) rfl rfl rfl (E.1.2.2.2.2 _ w1_1) (E.1.2.2.2.2 _ w2_202) hd_X5_count (by rw [hR]; exact ⟨Nat.le_of_ble_eq_true rfl, Nat.le_of_ble_eq_true rfl⟩), E.1.2.2.2.2 _ w2_203, E.1.2.2.2.2 _ w2_204⟩ (pw_preV (q := (RX5, TX5, 5)) E.2 hw h_nm rfl) rfl rfl hl.1 rfl (lv_room (Nat.le_of_ble_eq_true rfl)) dL_law_740 ⟨by rw [hR]; dsimp only; omega, by rw [hR]; dsimp only; omega⟩) (fun r hp => ?_)
            obtain ⟨r1, hr1⟩ : ∃ X, X = r := ⟨_, rfl⟩
            have hsp := hp
            rw [← hr1] at hsp
            refine k_top E r1 hr1.symm ?_
            have hN2 := hN
            refine lv_aload_n E.1.1 E.1.2.1 dL_law_743 rfl (lv_at hl 2 rfl) ?_
            refine lv_aload_n E.1.1 E.1.2.1 dL_law_744 rfl (lv_at hl 3 rfl) ?_
            refine lv_iload_n E.1.1 E.1.2.1 dL_law_745 rfl (lv_at hl 0 rfl) ?_
            refine lv_iconst (v := nI 1) E.1.1 E.1.2.1 dL_law_746 rfl ?_
            refine k_add E dL_law_747 ?_
            refine va_sld E.1.1 E.1.2.1 hX hbl hbA hw.2.2.1 (vp_in_nI (show (5 * q) + 1 < LN by omega) (by omega)) dL_law_748 ?_
            refine k_top E (a1) (by rw [nI_clamp (by omega)]; exact ha1.symm) ?_
            refine k_mi hw (va_runV (As := [.int a1]) (rest := [.int r1]) E.1 (m_count l D cy Lw f H.size Z base SS kp kb KS hZA hMo a1) ⟨callB_of 1 E.1.2.2.2.2 (gd_own w3_167) rfl rfl rfl (E.1.2.2.2.2 _ w1_10) (E.1.2.2.2.2 _ w3_164) hd_X6_count (by rw [hR]; exact ⟨Nat.le_of_ble_eq_true rfl, Nat.le_of_ble_eq_true rfl⟩), E.1.2.2.2.2 _ w3_165, E.1.2.2.2.2 _ w3_166⟩ (pw_preV (q := (RX6, TX6, 12)) E.2 hw h_mo rfl) rfl rfl hl.1 rfl (lv_room (Nat.le_of_ble_eq_true rfl)) dL_law_749 ⟨by rw [hR]; dsimp only; omega, by rw [hR]; dsimp only; omega⟩) (fun r L1 f H locs hp hw => ?_)
            obtain ⟨hL2, hfr2, hMo2, hsp2⟩ := hp
            dsimp only at hL2 hfr2 hMo2 hsp2
            subst hL2
            have hN2 := hN2.keep2 (fun _ h => h) (fun i hi => hfr2 _ (hAd.2.2 _ (hAd.1 i hi)) (fun j hj h => hAZ i j hi hj h)) (fun z hz hn => hfr2 z hz (fun j hj h => hn (h ▸ hZM j hj)))
            have hu := rd_count_uni (by omega) hsp hsp2
            refine lv_icmp_eq (tgt := 757) E.1.1 E.1.2.1 dL_law_752 (by decide) (fun c752 => ?_) (fun c752 => absurd hu c752)
            refine lv_iinc (v := nI (5 * q + 5)) (lv' := [(3, .int (nI (5 * q + 5))), (1, .ref (A 0)), (2, .ref (Z 0)), (0, .ref b)]) E.1.1 E.1.2.1 dL_law_757 hl (k := 0) rfl (nI_add (5 * q) 5) (by decide) rfl (fun ls hl => ?_)
            refine lv_goto (tgt := 18) E.1.1 E.1.2.1 dL_law_760 (by decide) ?_
            rw [show 5 * q + 5 = 5 * (q + 1) by omega] at hl
            refine W.widen (k := 25 + 4 * (q + 1)) (n := 5867 + 331 * (q + 1)) (by omega) (by omega) ?_
            exact ih18 (q + 1) Lw f H locs base SS kp kb KS ls (by omega) (by omega) ⟨hAd, hZA, hZM, hAZ, hN2, hMo2⟩ hw (lv_sub hl [0, 1, 2, 3] rfl)
  exact lp18 (513 - 0 + 1) 0 Lb f H locs 2 (fun _ _ => false) (fun _ => false) (fun _ => 2) (fun _ _ _ => false) ls (Nat.lt_succ_self _) (by decide) hBW hw (lv_sub hl [0, 2, 1, 3] rfl)
theorem whole_start {p : Program} {e : Env} {s : State} {m : MethodId} {below : List Frame} {meth : Method} {c : Code} (l : Launch) (hflags : l.flags = flags0) {b L : Nat} {xs : Nat → Int32} (hL : L ≤ 2560) (C0 : lw_At p s m meth c b L xs) : W p l e room_1 s m #[Value.ref b] below meth c s.heap [] 0 0 (lw_Z below #[Value.ref b] s) (entryFrame m ([Value.ref b] : List Value).toArray 4) := by
  obtain ⟨hx, hb, hr, hml, hown, hts, hX, hbl, hlocks, hgv⟩ := C0
  obtain ⟨D, cy, hK⟩ := kk_start hts
  have hl := lv_entry ([.ref b]) (n := 4) (Nat.le_of_ble_eq_true rfl)
  rw [lg_entry_eq]
  generalize (lg_sl ([.ref b]) ++ List.replicate (4 - (lg_sl ([.ref b])).length) Slot.unset).toArray = ls at hl ⊢
  have hl : lv_has ls 4 [(0, .ref b)] := hl
  exact law_go D cy hL ⟨⟨hx, hb, hml, hown, fun w h => hts w (wsL_in w h)⟩, hK⟩ hX hbl hlocks hr ls hl
