theorem rbx_v {X rr : Nat → Bool} {u : Nat} {v : Bool} (hv : X u = v) (i : Nat) : (if i = u then b2i v else b2i (rbx X rr u i)) = b2i (rbx X rr (u + 1) i) := by
  rw [← hv]; exact rbx_s X rr u i
/-- the cells of the model -/
def MC (cy : Nat → ClassId) (L : List Nat) (f : Nat → va_E) (A : Nat → Nat) (base fr pb ns : Nat) (T P : Nat → Nat) (B : Nat → Nat → Bool) (rr : Nat → Bool) (G Fa : Nat → Int32) (kb1 : Nat → Nat) (kp : Nat → Bool) : Prop := cel L f (A 0) (.inr (6, [.int (nI base), .ref (A 1), .ref (A 2), .ref (A 3), .ref (A 4), .int (nI fr), .int (nI pb), .ref (A 5), .int (nI ns), .ref (A 6), .ref (A 7), .ref (A 8)])) ∧ cel L f (A 1) (.inl (cy 0, 84, .inl (fun k => nI (T k)))) ∧ cel L f (A 2) (.inl (cy 0, 84, .inl (fun k => nI (P k)))) ∧ cel L f (A 3) (.inl (cy 1, 252, .inr (.inl (rw3 B)))) ∧ cel L f (A 4) (.inl (cy 2, 4096, .inl (fun k => b2i (rr k)))) ∧ cel L f (A 5) (.inl (cy 0, 325, .inl G)) ∧ cel L f (A 6) (.inl (cy 0, 65, .inl Fa)) ∧ cel L f (A 7) (.inl (cy 0, 2, .inl (fun k => nI (kb1 k)))) ∧ cel L f (A 8) (.inl (cy 2, 2, .inl (fun k => b2i (kp k))))
def MS (base : Nat) (SS : Nat → Nat → Bool) (T P : Nat → Nat) (B : Nat → Nat → Bool) : Prop := ∀ j, j < 6 → SetIs (SS j) (T j) (P j) (B j) ∧ ∃ n, MchOf (SS j) base n
def MK (kp : Nat → Bool) (kb kb1 : Nat → Nat) (KS : Nat → Nat → Nat → Bool) (T P : Nat → Nat) (B : Nat → Nat → Bool) : Prop := ∀ i, i < 2 → kp i = true → kb1 i = kb i ∧ B235 (kb i) ∧ ∀ j, j < 6 → SetIs (KS i j) (T (6 + 6 * i + j)) (P (6 + 6 * i + j)) (B (6 + 6 * i + j)) ∧ ∃ n, MchOf (KS i j) (kb i) n
def MoW (cy : Nat → ClassId) (L : List Nat) (f : Nat → va_E) (A : Nat → Nat) (base : Nat) (SS : Nat → Nat → Bool) (kp : Nat → Bool) (kb : Nat → Nat) (KS : Nat → Nat → Nat → Bool) : Prop := B235 base ∧ ∃ (fr pb ns : Nat) (T P : Nat → Nat) (B : Nat → Nat → Bool) (rr : Nat → Bool) (G Fa : Nat → Int32) (kb1 : Nat → Nat), MC cy L f A base fr pb ns T P B rr G Fa kb1 kp ∧ TP T P ∧ MS base SS T P B ∧ MK kp kb kb1 KS T P B
theorem MoW.keep {cy : Nat → ClassId} {L L1 : List Nat} {f f1 : Nat → va_E} {A : Nat → Nat} {base : Nat} {SS : Nat → Nat → Bool} {kp : Nat → Bool} {kb : Nat → Nat} {KS : Nat → Nat → Nat → Bool} (h : MoW cy L f A base SS kp kb KS) (hL : ∀ b ∈ L, b ∈ L1) (hf : ∀ i, i < 9 → f1 (A i) = f (A i)) : MoW cy L1 f1 A base SS kp kb KS := by
  obtain ⟨hB, fr, pb, ns, T, P, B, rr, G, Fa, kb1, ⟨c0, c1, c2, c3, c4, c5, c6, c7, c8⟩, h2⟩ := h
  exact ⟨hB, fr, pb, ns, T, P, B, rr, G, Fa, kb1, ⟨c0.keep hL (hf 0 (by decide)), c1.keep hL (hf 1 (by decide)), c2.keep hL (hf 2 (by decide)), c3.keep hL (hf 3 (by decide)), c4.keep hL (hf 4 (by decide)), c5.keep hL (hf 5 (by decide)), c6.keep hL (hf 6 (by decide)), c7.keep hL (hf 7 (by decide)), c8.keep hL (hf 8 (by decide))⟩, h2⟩
theorem MS.ag {base : Nat} {SS : Nat → Nat → Bool} {T P T2 P2 : Nat → Nat} {B B2 : Nat → Nat → Bool} (h : MS base SS T P B) (ha : AG T P B T2 P2 B2) : MS base SS T2 P2 B2 := fun j hj => by
  obtain ⟨a, b, c⟩ := ha j (by omega)
  rw [a, b, c]
  exact h j hj
theorem MK.ag {kp : Nat → Bool} {kb kb1 : Nat → Nat} {KS : Nat → Nat → Nat → Bool} {T P T2 P2 : Nat → Nat} {B B2 : Nat → Nat → Bool} (h : MK kp kb kb1 KS T P B) (ha : ∀ x, x < 18 → 6 ≤ x → T2 x = T x ∧ P2 x = P x ∧ B2 x = B x) : MK kp kb kb1 KS T2 P2 B2 := fun i hi hk => by
  obtain ⟨h1, h2, h3⟩ := h i hi hk
  refine ⟨h1, h2, fun j hj => ?_⟩
  obtain ⟨a, b, c⟩ := ha (6 + 6 * i + j) (by omega) (by omega)
  rw [a, b, c]
  exact h3 j hj
theorem mo_hold {cy : Nat → ClassId} {L : List Nat} {f : Nat → va_E} {A : Nat → Nat} {base fr pb ns y : Nat} {SS : Nat → Nat → Bool} {kp : Nat → Bool} {kb kb1 : Nat → Nat} {KS : Nat → Nat → Nat → Bool} {T P T2 P2 : Nat → Nat} {B B2 : Nat → Nat → Bool} {rr X : Nat → Bool} {G Fa : Nat → Int32} {r : Int32} (hB : B235 base) (hMS : MS base SS T P B) (hMK : MK kp kb kb1 KS T P B) (hMC : MC cy L f A base fr pb ns T2 P2 B2 rr G Fa kb1 kp) (hTP : TP T2 P2) (hy : y < 6) (hag : ∀ j, j < 18 → j ≠ y → T2 j = T j ∧ P2 j = P j ∧ B2 j = B j)
    (hcase : (r = -4 ∧ Large X base ∧ T2 y = T y ∧ P2 y = P y ∧ B2 y = B y) ∨ ∃ n, r = nI n ∧ MchOf X base n ∧ SetIs X (T2 y) (P2 y) (B2 y)) : ∃ SS2, MoW cy L f A base SS2 kp kb KS ∧ HoldR X base y SS SS2 r := by
  have hMK2 : MK kp kb kb1 KS T2 P2 B2 := hMK.ag (fun x h1 h2 => hag x h1 (by omega))
  rcases hcase with ⟨e, hl, e1, e2, e3⟩ | ⟨n, e, hm, hs⟩
  · refine ⟨SS, ⟨hB, fr, pb, ns, T2, P2, B2, rr, G, Fa, kb1, hMC, hTP, fun j hj => ?_, hMK2⟩, Or.inl ⟨e, hl, rfl⟩⟩
    by_cases hjy : j = y
    · rw [hjy, e1, e2, e3]; exact hMS y hy
    · obtain ⟨a, b, c⟩ := hag j (by omega) hjy
      rw [a, b, c]; exact hMS j hj
  · refine ⟨va_up SS y X, ⟨hB, fr, pb, ns, T2, P2, B2, rr, G, Fa, kb1, hMC, hTP, fun j hj => ?_, hMK2⟩, Or.inr ⟨n, e, hm, hs.fits, rfl⟩⟩
    by_cases hjy : j = y
    · rw [hjy, va_up_self]; exact ⟨hs, n, hm⟩
    · obtain ⟨a, b, c⟩ := hag j (by omega) hjy
      rw [va_up_ne _ _ hjy, a, b, c]; exact hMS j hj
theorem gcd_step (x y : Nat) : Nat.gcd y (x % y) = Nat.gcd x y := by rw [Nat.gcd_comm, ← Nat.gcd_rec, Nat.gcd_comm]
theorem tog {x y : Nat} (hx : 0 < x) (hx2 : x ≤ 60) (hy : 0 < y) (hy2 : y ≤ 60) : 0 < x / Nat.gcd x y * y ∧ x / Nat.gcd x y * y ≤ 3600 ∧ x ∣ x / Nat.gcd x y * y ∧ y ∣ x / Nat.gcd x y * y := by
  have hg := Nat.gcd_pos_of_pos_left y hx
  have h1 : 0 < x / Nat.gcd x y := Nat.div_pos (Nat.gcd_le_left y hx) hg
  have h2 : x / Nat.gcd x y ≤ 60 := Nat.le_trans (Nat.div_le_self _ _) hx2
  refine ⟨Nat.mul_pos h1 hy, Nat.le_trans (Nat.mul_le_mul h2 hy2) (by decide), ?_, Nat.dvd_mul_left _ _⟩
  obtain ⟨k, hk⟩ := Nat.gcd_dvd_right x y
  refine ⟨k, ?_⟩
  have h3 := Nat.div_mul_cancel (Nat.gcd_dvd_left x y)
  calc x / Nat.gcd x y * y = x / Nat.gcd x y * (Nat.gcd x y * k) := by rw [← hk]
    _ = x / Nat.gcd x y * Nat.gcd x y * k := (Nat.mul_assoc _ _ _).symm
    _ = x * k := by rw [h3]
theorem sub_neg_nI (u w : Nat) : nI u - -nI w = nI (u + w) := by
  rw [← nI_add]
  apply Int32.toBitVec_inj.mp
  rw [Int32.toBitVec_sub, Int32.toBitVec_neg, Int32.toBitVec_add, BitVec.sub_eq_add_neg, BitVec.neg_neg]
theorem lt_neg {u w : Nat} (hu : u < 2 ^ 31) (hw : w ≤ 100) : ¬ nI u < -nI w := by
  have e : (-nI w).toInt = -(w : Int) := sb_negT (show w < 2 ^ 31 by omega)
  rw [i32_lt, e, nI_t (by omega)]
  omega
theorem shd_1 {t w : Nat} (ht : t ≤ 120) (hw : w ≤ 100) (h : nI t + -nI w ≤ 0) : nI 0 = nI (t - w) := by
  rw [← mxneg (by omega) (by omega), if_neg]
  intro q
  exact fa_lt_nle q h
theorem shd_2 {t w : Nat} (ht : t ≤ 120) (hw : w ≤ 100) (h : ¬ nI t + -nI w ≤ 0) : nI t + -nI w = nI (t - w) := by
  rw [← mxneg (by omega) (by omega), if_pos]
  exact Int32.not_le.mp h
theorem m_isInS (l : Launch) (D : va_G) (cy : Nat → ClassId) (L : List Nat) (f : Nat → va_E) (sz : Nat) (A : Nat → Nat) (base fr pb ns : Nat) (T P : Nat → Nat) (B : Nat → Nat → Bool) (rr : Nat → Bool) (G : Nat → Int32) (hA : MAd A) (hTP : TP T P) (x n : Nat) (S : Nat → Bool) (hS : SetIs S (T x) (P x) (B x)) (hx : x < 84) (hn : n < 2147483648) (h_o : cel L f (A 0) (.inr (6, [.int (nI base), .ref (A 1), .ref (A 2), .ref (A 3), .ref (A 4), .int (nI fr), .int (nI pb), .ref (A 5), .int (nI ns), .ref (A 6), .ref (A 7), .ref (A 8)]))) (h_ts : cel L f (A 1) (.inl (cy 0, 84, .inl (fun k => nI (T k))))) (h_ps : cel L f (A 2) (.inl (cy 0, 84, .inl (fun k => nI (P k))))) (h_bs : cel L f (A 3) (.inl (cy 1, 252, .inr (.inl (rw3 B))))) : Met l yX6_isIn (.code yX6_isIn cX6_isIn 6 (Option.some FieldType.boolean) :: wsL_law) { frames := 0, cells := 0, slots := 0, locals := 0 } (va_Pc [.ref (A 0), .int (nI x), .int (nI n)] (PW D cy L f sz)) (vp_Si (fun r => r = b2i (S n))) 0 0 (fun _ => False) := by
  have h := m_isIn l D cy L f sz A base fr pb ns T P B rr G hA hTP x n hx hn h_o h_ts h_ps h_bs
  rw [show den (T x) (P x) (B x) n = S n from (hS.den n).symm] at h
  exact h
set_option maxHeartbeats 4000000 in
set_option maxRecDepth 100000 in
theorem m_keep (l : Launch) (D : va_G) (cy : Nat → ClassId) (L : List Nat) (f0 : Nat → va_E) (sz : Nat) (A : Nat → Nat) (base fr pb ns : Nat) (T P : Nat → Nat) (B : Nat → Nat → Bool) (rr : Nat → Bool) (G : Nat → Int32) (hA : MAd A) (hTP : TP T P) (y : Nat) (hy : y < 18) (hb0 : 0 < base) (hb5 : base ≤ 5) (hpb : 0 < pb) (hfp : fr + pb ≤ 4096) (h_o : cel L f0 (A 0) (.inr (6, [.int (nI base), .ref (A 1), .ref (A 2), .ref (A 3), .ref (A 4), .int (nI fr), .int (nI pb), .ref (A 5), .int (nI ns), .ref (A 6), .ref (A 7), .ref (A 8)]))) (h_ts : cel L f0 (A 1) (.inl (cy 0, 84, .inl (fun k => nI (T k))))) (h_ps : cel L f0 (A 2) (.inl (cy 0, 84, .inl (fun k => nI (P k))))) (h_bs : cel L f0 (A 3) (.inl (cy 1, 252, .inr (.inl (rw3 B))))) (h_rw : cel L f0 (A 4) (.inl (cy 2, 4096, .inl (fun k => b2i (rr k))))) (h_gs : cel L f0 (A 5) (.inl (cy 0, 325, .inl G))) : Met l yX6_keep (.code yX6_keep cX6_keep 2 (Option.some FieldType.int) :: wsL_law) { frames := 5, cells := 0, slots := 0, locals := 115 } (va_Pc [.ref (A 0), .int (nI y)] (PW D cy L f0 sz)) (va_Qi (fun (r : Int32) (u : List Nat × (Nat → va_E)) => L = u.1 ∧ (∀ b ∈ L, b ≠ A 0 → b ≠ A 1 → b ≠ A 2 → b ≠ A 3 → b ≠ A 4 → b ≠ A 5 → u.2 b = f0 b) ∧ ∃ (fr2 pb2 ns2 : Nat) (T2 P2 : Nat → Nat) (B2 : Nat → Nat → Bool) (rr2 : Nat → Bool) (G2 : Nat → Int32), cel L u.2 (A 0) (.inr (6, [.int (nI base), .ref (A 1), .ref (A 2), .ref (A 3), .ref (A 4), .int (nI fr2), .int (nI pb2), .ref (A 5), .int (nI ns2), .ref (A 6), .ref (A 7), .ref (A 8)])) ∧ cel L u.2 (A 1) (.inl (cy 0, 84, .inl (fun k => nI (T2 k)))) ∧ cel L u.2 (A 2) (.inl (cy 0, 84, .inl (fun k => nI (P2 k)))) ∧ cel L u.2 (A 3) (.inl (cy 1, 252, .inr (.inl (rw3 B2)))) ∧ cel L u.2 (A 4) (.inl (cy 2, 4096, .inl (fun k => b2i (rr2 k)))) ∧ cel L u.2 (A 5) (.inl (cy 0, 325, .inl G2)) ∧ TP T2 P2 ∧ (∀ j, j < 18 → j ≠ y → T2 j = T j ∧ P2 j = P j ∧ B2 j = B j) ∧ ((r = -4 ∧ Large (den fr pb rr) base ∧ T2 y = T y ∧ P2 y = P y ∧ B2 y = B y) ∨ ∃ n, r = nI n ∧ MchOf (den fr pb rr) base n ∧ SetIs (den fr pb rr) (T2 y) (P2 y) (B2 y))) (PB D (AW L sz)) (AW L sz)) 0 0 (AW L sz) := by
  refine m_start (by decide) (Nat.le_of_ble_eq_true rfl) ?_
  intro p e R Q s m args below meth c ls hsz hR hQ E hr hlk hnm hw hl
  have hl : lv_has ls 2 [(0, .ref (A 0)), (1, .int (nI y))] := hl
  obtain ⟨H, hH⟩ : ∃ X, X = s.heap := ⟨_, rfl⟩
  obtain ⟨locs, hlocs⟩ : ∃ X : List Loc, X = [] := ⟨_, rfl⟩
  have hw0 := hw
  obtain ⟨f, hf0⟩ : ∃ X, X = f0 := ⟨_, rfl⟩
  rw [← hf0] at h_o h_ts h_ps h_bs h_rw h_gs
  have hw : WW D (AW L sz) s.heap L f H locs := by rw [hH, hlocs, hf0]; exact hw
  have hF : ∀ b ∈ L, b ≠ (A 0) → b ≠ (A 1) → b ≠ (A 2) → b ≠ (A 3) → b ≠ (A 4) → b ≠ (A 5) → f b = f0 b := fun b hb h0 h1 h2 h3 h4 h5 => by rw [hf0]
  suffices hgo : W p l e R s m args below meth c H locs 0 0 Q (F0 m 0 ls []) by rw [hH, hlocs] at hgo; exact hgo
  clear hH hlocs hw0 hf0
  have hLs : ∀ b ∈ L, b ∈ L := fun _ h => h
  have n_o_ts : A 0 ≠ A 1 := hA.ne (by decide) (by decide) (by decide)
  have n_o_ps : A 0 ≠ A 2 := hA.ne (by decide) (by decide) (by decide)
  have n_o_bs : A 0 ≠ A 3 := hA.ne (by decide) (by decide) (by decide)
  have n_o_rw : A 0 ≠ A 4 := hA.ne (by decide) (by decide) (by decide)
  have n_o_gs : A 0 ≠ A 5 := hA.ne (by decide) (by decide) (by decide)
  have n_ts_ps : A 1 ≠ A 2 := hA.ne (by decide) (by decide) (by decide)
  have n_ts_bs : A 1 ≠ A 3 := hA.ne (by decide) (by decide) (by decide)
  have n_ts_rw : A 1 ≠ A 4 := hA.ne (by decide) (by decide) (by decide)
  have n_ts_gs : A 1 ≠ A 5 := hA.ne (by decide) (by decide) (by decide)
  have n_ps_bs : A 2 ≠ A 3 := hA.ne (by decide) (by decide) (by decide)
  have n_ps_rw : A 2 ≠ A 4 := hA.ne (by decide) (by decide) (by decide)
  have n_ps_gs : A 2 ≠ A 5 := hA.ne (by decide) (by decide) (by decide)
  have n_bs_rw : A 3 ≠ A 4 := hA.ne (by decide) (by decide) (by decide)
  have n_bs_gs : A 3 ≠ A 5 := hA.ne (by decide) (by decide) (by decide)
  have n_rw_gs : A 4 ≠ A 5 := hA.ne (by decide) (by decide) (by decide)
  refine lv_aload_n E.1.1 E.1.2.1 dX6_keep_0 rfl (lv_at hl 0 rfl) ?_
  refine lv_bipush (v := nI 83) E.1.1 E.1.2.1 dX6_keep_1 rfl ?_
  refine k_mi hw (va_runV (As := [.int (nI 83)]) (rest := []) E.1 (m_isKept l D cy L f H.size A base fr pb ns T P B rr G hA hTP 83 (by decide) hpb hfp h_o h_ts h_ps h_bs h_rw) ⟨callB_of 1 E.1.2.2.2.2 (gd_own w3_51) rfl rfl rfl (E.1.2.2.2.2 _ w1_10) (E.1.2.2.2.2 _ w3_48) hd_X6_isKept (by rw [hR]; exact ⟨Nat.le_of_ble_eq_true rfl, Nat.le_of_ble_eq_true rfl⟩), E.1.2.2.2.2 _ w3_50, E.1.2.2.2.2 _ ws_26⟩ (pw_preV (q := (RX6, TX6, 12)) E.2 hw h_o rfl) rfl rfl hl.1 rfl (lv_room (Nat.le_of_ble_eq_true rfl)) dX6_keep_3 (by rw [hR]; exact ⟨Nat.le_of_ble_eq_true rfl, Nat.le_of_ble_eq_true rfl⟩)) (fun r L1 f H locs hp hw => ?_)
  obtain ⟨hL1, hfr, t2, q2, hC2, h_o, hcase⟩ := hp
  have hL1 : L = L1 := hL1
  subst hL1
  rcases hcase with ⟨rfl, hno, h_ts, h_ps, h_bs⟩ | ⟨rfl, b2, hS2, h_ts, h_ps, h_bs⟩
  · have hno2 := hno
    have h_o : cel L f (A 0) (.inr (6, [.int (nI base), .ref (A 1), .ref (A 2), .ref (A 3), .ref (A 4), .int (nI t2), .int (nI q2), .ref (A 5), .int (nI ns), .ref (A 6), .ref (A 7), .ref (A 8)])) := h_o
    have h_ts : cel L f (A 1) (.inl (cy 0, 84, .inl (fun k => nI (T k)))) := h_ts
    have h_ps : cel L f (A 2) (.inl (cy 0, 84, .inl (fun k => nI (P k)))) := h_ps
    have h_bs : cel L f (A 3) (.inl (cy 1, 252, .inr (.inl (rw3 B)))) := h_bs
    have h_rw := h_rw.keep (fun _ h => h) (hfr _ h_rw.1 (Ne.symm n_o_rw) (Ne.symm n_ts_rw) (Ne.symm n_ps_rw) (Ne.symm n_bs_rw))
    have h_gs := h_gs.keep (fun _ h => h) (hfr _ h_gs.1 (Ne.symm n_o_gs) (Ne.symm n_ts_gs) (Ne.symm n_ps_gs) (Ne.symm n_bs_gs))
    have hF : ∀ b ∈ L, b ≠ (A 0) → b ≠ (A 1) → b ≠ (A 2) → b ≠ (A 3) → b ≠ (A 4) → b ≠ (A 5) → f b = f0 b := fun b hb h0 h1 h2 h3 h4 h5 => (hfr b (hLs b hb) h0 h1 h2 h3).trans (hF b hb h0 h1 h2 h3 h4 h5)
    refine k_if1 (tgt := 12) E dX6_keep_6 (by decide) (fun c6 => absurd c6 (by decide)) (fun c6 => ?_)
    refine lv_bipush (v := -4) E.1.1 E.1.2.1 dX6_keep_9 rfl ?_
    exact k_miret E hQ hlk hr hw (Nat.le_of_ble_eq_true rfl) (Nat.le_of_ble_eq_true rfl) (⟨rfl, hF, t2, q2, ns, T, P, B, rr, G, h_o, h_ts, h_ps, h_bs, h_rw, h_gs, hTP, fun _ _ _ => ⟨rfl, rfl, rfl⟩, Or.inl ⟨rfl, Or.inl hno, rfl, rfl, rfl⟩⟩) dX6_keep_11
  · have hS3 := hS2
    have h_o : cel L f (A 0) (.inr (6, [.int (nI base), .ref (A 1), .ref (A 2), .ref (A 3), .ref (A 4), .int (nI t2), .int (nI q2), .ref (A 5), .int (nI ns), .ref (A 6), .ref (A 7), .ref (A 8)])) := h_o
    have h_ts : cel L f (A 1) (.inl (cy 0, 84, .inl (fun k => nI ((va_up T 83 t2) k)))) := h_ts
    have h_ps : cel L f (A 2) (.inl (cy 0, 84, .inl (fun k => nI ((va_up P 83 q2) k)))) := h_ps
    have h_bs : cel L f (A 3) (.inl (cy 1, 252, .inr (.inl (rw3 (va_up B 83 b2))))) := h_bs
    have h_rw := h_rw.keep (fun _ h => h) (hfr _ h_rw.1 (Ne.symm n_o_rw) (Ne.symm n_ts_rw) (Ne.symm n_ps_rw) (Ne.symm n_bs_rw))
    have h_gs := h_gs.keep (fun _ h => h) (hfr _ h_gs.1 (Ne.symm n_o_gs) (Ne.symm n_ts_gs) (Ne.symm n_ps_gs) (Ne.symm n_bs_gs))
    have hF : ∀ b ∈ L, b ≠ (A 0) → b ≠ (A 1) → b ≠ (A 2) → b ≠ (A 3) → b ≠ (A 4) → b ≠ (A 5) → f b = f0 b := fun b hb h0 h1 h2 h3 h4 h5 => (hfr b (hLs b hb) h0 h1 h2 h3).trans (hF b hb h0 h1 h2 h3 h4 h5)
    have hTP1 : TP (va_up T 83 t2) (va_up P 83 q2) := hTP.up hS2.2.2.1 hS2.1.1 hS2.2.1
    refine k_if1 (tgt := 12) E dX6_keep_6 (by decide) (fun c6 => ?_) (fun c6 => absurd c6 (by decide))
    refine lv_aload_n E.1.1 E.1.2.1 dX6_keep_12 rfl (lv_at hl 0 rfl) ?_
    refine lv_bipush (v := nI 83) E.1.1 E.1.2.1 dX6_keep_13 rfl ?_
    refine lv_bipush (v := nI 18) E.1.1 E.1.2.1 dX6_keep_15 rfl ?_
    refine k_mv hw (va_runV (As := [.int (nI 83), .int (nI 18)]) (rest := []) E.1 (m_copy l D cy L f H.size A base t2 q2 ns (va_up T 83 t2) (va_up P 83 q2) (va_up B 83 b2) rr G hA hTP1 83 18 (by decide) (by decide) h_o h_ts h_ps h_bs) ⟨callB_of 2 E.1.2.2.2.2 (gd_own w3_67) rfl rfl rfl (E.1.2.2.2.2 _ w1_10) (E.1.2.2.2.2 _ w3_64) hd_X6_copy (by rw [hR]; exact ⟨Nat.le_of_ble_eq_true rfl, Nat.le_of_ble_eq_true rfl⟩), E.1.2.2.2.2 _ w3_66, E.1.2.2.2.2 _ ws_30⟩ (pw_preV (q := (RX6, TX6, 12)) E.2 hw h_o rfl) rfl rfl hl.1 rfl (lv_room (Nat.le_of_ble_eq_true rfl)) dX6_keep_17 (by rw [hR]; exact ⟨Nat.le_of_ble_eq_true rfl, Nat.le_of_ble_eq_true rfl⟩)) (fun L1 f H locs hp hw => ?_)
    obtain ⟨hL1, hfr, h_ts, h_ps, h_bs⟩ := hp
    have hL1 : L = L1 := hL1
    subst hL1
    have h_ts : cel L f (A 1) (.inl (cy 0, 84, .inl (fun k => nI ((va_up (va_up T 83 t2) 18 ((va_up T 83 t2) 83)) k)))) := h_ts
    have h_ps : cel L f (A 2) (.inl (cy 0, 84, .inl (fun k => nI ((va_up (va_up P 83 q2) 18 ((va_up P 83 q2) 83)) k)))) := h_ps
    have h_bs : cel L f (A 3) (.inl (cy 1, 252, .inr (.inl (rw3 (va_up (va_up B 83 b2) 18 ((va_up B 83 b2) 83)))))) := h_bs
    have h_o := h_o.keep (fun _ h => h) (hfr _ h_o.1 n_o_ts n_o_ps n_o_bs)
    have h_rw := h_rw.keep (fun _ h => h) (hfr _ h_rw.1 (Ne.symm n_ts_rw) (Ne.symm n_ps_rw) (Ne.symm n_bs_rw))
    have h_gs := h_gs.keep (fun _ h => h) (hfr _ h_gs.1 (Ne.symm n_ts_gs) (Ne.symm n_ps_gs) (Ne.symm n_bs_gs))
    have hF : ∀ b ∈ L, b ≠ (A 0) → b ≠ (A 1) → b ≠ (A 2) → b ≠ (A 3) → b ≠ (A 4) → b ≠ (A 5) → f b = f0 b := fun b hb h0 h1 h2 h3 h4 h5 => (hfr b (hLs b hb) h1 h2 h3).trans (hF b hb h0 h1 h2 h3 h4 h5)
    have hTPb : TP (va_up (va_up T 83 t2) 18 ((va_up T 83 t2) 83)) (va_up (va_up P 83 q2) 18 ((va_up P 83 q2) 83)) := hTP1.up (by rw [va_up_self]; exact hS2.2.2.1) (by rw [va_up_self]; exact hS2.1.1) (by rw [va_up_self]; exact hS2.2.1)
    refine lv_aload_n E.1.1 E.1.2.1 dX6_keep_20 rfl (lv_at hl 0 rfl) ?_
    refine lv_bipush (v := nI 18) E.1.1 E.1.2.1 dX6_keep_21 rfl ?_
    refine k_mv hw (va_runV (As := [.int (nI 18)]) (rest := []) E.1 (m_layMachine l D cy L f H.size A base t2 q2 ns (va_up (va_up T 83 t2) 18 ((va_up T 83 t2) 83)) (va_up (va_up P 83 q2) 18 ((va_up P 83 q2) 83)) (va_up (va_up B 83 b2) 18 ((va_up B 83 b2) 83)) rr G hA hTPb 18 (den fr pb rr) (by decide) hb0 hb5 (by rw [va_up_self, va_up_self, va_up_self, va_up_self, va_up_self, va_up_self]; exact hS2) h_o h_ts h_ps h_bs h_rw h_gs) ⟨callB_of 1 E.1.2.2.2.2 (gd_own w3_71) rfl rfl rfl (E.1.2.2.2.2 _ w1_10) (E.1.2.2.2.2 _ w3_68) hd_X6_layMachine (by rw [hR]; exact ⟨Nat.le_of_ble_eq_true rfl, Nat.le_of_ble_eq_true rfl⟩), E.1.2.2.2.2 _ w3_70, E.1.2.2.2.2 _ ws_31⟩ (pw_preV (q := (RX6, TX6, 12)) E.2 hw h_o rfl) rfl rfl hl.1 rfl (lv_room (Nat.le_of_ble_eq_true rfl)) dX6_keep_23 (by rw [hR]; exact ⟨Nat.le_of_ble_eq_true rfl, Nat.le_of_ble_eq_true rfl⟩)) (fun L1 f H locs hp hw => ?_)
    obtain ⟨hL1, hfr, fr2, pb2, ns2, T2, P2, B2, rr2, G2, h_o, h_ts, h_ps, h_bs, h_rw, h_gs, hTP2, hAG2, hS18, hns0, hns65, hML⟩ := hp
    have hL1 : L = L1 := hL1
    subst hL1
    have h_o : cel L f (A 0) (.inr (6, [.int (nI base), .ref (A 1), .ref (A 2), .ref (A 3), .ref (A 4), .int (nI fr2), .int (nI pb2), .ref (A 5), .int (nI ns2), .ref (A 6), .ref (A 7), .ref (A 8)])) := h_o
    have h_ts : cel L f (A 1) (.inl (cy 0, 84, .inl (fun k => nI (T2 k)))) := h_ts
    have h_ps : cel L f (A 2) (.inl (cy 0, 84, .inl (fun k => nI (P2 k)))) := h_ps
    have h_bs : cel L f (A 3) (.inl (cy 1, 252, .inr (.inl (rw3 B2)))) := h_bs
    have h_rw : cel L f (A 4) (.inl (cy 2, 4096, .inl (fun k => b2i (rr2 k)))) := h_rw
    have h_gs : cel L f (A 5) (.inl (cy 0, 325, .inl G2)) := h_gs
    have hF : ∀ b ∈ L, b ≠ (A 0) → b ≠ (A 1) → b ≠ (A 2) → b ≠ (A 3) → b ≠ (A 4) → b ≠ (A 5) → f b = f0 b := fun b hb h0 h1 h2 h3 h4 h5 => (hfr b (hLs b hb) h0 h1 h2 h3 h4 h5).trans (hF b hb h0 h1 h2 h3 h4 h5)
    have hag2 : ∀ j, j < 18 → T2 j = T j ∧ P2 j = P j ∧ B2 j = B j := fun j hj => by
        obtain ⟨a1, a2, a3⟩ := hAG2 j hj
        rw [va_up_ne _ _ (by omega), va_up_ne _ _ (by omega)] at a1 a2 a3
        exact ⟨a1, a2, a3⟩
    refine lv_aload_n E.1.1 E.1.2.1 dX6_keep_26 rfl (lv_at hl 0 rfl) ?_
    refine k_get (v := .int (nI ns2)) E inlX6 rfl 8 (by decide) w3_0 rfl hw h_o rfl dX6_keep_27 ?_
    refine lv_bipush (v := nI 64) E.1.1 E.1.2.1 dX6_keep_30 rfl ?_
    refine k_le (tgt := 38) E dX6_keep_32 (by decide) (by omega) (by omega) (fun c32 => ?_) (fun c32 => ?_)
    · refine lv_aload_n E.1.1 E.1.2.1 dX6_keep_38 rfl (lv_at hl 0 rfl) ?_
      refine lv_bipush (v := nI 18) E.1.1 E.1.2.1 dX6_keep_39 rfl ?_
      refine lv_iload_n E.1.1 E.1.2.1 dX6_keep_41 rfl (lv_at hl 1 rfl) ?_
      refine k_mv hw (va_runV (As := [.int (nI 18), .int (nI y)]) (rest := []) E.1 (m_copy l D cy L f H.size A base fr2 pb2 ns2 T2 P2 B2 rr2 G2 hA hTP2 18 y (by decide) (by omega) h_o h_ts h_ps h_bs) ⟨callB_of 2 E.1.2.2.2.2 (gd_own w3_67) rfl rfl rfl (E.1.2.2.2.2 _ w1_10) (E.1.2.2.2.2 _ w3_64) hd_X6_copy (by rw [hR]; exact ⟨Nat.le_of_ble_eq_true rfl, Nat.le_of_ble_eq_true rfl⟩), E.1.2.2.2.2 _ w3_66, E.1.2.2.2.2 _ ws_30⟩ (pw_preV (q := (RX6, TX6, 12)) E.2 hw h_o rfl) rfl rfl hl.1 rfl (lv_room (Nat.le_of_ble_eq_true rfl)) dX6_keep_42 (by rw [hR]; exact ⟨Nat.le_of_ble_eq_true rfl, Nat.le_of_ble_eq_true rfl⟩)) (fun L1 f H locs hp hw => ?_)
      obtain ⟨hL1, hfr, h_ts, h_ps, h_bs⟩ := hp
      have hL1 : L = L1 := hL1
      subst hL1
      have h_ts : cel L f (A 1) (.inl (cy 0, 84, .inl (fun k => nI ((va_up T2 y (T2 18)) k)))) := h_ts
      have h_ps : cel L f (A 2) (.inl (cy 0, 84, .inl (fun k => nI ((va_up P2 y (P2 18)) k)))) := h_ps
      have h_bs : cel L f (A 3) (.inl (cy 1, 252, .inr (.inl (rw3 (va_up B2 y (B2 18)))))) := h_bs
      have h_o := h_o.keep (fun _ h => h) (hfr _ h_o.1 n_o_ts n_o_ps n_o_bs)
      have h_rw := h_rw.keep (fun _ h => h) (hfr _ h_rw.1 (Ne.symm n_ts_rw) (Ne.symm n_ps_rw) (Ne.symm n_bs_rw))
      have h_gs := h_gs.keep (fun _ h => h) (hfr _ h_gs.1 (Ne.symm n_ts_gs) (Ne.symm n_ps_gs) (Ne.symm n_bs_gs))
      have hF : ∀ b ∈ L, b ≠ (A 0) → b ≠ (A 1) → b ≠ (A 2) → b ≠ (A 3) → b ≠ (A 4) → b ≠ (A 5) → f b = f0 b := fun b hb h0 h1 h2 h3 h4 h5 => (hfr b (hLs b hb) h1 h2 h3).trans (hF b hb h0 h1 h2 h3 h4 h5)
      refine lv_aload_n E.1.1 E.1.2.1 dX6_keep_45 rfl (lv_at hl 0 rfl) ?_
      refine k_get (v := .int (nI ns2)) E inlX6 rfl 8 (by decide) w3_0 rfl hw h_o rfl dX6_keep_46 ?_
      exact k_miret E hQ hlk hr hw (Nat.le_of_ble_eq_true rfl) (Nat.le_of_ble_eq_true rfl) (⟨rfl, hF, fr2, pb2, ns2, va_up T2 y (T2 18), va_up P2 y (P2 18), va_up B2 y (B2 18), rr2, G2, h_o, h_ts, h_ps, h_bs, h_rw, h_gs, hTP2.up hS18.2.2.1 hS18.1.1 hS18.2.1, fun j hj hn => by rw [va_up_ne _ _ hn, va_up_ne _ _ hn, va_up_ne _ _ hn]; exact hag2 j hj, Or.inr ⟨ns2, rfl, by rcases hML with ⟨_, h, _⟩ | ⟨h, _⟩; exact h; omega, by rw [va_up_self, va_up_self, va_up_self]; exact hS18⟩⟩) dX6_keep_49
    · refine lv_bipush (v := -4) E.1.1 E.1.2.1 dX6_keep_35 rfl ?_
      exact k_miret E hQ hlk hr hw (Nat.le_of_ble_eq_true rfl) (Nat.le_of_ble_eq_true rfl) (⟨rfl, hF, fr2, pb2, ns2, T2, P2, B2, rr2, G2, h_o, h_ts, h_ps, h_bs, h_rw, h_gs, hTP2, fun j hj _ => hag2 j hj, Or.inl ⟨rfl, Or.inr (by rcases hML with ⟨h, _⟩ | ⟨_, h⟩; omega; exact h), (hag2 y hy).1, (hag2 y hy).2.1, (hag2 y hy).2.2⟩⟩) dX6_keep_37

set_option maxHeartbeats 4000000 in
set_option maxRecDepth 100000 in
theorem m_common (l : Launch) (D : va_G) (cy : Nat → ClassId) (L : List Nat) (f : Nat → va_E) (sz : Nat) (x0 y0 : Nat) (hx : x0 ≤ 60) (hy : y0 ≤ 60) : Met l yX6_common (.code yX6_common cX6_common 6 (Option.some FieldType.int) :: wsL_law) { frames := 0, cells := 0, slots := 0, locals := 0 } (va_Pc [.int (nI x0), .int (nI y0)] (PW D cy L f sz)) (vp_Si (fun r => r = nI (Nat.gcd x0 y0))) 0 0 (fun _ => False) := by
  refine m_start (by decide) (Nat.le_of_ble_eq_true rfl) ?_
  intro p e R Q s m args below meth c ls hsz hR hQ E hr hlk hnm hw hl
  have hl : lv_has ls 6 [(0, .int (nI x0)), (1, .int (nI y0))] := hl
  refine lv_iload_n E.1.1 E.1.2.1 dX6_common_0 rfl (lv_at hl 0 rfl) ?_
  refine lv_istore_n (lv' := [(2, .int (nI x0)), (0, .int (nI x0)), (1, .int (nI y0))]) E.1.1 E.1.2.1 dX6_common_1 rfl hl (by decide) rfl (fun ls hl => ?_)
  refine lv_iload_n E.1.1 E.1.2.1 dX6_common_2 rfl (lv_at hl 2 rfl) ?_
  refine lv_istore_n (lv' := [(3, .int (nI y0)), (2, .int (nI x0)), (0, .int (nI x0)), (1, .int (nI y0))]) E.1.1 E.1.2.1 dX6_common_3 rfl hl (by decide) rfl (fun ls hl => ?_)
  refine lv_iconst (v := nI 0) E.1.1 E.1.2.1 dX6_common_4 rfl ?_
  refine lv_istore (lv' := [(4, .int (nI 0)), (3, .int (nI y0)), (2, .int (nI x0)), (0, .int (nI x0)), (1, .int (nI y0))]) E.1.1 E.1.2.1 dX6_common_5 hl (by decide) rfl (fun ls hl => ?_)
  have lp7 : ∀ (k : Nat) (i : Nat) (x : Nat) (y : Nat) (ls : Array Slot), (61 - i < k) → (y + i ≤ 60) → (x ≤ 60) → (Nat.gcd x y = Nat.gcd x0 y0) → (lv_has ls 6 [(4, .int (nI i)), (2, .int (nI x)), (3, .int (nI y)), (0, .int (nI x0)), (1, .int (nI y0))]) → W p l e R s m args below meth c s.heap [] 0 0 Q (F0 m 7 ls []) := by
    intro k
    induction k with
    | zero => intro _ _ _ _ hk; exact absurd hk (Nat.not_lt_zero _)
    | succ k ih7 =>
      intro i x y  ls hk hi hx1 hg hl
      refine lv_iload E.1.1 E.1.2.1 dX6_common_7 (lv_at hl 0 rfl) ?_
      refine lv_bipush (v := nI 100) E.1.1 E.1.2.1 dX6_common_9 rfl ?_
      refine k_ge (tgt := 34) E dX6_common_11 (by decide) (by omega) (by omega) (fun c11 => absurd c11 (by omega)) (fun c11 => ?_)
      refine lv_iload_n E.1.1 E.1.2.1 dX6_common_14 rfl (lv_at hl 2 rfl) ?_
      refine k_z0 (tgt := 34) E dX6_common_15 (by decide) (by omega) (fun c15 => ?_) (fun c15 => ?_)
      · refine lv_iload_n E.1.1 E.1.2.1 dX6_common_34 rfl (lv_at hl 1 rfl) ?_
        exact k_iret E hQ hlk hr (by rw [← hg, c15, Nat.gcd_zero_right]) dX6_common_35
      · have hmo := Nat.mod_lt x (show 0 < y by omega)
        refine lv_iload_n E.1.1 E.1.2.1 dX6_common_18 rfl (lv_at hl 1 rfl) ?_
        refine lv_iload_n E.1.1 E.1.2.1 dX6_common_19 rfl (lv_at hl 2 rfl) ?_
        refine k_rem E dX6_common_20 (by omega) (by omega) (by omega) ?_
        refine lv_istore (lv' := [(5, .int (nI (x % y))), (4, .int (nI i)), (2, .int (nI x)), (3, .int (nI y)), (0, .int (nI x0)), (1, .int (nI y0))]) E.1.1 E.1.2.1 dX6_common_21 hl (by decide) rfl (fun ls hl => ?_)
        refine lv_iload_n E.1.1 E.1.2.1 dX6_common_23 rfl (lv_at hl 3 rfl) ?_
        refine lv_istore_n (lv' := [(2, .int (nI y)), (5, .int (nI (x % y))), (4, .int (nI i)), (3, .int (nI y)), (0, .int (nI x0)), (1, .int (nI y0))]) E.1.1 E.1.2.1 dX6_common_24 rfl hl (by decide) rfl (fun ls hl => ?_)
        refine lv_iload E.1.1 E.1.2.1 dX6_common_25 (lv_at hl 1 rfl) ?_
        refine lv_istore_n (lv' := [(3, .int (nI (x % y))), (2, .int (nI y)), (5, .int (nI (x % y))), (4, .int (nI i)), (0, .int (nI x0)), (1, .int (nI y0))]) E.1.1 E.1.2.1 dX6_common_27 rfl hl (by decide) rfl (fun ls hl => ?_)
        refine lv_iinc (v := nI (i + 1)) (lv' := [(4, .int (nI (i + 1))), (3, .int (nI (x % y))), (2, .int (nI y)), (5, .int (nI (x % y))), (0, .int (nI x0)), (1, .int (nI y0))]) E.1.1 E.1.2.1 dX6_common_28 hl (k := 3) rfl (nI_1 _) (by decide) rfl (fun ls hl => ?_)
        refine lv_goto (tgt := 7) E.1.1 E.1.2.1 dX6_common_31 (by decide) ?_
        exact ih7  (i + 1) y (x % y) ls (by omega) (by omega) (by omega) ((gcd_step x y).trans hg)  (lv_sub hl [0, 2, 1, 4, 5] rfl)
  exact lp7 (61 - 0 + 1) 0 x0 y0 ls (Nat.lt_succ_self _) (by omega) (by omega) (rfl)  (lv_sub hl [0, 2, 1, 3, 4] rfl)

set_option maxHeartbeats 4000000 in
set_option maxRecDepth 100000 in
theorem m_together (l : Launch) (D : va_G) (cy : Nat → ClassId) (L : List Nat) (f : Nat → va_E) (sz : Nat) (A : Nat → Nat) (base fr pb ns : Nat) (T P : Nat → Nat) (B : Nat → Nat → Bool) (rr : Nat → Bool) (G : Nat → Int32) (hA : MAd A) (hTP : TP T P) (x y : Nat) (hx : x < 84) (hy : y < 84) (h_o : cel L f (A 0) (.inr (6, [.int (nI base), .ref (A 1), .ref (A 2), .ref (A 3), .ref (A 4), .int (nI fr), .int (nI pb), .ref (A 5), .int (nI ns), .ref (A 6), .ref (A 7), .ref (A 8)]))) (h_ps : cel L f (A 2) (.inl (cy 0, 84, .inl (fun k => nI (P k))))) : Met l yX6_together (.code yX6_together cX6_together 3 (Option.some FieldType.int) :: wsL_law) { frames := 1, cells := 0, slots := 0, locals := 25 } (va_Pc [.ref (A 0), .int (nI x), .int (nI y)] (PW D cy L f sz)) (vp_Si (fun r => r = nI (P x / Nat.gcd (P x) (P y) * P y))) 0 0 (fun _ => False) := by
  refine m_start (by decide) (Nat.le_of_ble_eq_true rfl) ?_
  intro p e R Q s m args below meth c ls hsz hR hQ E hr hlk hnm hw hl
  have hl : lv_has ls 3 [(0, .ref (A 0)), (1, .int (nI x)), (2, .int (nI y))] := hl
  have hTx := hTP x hx
  have hTy := hTP y hy
  have hg := Nat.gcd_pos_of_pos_left (P y) hTx.2.1
  have hg2 := Nat.gcd_le_left (P y) hTx.2.1
  refine lv_aload_n E.1.1 E.1.2.1 dX6_together_0 rfl (lv_at hl 0 rfl) ?_
  refine k_get (v := .ref (A 2)) E inlX6 rfl 2 (by decide) w2_234 rfl hw h_o rfl dX6_together_1 ?_
  refine lv_iload_n E.1.1 E.1.2.1 dX6_together_4 rfl (lv_at hl 1 rfl) ?_
  refine k_iald E hw (v := nI (P x)) h_ps (by omega) (by omega) (rfl) dX6_together_5 ?_
  refine lv_aload_n E.1.1 E.1.2.1 dX6_together_6 rfl (lv_at hl 0 rfl) ?_
  refine k_get (v := .ref (A 2)) E inlX6 rfl 2 (by decide) w2_234 rfl hw h_o rfl dX6_together_7 ?_
  refine lv_iload_n E.1.1 E.1.2.1 dX6_together_10 rfl (lv_at hl 1 rfl) ?_
  refine k_iald E hw (v := nI (P x)) h_ps (by omega) (by omega) (rfl) dX6_together_11 ?_
  refine lv_aload_n E.1.1 E.1.2.1 dX6_together_12 rfl (lv_at hl 0 rfl) ?_
  refine k_get (v := .ref (A 2)) E inlX6 rfl 2 (by decide) w2_234 rfl hw h_o rfl dX6_together_13 ?_
  refine lv_iload_n E.1.1 E.1.2.1 dX6_together_16 rfl (lv_at hl 2 rfl) ?_
  refine k_iald E hw (v := nI (P y)) h_ps (by omega) (by omega) (rfl) dX6_together_17 ?_
  refine k_ri (va_runS (As := [.int (nI (P x)), .int (nI (P y))]) (rest := [.int (nI (P x))]) E.1 (m_common l D cy L f s.heap.size (P x) (P y) (by omega) (by omega)) ⟨callB_of 2 E.1.2.2.2.2 (gd_own w3_98) rfl rfl rfl (E.1.2.2.2.2 _ w1_10) (E.1.2.2.2.2 _ w3_96) hd_X6_common (by rw [hR]; exact ⟨Nat.le_of_ble_eq_true rfl, Nat.le_of_ble_eq_true rfl⟩), E.1.2.2.2.2 _ w3_97⟩ (pw_pre E.2 hw) rfl rfl hl.1 rfl (lv_room (Nat.le_of_ble_eq_true rfl)) dX6_together_18 ⟨Nat.zero_le _, Nat.zero_le _⟩) ?_
  refine k_div E dX6_together_21 (by omega) (by omega) (by omega) ?_
  refine lv_aload_n E.1.1 E.1.2.1 dX6_together_22 rfl (lv_at hl 0 rfl) ?_
  refine k_get (v := .ref (A 2)) E inlX6 rfl 2 (by decide) w2_234 rfl hw h_o rfl dX6_together_23 ?_
  refine lv_iload_n E.1.1 E.1.2.1 dX6_together_26 rfl (lv_at hl 2 rfl) ?_
  refine k_iald E hw (v := nI (P y)) h_ps (by omega) (by omega) (rfl) dX6_together_27 ?_
  refine k_mul E dX6_together_28 ?_
  exact k_iret E hQ hlk hr (rfl) dX6_together_29

set_option maxHeartbeats 4000000 in
set_option maxRecDepth 100000 in
theorem m_later (l : Launch) (D : va_G) (cy : Nat → ClassId) (L : List Nat) (f : Nat → va_E) (sz : Nat) (A : Nat → Nat) (base fr pb ns : Nat) (T P : Nat → Nat) (B : Nat → Nat → Bool) (rr : Nat → Bool) (G : Nat → Int32) (hA : MAd A) (hTP : TP T P) (x y : Nat) (hx : x < 84) (hy : y < 84) (h_o : cel L f (A 0) (.inr (6, [.int (nI base), .ref (A 1), .ref (A 2), .ref (A 3), .ref (A 4), .int (nI fr), .int (nI pb), .ref (A 5), .int (nI ns), .ref (A 6), .ref (A 7), .ref (A 8)]))) (h_ts : cel L f (A 1) (.inl (cy 0, 84, .inl (fun k => nI (T k))))) : Met l yX6_later (.code yX6_later cX6_later 3 (Option.some FieldType.int) :: wsL_law) { frames := 0, cells := 0, slots := 0, locals := 0 } (va_Pc [.ref (A 0), .int (nI x), .int (nI y)] (PW D cy L f sz)) (vp_Si (fun r => r = nI (max (T x) (T y)))) 0 0 (fun _ => False) := by
  refine m_start (by decide) (Nat.le_of_ble_eq_true rfl) ?_
  intro p e R Q s m args below meth c ls hsz hR hQ E hr hlk hnm hw hl
  have hl : lv_has ls 3 [(0, .ref (A 0)), (1, .int (nI x)), (2, .int (nI y))] := hl
  have hTx := hTP x hx
  have hTy := hTP y hy
  refine lv_aload_n E.1.1 E.1.2.1 dX6_later_0 rfl (lv_at hl 0 rfl) ?_
  refine k_get (v := .ref (A 1)) E inlX6 rfl 1 (by decide) w2_233 rfl hw h_o rfl dX6_later_1 ?_
  refine lv_iload_n E.1.1 E.1.2.1 dX6_later_4 rfl (lv_at hl 1 rfl) ?_
  refine k_iald E hw (v := nI (T x)) h_ts (by omega) (by omega) (rfl) dX6_later_5 ?_
  refine lv_aload_n E.1.1 E.1.2.1 dX6_later_6 rfl (lv_at hl 0 rfl) ?_
  refine k_get (v := .ref (A 1)) E inlX6 rfl 1 (by decide) w2_233 rfl hw h_o rfl dX6_later_7 ?_
  refine lv_iload_n E.1.1 E.1.2.1 dX6_later_10 rfl (lv_at hl 2 rfl) ?_
  refine k_iald E hw (v := nI (T y)) h_ts (by omega) (by omega) (rfl) dX6_later_11 ?_
  refine k_le (tgt := 24) E dX6_later_12 (by decide) (by omega) (by omega) (fun c12 => ?_) (fun c12 => ?_)
  · refine lv_aload_n E.1.1 E.1.2.1 dX6_later_24 rfl (lv_at hl 0 rfl) ?_
    refine k_get (v := .ref (A 1)) E inlX6 rfl 1 (by decide) w2_233 rfl hw h_o rfl dX6_later_25 ?_
    refine lv_iload_n E.1.1 E.1.2.1 dX6_later_28 rfl (lv_at hl 2 rfl) ?_
    refine k_iald E hw (v := nI (T y)) h_ts (by omega) (by omega) (rfl) dX6_later_29 ?_
    exact k_iret E hQ hlk hr (by rw [Nat.max_eq_right (by omega)]) dX6_later_30
  · refine lv_aload_n E.1.1 E.1.2.1 dX6_later_15 rfl (lv_at hl 0 rfl) ?_
    refine k_get (v := .ref (A 1)) E inlX6 rfl 1 (by decide) w2_233 rfl hw h_o rfl dX6_later_16 ?_
    refine lv_iload_n E.1.1 E.1.2.1 dX6_later_19 rfl (lv_at hl 1 rfl) ?_
    refine k_iald E hw (v := nI (T x)) h_ts (by omega) (by omega) (rfl) dX6_later_20 ?_
    refine lv_goto (tgt := 30) E.1.1 E.1.2.1 dX6_later_21 (by decide) ?_
    exact k_iret E hQ hlk hr (by rw [Nat.max_eq_left (by omega)]) dX6_later_30

set_option maxHeartbeats 4000000 in
set_option maxRecDepth 100000 in
theorem m_turn (l : Launch) (D : va_G) (cy : Nat → ClassId) (L : List Nat) (f0 : Nat → va_E) (sz : Nat) (A : Nat → Nat) (base : Nat) (SS : Nat → Nat → Bool) (kp : Nat → Bool) (kb : Nat → Nat) (KS : Nat → Nat → Nat → Bool) (hA : MAd A) (hN : MoW cy L f0 A base SS kp kb KS) (to src : Int32) : Met l yX6_turn (.code yX6_turn cX6_turn 4 (Option.some FieldType.int) :: wsL_law) { frames := 6, cells := 0, slots := 0, locals := 136 } (va_Pc [.ref (A 0), .int to, .int src] (PW D cy L f0 sz)) (va_Qi (fun (r : Int32) (u : List Nat × (Nat → va_E)) => L = u.1 ∧ (∀ b ∈ L, (∀ i, i < 9 → b ≠ A i) → u.2 b = f0 b) ∧ ∃ SS2, MoW cy L u.2 A base SS2 kp kb KS ∧ sp_un base SS SS2 to src true xTurn r) (PB D (AW L sz)) (AW L sz)) 0 0 (AW L sz) := by
  refine m_start (by decide) (Nat.le_of_ble_eq_true rfl) ?_
  intro p e R Q s m args below meth c ls hsz hR hQ E hr hlk hnm hw hl
  have hl : lv_has ls 4 [(0, .ref (A 0)), (1, .int to), (2, .int src)] := hl
  obtain ⟨H, hH⟩ : ∃ X, X = s.heap := ⟨_, rfl⟩
  obtain ⟨locs, hlocs⟩ : ∃ X : List Loc, X = [] := ⟨_, rfl⟩
  have hw0 := hw
  obtain ⟨hB, fr, pb, ns, T, P, B, rr, G, Fa, kb1, ⟨h_o, h_ts, h_ps, h_bs, h_rw, h_gs, h_fa, h_ba, h_it⟩, hTP, hMS, hMK⟩ := hN
  have hb2 := hB.two
  obtain ⟨f, hf0⟩ : ∃ X, X = f0 := ⟨_, rfl⟩
  rw [← hf0] at h_o h_ts h_ps h_bs h_rw h_gs h_fa h_ba h_it
  have hw : WW D (AW L sz) s.heap L f H locs := by rw [hH, hlocs, hf0]; exact hw
  have hF : ∀ b ∈ L, b ≠ (A 0) → b ≠ (A 1) → b ≠ (A 2) → b ≠ (A 3) → b ≠ (A 4) → b ≠ (A 5) → f b = f0 b := fun b hb h0 h1 h2 h3 h4 h5 => by rw [hf0]
  suffices hgo : W p l e R s m args below meth c H locs 0 0 Q (F0 m 0 ls []) by rw [hH, hlocs] at hgo; exact hgo
  clear hH hlocs hw0 hf0
  have hLs : ∀ b ∈ L, b ∈ L := fun _ h => h
  have n_o_ts : A 0 ≠ A 1 := hA.ne (by decide) (by decide) (by decide)
  have n_o_ps : A 0 ≠ A 2 := hA.ne (by decide) (by decide) (by decide)
  have n_o_bs : A 0 ≠ A 3 := hA.ne (by decide) (by decide) (by decide)
  have n_o_rw : A 0 ≠ A 4 := hA.ne (by decide) (by decide) (by decide)
  have n_o_gs : A 0 ≠ A 5 := hA.ne (by decide) (by decide) (by decide)
  have n_o_fa : A 0 ≠ A 6 := hA.ne (by decide) (by decide) (by decide)
  have n_o_ba : A 0 ≠ A 7 := hA.ne (by decide) (by decide) (by decide)
  have n_o_it : A 0 ≠ A 8 := hA.ne (by decide) (by decide) (by decide)
  have n_ts_ps : A 1 ≠ A 2 := hA.ne (by decide) (by decide) (by decide)
  have n_ts_bs : A 1 ≠ A 3 := hA.ne (by decide) (by decide) (by decide)
  have n_ts_rw : A 1 ≠ A 4 := hA.ne (by decide) (by decide) (by decide)
  have n_ts_gs : A 1 ≠ A 5 := hA.ne (by decide) (by decide) (by decide)
  have n_ts_fa : A 1 ≠ A 6 := hA.ne (by decide) (by decide) (by decide)
  have n_ts_ba : A 1 ≠ A 7 := hA.ne (by decide) (by decide) (by decide)
  have n_ts_it : A 1 ≠ A 8 := hA.ne (by decide) (by decide) (by decide)
  have n_ps_bs : A 2 ≠ A 3 := hA.ne (by decide) (by decide) (by decide)
  have n_ps_rw : A 2 ≠ A 4 := hA.ne (by decide) (by decide) (by decide)
  have n_ps_gs : A 2 ≠ A 5 := hA.ne (by decide) (by decide) (by decide)
  have n_ps_fa : A 2 ≠ A 6 := hA.ne (by decide) (by decide) (by decide)
  have n_ps_ba : A 2 ≠ A 7 := hA.ne (by decide) (by decide) (by decide)
  have n_ps_it : A 2 ≠ A 8 := hA.ne (by decide) (by decide) (by decide)
  have n_bs_rw : A 3 ≠ A 4 := hA.ne (by decide) (by decide) (by decide)
  have n_bs_gs : A 3 ≠ A 5 := hA.ne (by decide) (by decide) (by decide)
  have n_bs_fa : A 3 ≠ A 6 := hA.ne (by decide) (by decide) (by decide)
  have n_bs_ba : A 3 ≠ A 7 := hA.ne (by decide) (by decide) (by decide)
  have n_bs_it : A 3 ≠ A 8 := hA.ne (by decide) (by decide) (by decide)
  have n_rw_gs : A 4 ≠ A 5 := hA.ne (by decide) (by decide) (by decide)
  have n_rw_fa : A 4 ≠ A 6 := hA.ne (by decide) (by decide) (by decide)
  have n_rw_ba : A 4 ≠ A 7 := hA.ne (by decide) (by decide) (by decide)
  have n_rw_it : A 4 ≠ A 8 := hA.ne (by decide) (by decide) (by decide)
  have n_gs_fa : A 5 ≠ A 6 := hA.ne (by decide) (by decide) (by decide)
  have n_gs_ba : A 5 ≠ A 7 := hA.ne (by decide) (by decide) (by decide)
  have n_gs_it : A 5 ≠ A 8 := hA.ne (by decide) (by decide) (by decide)
  refine lv_iload_n E.1.1 E.1.2.1 dX6_turn_0 rfl (lv_at hl 1 rfl) ?_
  refine k_ri (va_runS (As := [.int to]) (rest := []) E.1 (m_isSlot l D cy L f H.size to) ⟨callB_of 1 E.1.2.2.2.2 (gd_own w3_40) rfl rfl rfl (E.1.2.2.2.2 _ w1_10) (E.1.2.2.2.2 _ w3_38) hd_X6_isSlot (by rw [hR]; exact ⟨Nat.le_of_ble_eq_true rfl, Nat.le_of_ble_eq_true rfl⟩), E.1.2.2.2.2 _ w3_39⟩ (pw_pre E.2 hw) rfl rfl hl.1 rfl (lv_room (Nat.le_of_ble_eq_true rfl)) dX6_turn_1 ⟨Nat.zero_le _, Nat.zero_le _⟩) ?_
  refine k_if0 (tgt := 14) E dX6_turn_4 (by decide) (fun c4 => ?_) (fun c4 => ?_)
  · refine lv_iconst (v := -1) E.1.1 E.1.2.1 dX6_turn_14 rfl ?_
    exact k_miret E hQ hlk hr hw (Nat.le_of_ble_eq_true rfl) (Nat.le_of_ble_eq_true rfl) (⟨rfl, fun b hb h => hF b hb (h 0 (by decide)) (h 1 (by decide)) (h 2 (by decide)) (h 3 (by decide)) (h 4 (by decide)) (h 5 (by decide)), SS, ⟨hB, _, _, _, _, _, _, _, _, _, _, ⟨h_o, h_ts, h_ps, h_bs, h_rw, h_gs, h_fa, h_ba, h_it⟩, hTP, hMS, hMK⟩, sp_un_1 (Or.inl c4)⟩) dX6_turn_15
  · obtain ⟨j, hj, rfl⟩ := in_ex (by decide) c4
    refine lv_iload_n E.1.1 E.1.2.1 dX6_turn_7 rfl (lv_at hl 2 rfl) ?_
    refine k_ri (va_runS (As := [.int src]) (rest := []) E.1 (m_isSlot l D cy L f H.size src) ⟨callB_of 1 E.1.2.2.2.2 (gd_own w3_40) rfl rfl rfl (E.1.2.2.2.2 _ w1_10) (E.1.2.2.2.2 _ w3_38) hd_X6_isSlot (by rw [hR]; exact ⟨Nat.le_of_ble_eq_true rfl, Nat.le_of_ble_eq_true rfl⟩), E.1.2.2.2.2 _ w3_39⟩ (pw_pre E.2 hw) rfl rfl hl.1 rfl (lv_room (Nat.le_of_ble_eq_true rfl)) dX6_turn_8 ⟨Nat.zero_le _, Nat.zero_le _⟩) ?_
    refine k_if1 (tgt := 16) E dX6_turn_11 (by decide) (fun c11 => ?_) (fun c11 => ?_)
    · obtain ⟨x1, hx1, rfl⟩ := in_ex (by decide) c11
      have hS1 := (hMS x1 (by omega)).1
      have hS1a := hS1.1.1
      have hS1b := hS1.2.1
      have hS1c := hS1.2.2.1
      refine lv_aload_n E.1.1 E.1.2.1 dX6_turn_16 rfl (lv_at hl 0 rfl) ?_
      refine lv_aload_n E.1.1 E.1.2.1 dX6_turn_17 rfl (lv_at hl 0 rfl) ?_
      refine k_get (v := .ref (A 1)) E inlX6 rfl 1 (by decide) w2_233 rfl hw h_o rfl dX6_turn_18 ?_
      refine lv_iload_n E.1.1 E.1.2.1 dX6_turn_21 rfl (lv_at hl 2 rfl) ?_
      refine k_iald E hw (v := nI (T x1)) h_ts (by omega) (by omega) (rfl) dX6_turn_22 ?_
      refine k_put (ty0 := tyX6) E inlX6 rfl tyX6_ok nmX6 5 (by decide) w2_237 rfl rfl hw [.int (nI base), .ref (A 1), .ref (A 2), .ref (A 3), .ref (A 4), .int (nI (T x1)), .int (nI pb), .ref (A 5), .int (nI ns), .ref (A 6), .ref (A 7), .ref (A 8)] h_o (rfl) (rfl) (Nat.le_of_ble_eq_true rfl) rfl dX6_turn_23 (fun f H locs h_o hfr hw => ?_)
      have h_ts := h_ts.kp hfr (Ne.symm n_o_ts)
      have h_ps := h_ps.kp hfr (Ne.symm n_o_ps)
      have h_bs := h_bs.kp hfr (Ne.symm n_o_bs)
      have h_rw := h_rw.kp hfr (Ne.symm n_o_rw)
      have h_gs := h_gs.kp hfr (Ne.symm n_o_gs)
      have h_fa := h_fa.kp hfr (Ne.symm n_o_fa)
      have h_ba := h_ba.kp hfr (Ne.symm n_o_ba)
      have h_it := h_it.kp hfr (Ne.symm n_o_it)
      have hF : ∀ b ∈ L, b ≠ (A 0) → b ≠ (A 1) → b ≠ (A 2) → b ≠ (A 3) → b ≠ (A 4) → b ≠ (A 5) → f b = f0 b := fun b hb h0 h1 h2 h3 h4 h5 => (hfr b h0).trans (hF b hb h0 h1 h2 h3 h4 h5)
      refine lv_aload_n E.1.1 E.1.2.1 dX6_turn_26 rfl (lv_at hl 0 rfl) ?_
      refine lv_aload_n E.1.1 E.1.2.1 dX6_turn_27 rfl (lv_at hl 0 rfl) ?_
      refine k_get (v := .ref (A 2)) E inlX6 rfl 2 (by decide) w2_234 rfl hw h_o rfl dX6_turn_28 ?_
      refine lv_iload_n E.1.1 E.1.2.1 dX6_turn_31 rfl (lv_at hl 2 rfl) ?_
      refine k_iald E hw (v := nI (P x1)) h_ps (by omega) (by omega) (rfl) dX6_turn_32 ?_
      refine k_put (ty0 := tyX6) E inlX6 rfl tyX6_ok nmX6 6 (by decide) w2_238 rfl rfl hw [.int (nI base), .ref (A 1), .ref (A 2), .ref (A 3), .ref (A 4), .int (nI (T x1)), .int (nI (P x1)), .ref (A 5), .int (nI ns), .ref (A 6), .ref (A 7), .ref (A 8)] h_o (rfl) (rfl) (Nat.le_of_ble_eq_true rfl) rfl dX6_turn_33 (fun f H locs h_o hfr hw => ?_)
      have h_ts := h_ts.kp hfr (Ne.symm n_o_ts)
      have h_ps := h_ps.kp hfr (Ne.symm n_o_ps)
      have h_bs := h_bs.kp hfr (Ne.symm n_o_bs)
      have h_rw := h_rw.kp hfr (Ne.symm n_o_rw)
      have h_gs := h_gs.kp hfr (Ne.symm n_o_gs)
      have h_fa := h_fa.kp hfr (Ne.symm n_o_fa)
      have h_ba := h_ba.kp hfr (Ne.symm n_o_ba)
      have h_it := h_it.kp hfr (Ne.symm n_o_it)
      have hF : ∀ b ∈ L, b ≠ (A 0) → b ≠ (A 1) → b ≠ (A 2) → b ≠ (A 3) → b ≠ (A 4) → b ≠ (A 5) → f b = f0 b := fun b hb h0 h1 h2 h3 h4 h5 => (hfr b h0).trans (hF b hb h0 h1 h2 h3 h4 h5)
      have hX : den (T x1) (P x1) (rbx (xTurn (SS x1)) rr ((T x1) + (P x1))) = xTurn (SS x1) := den_rbx rr (by omega) (not_ev hS1.1.2.1)
      rw [← rbx_0 (xTurn (SS x1)) rr] at h_rw
      refine lv_iconst (v := nI 0) E.1.1 E.1.2.1 dX6_turn_36 rfl ?_
      refine lv_istore_n (lv' := [(3, .int (nI 0)), (0, .ref (A 0)), (1, .int (nI j)), (2, .int (nI x1))]) E.1.1 E.1.2.1 dX6_turn_37 rfl hl (by decide) rfl (fun ls hl => ?_)
      have lp38 : ∀ (k : Nat) (u : Nat) (f : Nat → va_E) (H : Heap) (locs : List Loc) (ls : Array Slot), ((T x1) + (P x1) - u < k) → (u ≤ (T x1) + (P x1)) → (cel L f (A 0) (.inr (6, [.int (nI base), .ref (A 1), .ref (A 2), .ref (A 3), .ref (A 4), .int (nI (T x1)), .int (nI (P x1)), .ref (A 5), .int (nI ns), .ref (A 6), .ref (A 7), .ref (A 8)]))) → (cel L f (A 1) (.inl (cy 0, 84, .inl (fun k => nI (T k))))) → (cel L f (A 2) (.inl (cy 0, 84, .inl (fun k => nI (P k))))) → (cel L f (A 3) (.inl (cy 1, 252, .inr (.inl (rw3 B))))) → (cel L f (A 4) (.inl (cy 2, 4096, .inl (fun k => b2i ((rbx (xTurn (SS x1)) rr u) k))))) → (cel L f (A 5) (.inl (cy 0, 325, .inl G))) → (cel L f (A 6) (.inl (cy 0, 65, .inl Fa))) → (cel L f (A 7) (.inl (cy 0, 2, .inl (fun k => nI (kb1 k))))) → (cel L f (A 8) (.inl (cy 2, 2, .inl (fun k => b2i (kp k))))) → (∀ b ∈ L, b ≠ (A 0) → b ≠ (A 1) → b ≠ (A 2) → b ≠ (A 3) → b ≠ (A 4) → b ≠ (A 5) → f b = f0 b) → (WW D (AW L sz) s.heap L f H locs) → (lv_has ls 4 [(3, .int (nI u)), (0, .ref (A 0)), (1, .int (nI j)), (2, .int (nI x1))]) → W p l e R s m args below meth c H locs 0 0 Q (F0 m 38 ls []) := by
        intro k
        induction k with
        | zero => intro _ _ _ _ _ hk; exact absurd hk (Nat.not_lt_zero _)
        | succ k ih38 =>
          intro u f H locs ls hk hu h_o h_ts h_ps h_bs h_rw h_gs h_fa h_ba h_it hF hw hl
          refine lv_iload_n E.1.1 E.1.2.1 dX6_turn_38 rfl (lv_at hl 0 rfl) ?_
          refine lv_aload_n E.1.1 E.1.2.1 dX6_turn_39 rfl (lv_at hl 1 rfl) ?_
          refine k_get (v := .int (nI (T x1))) E inlX6 rfl 5 (by decide) w2_237 rfl hw h_o rfl dX6_turn_40 ?_
          refine lv_aload_n E.1.1 E.1.2.1 dX6_turn_43 rfl (lv_at hl 1 rfl) ?_
          refine k_get (v := .int (nI (P x1))) E inlX6 rfl 6 (by decide) w2_238 rfl hw h_o rfl dX6_turn_44 ?_
          refine k_add E dX6_turn_47 ?_
          refine k_ge (tgt := 77) E dX6_turn_48 (by decide) (by omega) (by omega) (fun c48 => ?_) (fun c48 => ?_)
          · rw [show u = (T x1) + (P x1) by omega] at h_rw
            refine lv_aload_n E.1.1 E.1.2.1 dX6_turn_77 rfl (lv_at hl 1 rfl) ?_
            refine lv_iload_n E.1.1 E.1.2.1 dX6_turn_78 rfl (lv_at hl 2 rfl) ?_
            refine k_mi hw (va_runV (As := [.int (nI j)]) (rest := []) E.1 (m_keep l D cy L f H.size A base (T x1) (P x1) ns T P B (rbx (xTurn (SS x1)) rr ((T x1) + (P x1))) G hA hTP j (by omega) (by omega) (by omega) (by omega) (by omega) h_o h_ts h_ps h_bs h_rw h_gs) ⟨callB_of 1 E.1.2.2.2.2 (gd_own w3_47) rfl rfl rfl (E.1.2.2.2.2 _ w1_10) (E.1.2.2.2.2 _ w3_44) hd_X6_keep (by rw [hR]; exact ⟨Nat.le_of_ble_eq_true rfl, Nat.le_of_ble_eq_true rfl⟩), E.1.2.2.2.2 _ w3_46, E.1.2.2.2.2 _ ws_25⟩ (pw_preV (q := (RX6, TX6, 12)) E.2 hw h_o rfl) rfl rfl hl.1 rfl (lv_room (Nat.le_of_ble_eq_true rfl)) dX6_turn_79 (by rw [hR]; exact ⟨Nat.le_of_ble_eq_true rfl, Nat.le_of_ble_eq_true rfl⟩)) (fun r L1 f H locs hp hw => ?_)
            obtain ⟨hL1, hfr, fr2, pb2, ns2, T2, P2, B2, rr2, G2, h_o, h_ts, h_ps, h_bs, h_rw, h_gs, hTP2, hag, hcase⟩ := hp
            have hL1 : L = L1 := hL1
            subst hL1
            have h_o : cel L f (A 0) (.inr (6, [.int (nI base), .ref (A 1), .ref (A 2), .ref (A 3), .ref (A 4), .int (nI fr2), .int (nI pb2), .ref (A 5), .int (nI ns2), .ref (A 6), .ref (A 7), .ref (A 8)])) := h_o
            have h_ts : cel L f (A 1) (.inl (cy 0, 84, .inl (fun k => nI (T2 k)))) := h_ts
            have h_ps : cel L f (A 2) (.inl (cy 0, 84, .inl (fun k => nI (P2 k)))) := h_ps
            have h_bs : cel L f (A 3) (.inl (cy 1, 252, .inr (.inl (rw3 B2)))) := h_bs
            have h_rw : cel L f (A 4) (.inl (cy 2, 4096, .inl (fun k => b2i (rr2 k)))) := h_rw
            have h_gs : cel L f (A 5) (.inl (cy 0, 325, .inl G2)) := h_gs
            have h_fa := h_fa.keep (fun _ h => h) (hfr _ h_fa.1 (Ne.symm n_o_fa) (Ne.symm n_ts_fa) (Ne.symm n_ps_fa) (Ne.symm n_bs_fa) (Ne.symm n_rw_fa) (Ne.symm n_gs_fa))
            have h_ba := h_ba.keep (fun _ h => h) (hfr _ h_ba.1 (Ne.symm n_o_ba) (Ne.symm n_ts_ba) (Ne.symm n_ps_ba) (Ne.symm n_bs_ba) (Ne.symm n_rw_ba) (Ne.symm n_gs_ba))
            have h_it := h_it.keep (fun _ h => h) (hfr _ h_it.1 (Ne.symm n_o_it) (Ne.symm n_ts_it) (Ne.symm n_ps_it) (Ne.symm n_bs_it) (Ne.symm n_rw_it) (Ne.symm n_gs_it))
            have hF : ∀ b ∈ L, b ≠ (A 0) → b ≠ (A 1) → b ≠ (A 2) → b ≠ (A 3) → b ≠ (A 4) → b ≠ (A 5) → f b = f0 b := fun b hb h0 h1 h2 h3 h4 h5 => (hfr b (hLs b hb) h0 h1 h2 h3 h4 h5).trans (hF b hb h0 h1 h2 h3 h4 h5)
            rw [hX] at hcase
            exact k_miret E hQ hlk hr hw (Nat.le_of_ble_eq_true rfl) (Nat.le_of_ble_eq_true rfl) (⟨rfl, fun b hb h => hF b hb (h 0 (by decide)) (h 1 (by decide)) (h 2 (by decide)) (h 3 (by decide)) (h 4 (by decide)) (h 5 (by decide)), by
      obtain ⟨SS2, hW2, hH⟩ := mo_hold hB hMS hMK ⟨h_o, h_ts, h_ps, h_bs, h_rw, h_gs, h_fa, h_ba, h_it⟩ hTP2 (by omega) hag hcase
      exact ⟨SS2, hW2, sp_un_ok hj hx1 rfl hH⟩⟩) dX6_turn_82
          · refine lv_aload_n E.1.1 E.1.2.1 dX6_turn_51 rfl (lv_at hl 1 rfl) ?_
            refine k_get (v := .ref (A 4)) E inlX6 rfl 4 (by decide) w2_236 rfl hw h_o rfl dX6_turn_52 ?_
            refine lv_iload_n E.1.1 E.1.2.1 dX6_turn_55 rfl (lv_at hl 0 rfl) ?_
            refine lv_aload_n E.1.1 E.1.2.1 dX6_turn_56 rfl (lv_at hl 1 rfl) ?_
            refine lv_iload_n E.1.1 E.1.2.1 dX6_turn_57 rfl (lv_at hl 3 rfl) ?_
            refine lv_iload_n E.1.1 E.1.2.1 dX6_turn_58 rfl (lv_at hl 0 rfl) ?_
            refine k_ri (va_runV (As := [.int (nI x1), .int (nI u)]) (rest := [.int (nI u), .ref (A 4)]) E.1 (m_isInS l D cy L f H.size A base (T x1) (P x1) ns T P B (rbx (xTurn (SS x1)) rr u) G hA hTP x1 (u) (SS x1) hS1 (by omega) (by omega) h_o h_ts h_ps h_bs) ⟨callB_of 2 E.1.2.2.2.2 (gd_own w3_79) rfl rfl rfl (E.1.2.2.2.2 _ w1_10) (E.1.2.2.2.2 _ w3_76) hd_X6_isIn (by rw [hR]; exact ⟨Nat.le_of_ble_eq_true rfl, Nat.le_of_ble_eq_true rfl⟩), E.1.2.2.2.2 _ w3_78, E.1.2.2.2.2 _ ws_33⟩ (pw_preV (q := (RX6, TX6, 12)) E.2 hw h_o rfl) rfl rfl hl.1 rfl (lv_room (Nat.le_of_ble_eq_true rfl)) dX6_turn_59 ⟨Nat.zero_le _, Nat.zero_le _⟩) ?_
            refine k_if1 (tgt := 69) E dX6_turn_62 (by decide) (fun c62 => ?_) (fun c62 => ?_)
            · refine lv_iconst (v := nI 0) E.1.1 E.1.2.1 dX6_turn_69 rfl ?_
              refine W.eq (g2 := F0 m 70 ls (.int (b2i false) :: .int (nI u) :: .ref (A 4) :: [])) rfl ?_
              refine k_zast E hw (fun k => b2i (rbx (xTurn (SS x1)) rr (u + 1) k)) h_rw (by omega) (by omega) (fun i _ => rbx_v (by unfold xTurn; rw [c62]; rfl) i) dX6_turn_70 (fun f H locs h_rw hfr hw => ?_)
              have h_o := h_o.kp hfr n_o_rw
              have h_ts := h_ts.kp hfr n_ts_rw
              have h_ps := h_ps.kp hfr n_ps_rw
              have h_bs := h_bs.kp hfr n_bs_rw
              have h_gs := h_gs.kp hfr (Ne.symm n_rw_gs)
              have h_fa := h_fa.kp hfr (Ne.symm n_rw_fa)
              have h_ba := h_ba.kp hfr (Ne.symm n_rw_ba)
              have h_it := h_it.kp hfr (Ne.symm n_rw_it)
              have hF : ∀ b ∈ L, b ≠ (A 0) → b ≠ (A 1) → b ≠ (A 2) → b ≠ (A 3) → b ≠ (A 4) → b ≠ (A 5) → f b = f0 b := fun b hb h0 h1 h2 h3 h4 h5 => (hfr b h4).trans (hF b hb h0 h1 h2 h3 h4 h5)
              refine lv_iinc (v := nI (u + 1)) (lv' := [(3, .int (nI (u + 1))), (0, .ref (A 0)), (1, .int (nI j)), (2, .int (nI x1))]) E.1.1 E.1.2.1 dX6_turn_71 hl (k := 0) rfl (nI_1 _) (by decide) rfl (fun ls hl => ?_)
              refine lv_goto (tgt := 38) E.1.1 E.1.2.1 dX6_turn_74 (by decide) ?_
              exact ih38  (u + 1) f H locs ls (by omega) (by omega) h_o h_ts h_ps h_bs h_rw h_gs h_fa h_ba h_it hF hw (lv_sub hl [0, 1, 2, 3] rfl)
            · refine lv_iconst (v := nI 1) E.1.1 E.1.2.1 dX6_turn_65 rfl ?_
              refine lv_goto (tgt := 70) E.1.1 E.1.2.1 dX6_turn_66 (by decide) ?_
              refine W.eq (g2 := F0 m 70 ls (.int (b2i true) :: .int (nI u) :: .ref (A 4) :: [])) rfl ?_
              refine k_zast E hw (fun k => b2i (rbx (xTurn (SS x1)) rr (u + 1) k)) h_rw (by omega) (by omega) (fun i _ => rbx_v (by unfold xTurn; rw [c62]; rfl) i) dX6_turn_70 (fun f H locs h_rw hfr hw => ?_)
              have h_o := h_o.kp hfr n_o_rw
              have h_ts := h_ts.kp hfr n_ts_rw
              have h_ps := h_ps.kp hfr n_ps_rw
              have h_bs := h_bs.kp hfr n_bs_rw
              have h_gs := h_gs.kp hfr (Ne.symm n_rw_gs)
              have h_fa := h_fa.kp hfr (Ne.symm n_rw_fa)
              have h_ba := h_ba.kp hfr (Ne.symm n_rw_ba)
              have h_it := h_it.kp hfr (Ne.symm n_rw_it)
              have hF : ∀ b ∈ L, b ≠ (A 0) → b ≠ (A 1) → b ≠ (A 2) → b ≠ (A 3) → b ≠ (A 4) → b ≠ (A 5) → f b = f0 b := fun b hb h0 h1 h2 h3 h4 h5 => (hfr b h4).trans (hF b hb h0 h1 h2 h3 h4 h5)
              refine lv_iinc (v := nI (u + 1)) (lv' := [(3, .int (nI (u + 1))), (0, .ref (A 0)), (1, .int (nI j)), (2, .int (nI x1))]) E.1.1 E.1.2.1 dX6_turn_71 hl (k := 0) rfl (nI_1 _) (by decide) rfl (fun ls hl => ?_)
              refine lv_goto (tgt := 38) E.1.1 E.1.2.1 dX6_turn_74 (by decide) ?_
              exact ih38  (u + 1) f H locs ls (by omega) (by omega) h_o h_ts h_ps h_bs h_rw h_gs h_fa h_ba h_it hF hw (lv_sub hl [0, 1, 2, 3] rfl)
      exact lp38 ((T x1) + (P x1) - 0 + 1) 0 f H locs ls (Nat.lt_succ_self _) (by omega) h_o h_ts h_ps h_bs h_rw h_gs h_fa h_ba h_it hF hw (lv_sub hl [0, 1, 2, 3] rfl)
    · refine lv_iconst (v := -1) E.1.1 E.1.2.1 dX6_turn_14 rfl ?_
      exact k_miret E hQ hlk hr hw (Nat.le_of_ble_eq_true rfl) (Nat.le_of_ble_eq_true rfl) (⟨rfl, fun b hb h => hF b hb (h 0 (by decide)) (h 1 (by decide)) (h 2 (by decide)) (h 3 (by decide)) (h 4 (by decide)) (h 5 (by decide)), SS, ⟨hB, _, _, _, _, _, _, _, _, _, _, ⟨h_o, h_ts, h_ps, h_bs, h_rw, h_gs, h_fa, h_ba, h_it⟩, hTP, hMS, hMK⟩, sp_un_1 (Or.inr c11)⟩) dX6_turn_15

set_option maxHeartbeats 4000000 in
set_option maxRecDepth 100000 in
theorem m_shrink (l : Launch) (D : va_G) (cy : Nat → ClassId) (L : List Nat) (f0 : Nat → va_E) (sz : Nat) (A : Nat → Nat) (base : Nat) (SS : Nat → Nat → Bool) (kp : Nat → Bool) (kb : Nat → Nat) (KS : Nat → Nat → Nat → Bool) (hA : MAd A) (hN : MoW cy L f0 A base SS kp kb KS) (to src w v : Int32) : Met l yX6_shrink (.code yX6_shrink cX6_shrink 6 (Option.some FieldType.int) :: wsL_law) { frames := 6, cells := 0, slots := 0, locals := 136 } (va_Pc [.ref (A 0), .int to, .int src, .int w, .int v] (PW D cy L f0 sz)) (va_Qi (fun (r : Int32) (u : List Nat × (Nat → va_E)) => L = u.1 ∧ (∀ b ∈ L, (∀ i, i < 9 → b ≠ A i) → u.2 b = f0 b) ∧ ∃ SS2, MoW cy L u.2 A base SS2 kp kb KS ∧ sp_un base SS SS2 to src (i32in w (nI 1) (nI 12) && i32in v 0 (nI 20)) (fun S => skD S (ix w) (ix v)) r) (PB D (AW L sz)) (AW L sz)) 0 0 (AW L sz) := by
  refine m_start (by decide) (Nat.le_of_ble_eq_true rfl) ?_
  intro p e R Q s m args below meth c ls hsz hR hQ E hr hlk hnm hw hl
  have hl : lv_has ls 6 [(0, .ref (A 0)), (1, .int to), (2, .int src), (3, .int w), (4, .int v)] := hl
  obtain ⟨H, hH⟩ : ∃ X, X = s.heap := ⟨_, rfl⟩
  obtain ⟨locs, hlocs⟩ : ∃ X : List Loc, X = [] := ⟨_, rfl⟩
  have hw0 := hw
  obtain ⟨hB, fr, pb, ns, T, P, B, rr, G, Fa, kb1, ⟨h_o, h_ts, h_ps, h_bs, h_rw, h_gs, h_fa, h_ba, h_it⟩, hTP, hMS, hMK⟩ := hN
  have hb2 := hB.two
  obtain ⟨f, hf0⟩ : ∃ X, X = f0 := ⟨_, rfl⟩
  rw [← hf0] at h_o h_ts h_ps h_bs h_rw h_gs h_fa h_ba h_it
  have hw : WW D (AW L sz) s.heap L f H locs := by rw [hH, hlocs, hf0]; exact hw
  have hF : ∀ b ∈ L, b ≠ (A 0) → b ≠ (A 1) → b ≠ (A 2) → b ≠ (A 3) → b ≠ (A 4) → b ≠ (A 5) → f b = f0 b := fun b hb h0 h1 h2 h3 h4 h5 => by rw [hf0]
  suffices hgo : W p l e R s m args below meth c H locs 0 0 Q (F0 m 0 ls []) by rw [hH, hlocs] at hgo; exact hgo
  clear hH hlocs hw0 hf0
  have hLs : ∀ b ∈ L, b ∈ L := fun _ h => h
  have n_o_ts : A 0 ≠ A 1 := hA.ne (by decide) (by decide) (by decide)
  have n_o_ps : A 0 ≠ A 2 := hA.ne (by decide) (by decide) (by decide)
  have n_o_bs : A 0 ≠ A 3 := hA.ne (by decide) (by decide) (by decide)
  have n_o_rw : A 0 ≠ A 4 := hA.ne (by decide) (by decide) (by decide)
  have n_o_gs : A 0 ≠ A 5 := hA.ne (by decide) (by decide) (by decide)
  have n_o_fa : A 0 ≠ A 6 := hA.ne (by decide) (by decide) (by decide)
  have n_o_ba : A 0 ≠ A 7 := hA.ne (by decide) (by decide) (by decide)
  have n_o_it : A 0 ≠ A 8 := hA.ne (by decide) (by decide) (by decide)
  have n_ts_ps : A 1 ≠ A 2 := hA.ne (by decide) (by decide) (by decide)
  have n_ts_bs : A 1 ≠ A 3 := hA.ne (by decide) (by decide) (by decide)
  have n_ts_rw : A 1 ≠ A 4 := hA.ne (by decide) (by decide) (by decide)
  have n_ts_gs : A 1 ≠ A 5 := hA.ne (by decide) (by decide) (by decide)
  have n_ts_fa : A 1 ≠ A 6 := hA.ne (by decide) (by decide) (by decide)
  have n_ts_ba : A 1 ≠ A 7 := hA.ne (by decide) (by decide) (by decide)
  have n_ts_it : A 1 ≠ A 8 := hA.ne (by decide) (by decide) (by decide)
  have n_ps_bs : A 2 ≠ A 3 := hA.ne (by decide) (by decide) (by decide)
  have n_ps_rw : A 2 ≠ A 4 := hA.ne (by decide) (by decide) (by decide)
  have n_ps_gs : A 2 ≠ A 5 := hA.ne (by decide) (by decide) (by decide)
  have n_ps_fa : A 2 ≠ A 6 := hA.ne (by decide) (by decide) (by decide)
  have n_ps_ba : A 2 ≠ A 7 := hA.ne (by decide) (by decide) (by decide)
  have n_ps_it : A 2 ≠ A 8 := hA.ne (by decide) (by decide) (by decide)
  have n_bs_rw : A 3 ≠ A 4 := hA.ne (by decide) (by decide) (by decide)
  have n_bs_gs : A 3 ≠ A 5 := hA.ne (by decide) (by decide) (by decide)
  have n_bs_fa : A 3 ≠ A 6 := hA.ne (by decide) (by decide) (by decide)
  have n_bs_ba : A 3 ≠ A 7 := hA.ne (by decide) (by decide) (by decide)
  have n_bs_it : A 3 ≠ A 8 := hA.ne (by decide) (by decide) (by decide)
  have n_rw_gs : A 4 ≠ A 5 := hA.ne (by decide) (by decide) (by decide)
  have n_rw_fa : A 4 ≠ A 6 := hA.ne (by decide) (by decide) (by decide)
  have n_rw_ba : A 4 ≠ A 7 := hA.ne (by decide) (by decide) (by decide)
  have n_rw_it : A 4 ≠ A 8 := hA.ne (by decide) (by decide) (by decide)
  have n_gs_fa : A 5 ≠ A 6 := hA.ne (by decide) (by decide) (by decide)
  have n_gs_ba : A 5 ≠ A 7 := hA.ne (by decide) (by decide) (by decide)
  have n_gs_it : A 5 ≠ A 8 := hA.ne (by decide) (by decide) (by decide)
  refine lv_iload_n E.1.1 E.1.2.1 dX6_shrink_0 rfl (lv_at hl 1 rfl) ?_
  refine k_ri (va_runS (As := [.int to]) (rest := []) E.1 (m_isSlot l D cy L f H.size to) ⟨callB_of 1 E.1.2.2.2.2 (gd_own w3_40) rfl rfl rfl (E.1.2.2.2.2 _ w1_10) (E.1.2.2.2.2 _ w3_38) hd_X6_isSlot (by rw [hR]; exact ⟨Nat.le_of_ble_eq_true rfl, Nat.le_of_ble_eq_true rfl⟩), E.1.2.2.2.2 _ w3_39⟩ (pw_pre E.2 hw) rfl rfl hl.1 rfl (lv_room (Nat.le_of_ble_eq_true rfl)) dX6_shrink_1 ⟨Nat.zero_le _, Nat.zero_le _⟩) ?_
  refine k_if0 (tgt := 14) E dX6_shrink_4 (by decide) (fun c4 => ?_) (fun c4 => ?_)
  · refine lv_iconst (v := -1) E.1.1 E.1.2.1 dX6_shrink_14 rfl ?_
    exact k_miret E hQ hlk hr hw (Nat.le_of_ble_eq_true rfl) (Nat.le_of_ble_eq_true rfl) (⟨rfl, fun b hb h => hF b hb (h 0 (by decide)) (h 1 (by decide)) (h 2 (by decide)) (h 3 (by decide)) (h 4 (by decide)) (h 5 (by decide)), SS, ⟨hB, _, _, _, _, _, _, _, _, _, _, ⟨h_o, h_ts, h_ps, h_bs, h_rw, h_gs, h_fa, h_ba, h_it⟩, hTP, hMS, hMK⟩, sp_un_1 (Or.inl c4)⟩) dX6_shrink_15
  · obtain ⟨j, hj, rfl⟩ := in_ex (by decide) c4
    refine lv_iload_n E.1.1 E.1.2.1 dX6_shrink_7 rfl (lv_at hl 2 rfl) ?_
    refine k_ri (va_runS (As := [.int src]) (rest := []) E.1 (m_isSlot l D cy L f H.size src) ⟨callB_of 1 E.1.2.2.2.2 (gd_own w3_40) rfl rfl rfl (E.1.2.2.2.2 _ w1_10) (E.1.2.2.2.2 _ w3_38) hd_X6_isSlot (by rw [hR]; exact ⟨Nat.le_of_ble_eq_true rfl, Nat.le_of_ble_eq_true rfl⟩), E.1.2.2.2.2 _ w3_39⟩ (pw_pre E.2 hw) rfl rfl hl.1 rfl (lv_room (Nat.le_of_ble_eq_true rfl)) dX6_shrink_8 ⟨Nat.zero_le _, Nat.zero_le _⟩) ?_
    refine k_if1 (tgt := 16) E dX6_shrink_11 (by decide) (fun c11 => ?_) (fun c11 => ?_)
    · obtain ⟨x1, hx1, rfl⟩ := in_ex (by decide) c11
      refine lv_iload_n E.1.1 E.1.2.1 dX6_shrink_16 rfl (lv_at hl 3 rfl) ?_
      refine lv_iconst (v := nI 1) E.1.1 E.1.2.1 dX6_shrink_17 rfl ?_
      refine lv_bipush (v := nI 12) E.1.1 E.1.2.1 dX6_shrink_18 rfl ?_
      refine k_ri (va_runS (As := [.int w, .int (nI 1), .int (nI 12)]) (rest := []) E.1 (m_in l D cy L f H.size w (nI 1) (nI 12)) ⟨callB_of 3 E.1.2.2.2.2 (gd_own w3_43) rfl rfl rfl (E.1.2.2.2.2 _ w1_10) (E.1.2.2.2.2 _ w3_41) hd_X6_in (by rw [hR]; exact ⟨Nat.le_of_ble_eq_true rfl, Nat.le_of_ble_eq_true rfl⟩), E.1.2.2.2.2 _ w3_42⟩ (pw_pre E.2 hw) rfl rfl hl.1 rfl (lv_room (Nat.le_of_ble_eq_true rfl)) dX6_shrink_20 ⟨Nat.zero_le _, Nat.zero_le _⟩) ?_
      refine k_if0 (tgt := 37) E dX6_shrink_23 (by decide) (fun c23 => ?_) (fun c23 => ?_)
      · refine lv_bipush (v := -2) E.1.1 E.1.2.1 dX6_shrink_37 rfl ?_
        exact k_miret E hQ hlk hr hw (Nat.le_of_ble_eq_true rfl) (Nat.le_of_ble_eq_true rfl) (⟨rfl, fun b hb h => hF b hb (h 0 (by decide)) (h 1 (by decide)) (h 2 (by decide)) (h 3 (by decide)) (h 4 (by decide)) (h 5 (by decide)), SS, ⟨hB, _, _, _, _, _, _, _, _, _, _, ⟨h_o, h_ts, h_ps, h_bs, h_rw, h_gs, h_fa, h_ba, h_it⟩, hTP, hMS, hMK⟩, sp_un_2 hj hx1 (by rw [c23]; rfl)⟩) dX6_shrink_39
      · refine lv_iload E.1.1 E.1.2.1 dX6_shrink_26 (lv_at hl 4 rfl) ?_
        refine lv_iconst (v := nI 0) E.1.1 E.1.2.1 dX6_shrink_28 rfl ?_
        refine lv_bipush (v := nI 20) E.1.1 E.1.2.1 dX6_shrink_29 rfl ?_
        refine k_ri (va_runS (As := [.int v, .int (nI 0), .int (nI 20)]) (rest := []) E.1 (m_in l D cy L f H.size v (nI 0) (nI 20)) ⟨callB_of 3 E.1.2.2.2.2 (gd_own w3_43) rfl rfl rfl (E.1.2.2.2.2 _ w1_10) (E.1.2.2.2.2 _ w3_41) hd_X6_in (by rw [hR]; exact ⟨Nat.le_of_ble_eq_true rfl, Nat.le_of_ble_eq_true rfl⟩), E.1.2.2.2.2 _ w3_42⟩ (pw_pre E.2 hw) rfl rfl hl.1 rfl (lv_room (Nat.le_of_ble_eq_true rfl)) dX6_shrink_31 ⟨Nat.zero_le _, Nat.zero_le _⟩) ?_
        refine k_if1 (tgt := 40) E dX6_shrink_34 (by decide) (fun c34 => ?_) (fun c34 => ?_)
        · obtain ⟨w1, hw1, hw2, rfl⟩ := in_ex1 (by decide) c23 (by decide)
          obtain ⟨v1, hv1, rfl⟩ := in_ex (by decide) c34
          have hS1 := (hMS x1 (by omega)).1
          have hS1a := hS1.1.1
          have hS1b := hS1.2.1
          have hS1c := hS1.2.2.1
          refine lv_aload_n E.1.1 E.1.2.1 dX6_shrink_40 rfl (lv_at hl 0 rfl) ?_
          refine lv_aload_n E.1.1 E.1.2.1 dX6_shrink_41 rfl (lv_at hl 0 rfl) ?_
          refine k_get (v := .ref (A 1)) E inlX6 rfl 1 (by decide) w2_233 rfl hw h_o rfl dX6_shrink_42 ?_
          refine lv_iload_n E.1.1 E.1.2.1 dX6_shrink_45 rfl (lv_at hl 2 rfl) ?_
          refine k_iald E hw (v := nI (T x1)) h_ts (by omega) (by omega) (rfl) dX6_shrink_46 ?_
          refine k_put (ty0 := tyX6) E inlX6 rfl tyX6_ok nmX6 5 (by decide) w2_237 rfl rfl hw [.int (nI base), .ref (A 1), .ref (A 2), .ref (A 3), .ref (A 4), .int (nI (T x1)), .int (nI pb), .ref (A 5), .int (nI ns), .ref (A 6), .ref (A 7), .ref (A 8)] h_o (rfl) (rfl) (Nat.le_of_ble_eq_true rfl) rfl dX6_shrink_47 (fun f H locs h_o hfr hw => ?_)
          have h_ts := h_ts.kp hfr (Ne.symm n_o_ts)
          have h_ps := h_ps.kp hfr (Ne.symm n_o_ps)
          have h_bs := h_bs.kp hfr (Ne.symm n_o_bs)
          have h_rw := h_rw.kp hfr (Ne.symm n_o_rw)
          have h_gs := h_gs.kp hfr (Ne.symm n_o_gs)
          have h_fa := h_fa.kp hfr (Ne.symm n_o_fa)
          have h_ba := h_ba.kp hfr (Ne.symm n_o_ba)
          have h_it := h_it.kp hfr (Ne.symm n_o_it)
          have hF : ∀ b ∈ L, b ≠ (A 0) → b ≠ (A 1) → b ≠ (A 2) → b ≠ (A 3) → b ≠ (A 4) → b ≠ (A 5) → f b = f0 b := fun b hb h0 h1 h2 h3 h4 h5 => (hfr b h0).trans (hF b hb h0 h1 h2 h3 h4 h5)
          refine lv_aload_n E.1.1 E.1.2.1 dX6_shrink_50 rfl (lv_at hl 0 rfl) ?_
          refine lv_aload_n E.1.1 E.1.2.1 dX6_shrink_51 rfl (lv_at hl 0 rfl) ?_
          refine k_get (v := .ref (A 2)) E inlX6 rfl 2 (by decide) w2_234 rfl hw h_o rfl dX6_shrink_52 ?_
          refine lv_iload_n E.1.1 E.1.2.1 dX6_shrink_55 rfl (lv_at hl 2 rfl) ?_
          refine k_iald E hw (v := nI (P x1)) h_ps (by omega) (by omega) (rfl) dX6_shrink_56 ?_
          refine k_put (ty0 := tyX6) E inlX6 rfl tyX6_ok nmX6 6 (by decide) w2_238 rfl rfl hw [.int (nI base), .ref (A 1), .ref (A 2), .ref (A 3), .ref (A 4), .int (nI (T x1)), .int (nI (P x1)), .ref (A 5), .int (nI ns), .ref (A 6), .ref (A 7), .ref (A 8)] h_o (rfl) (rfl) (Nat.le_of_ble_eq_true rfl) rfl dX6_shrink_57 (fun f H locs h_o hfr hw => ?_)
          have h_ts := h_ts.kp hfr (Ne.symm n_o_ts)
          have h_ps := h_ps.kp hfr (Ne.symm n_o_ps)
          have h_bs := h_bs.kp hfr (Ne.symm n_o_bs)
          have h_rw := h_rw.kp hfr (Ne.symm n_o_rw)
          have h_gs := h_gs.kp hfr (Ne.symm n_o_gs)
          have h_fa := h_fa.kp hfr (Ne.symm n_o_fa)
          have h_ba := h_ba.kp hfr (Ne.symm n_o_ba)
          have h_it := h_it.kp hfr (Ne.symm n_o_it)
          have hF : ∀ b ∈ L, b ≠ (A 0) → b ≠ (A 1) → b ≠ (A 2) → b ≠ (A 3) → b ≠ (A 4) → b ≠ (A 5) → f b = f0 b := fun b hb h0 h1 h2 h3 h4 h5 => (hfr b h0).trans (hF b hb h0 h1 h2 h3 h4 h5)
          have hX : den (T x1) (P x1) (rbx (skD (SS x1) w1 v1) rr ((T x1) + (P x1))) = skD (SS x1) w1 v1 := den_rbx rr (by omega) (skD_ev (by omega) hS1.1.2.1)
          rw [← rbx_0 (skD (SS x1) w1 v1) rr] at h_rw
          refine lv_iconst (v := nI 0) E.1.1 E.1.2.1 dX6_shrink_60 rfl ?_
          refine lv_istore (lv' := [(5, .int (nI 0)), (0, .ref (A 0)), (1, .int (nI j)), (2, .int (nI x1)), (3, .int (nI w1)), (4, .int (nI v1))]) E.1.1 E.1.2.1 dX6_shrink_61 hl (by decide) rfl (fun ls hl => ?_)
          have lp63 : ∀ (k : Nat) (u : Nat) (f : Nat → va_E) (H : Heap) (locs : List Loc) (ls : Array Slot), ((T x1) + (P x1) - u < k) → (u ≤ (T x1) + (P x1)) → (cel L f (A 0) (.inr (6, [.int (nI base), .ref (A 1), .ref (A 2), .ref (A 3), .ref (A 4), .int (nI (T x1)), .int (nI (P x1)), .ref (A 5), .int (nI ns), .ref (A 6), .ref (A 7), .ref (A 8)]))) → (cel L f (A 1) (.inl (cy 0, 84, .inl (fun k => nI (T k))))) → (cel L f (A 2) (.inl (cy 0, 84, .inl (fun k => nI (P k))))) → (cel L f (A 3) (.inl (cy 1, 252, .inr (.inl (rw3 B))))) → (cel L f (A 4) (.inl (cy 2, 4096, .inl (fun k => b2i ((rbx (skD (SS x1) w1 v1) rr u) k))))) → (cel L f (A 5) (.inl (cy 0, 325, .inl G))) → (cel L f (A 6) (.inl (cy 0, 65, .inl Fa))) → (cel L f (A 7) (.inl (cy 0, 2, .inl (fun k => nI (kb1 k))))) → (cel L f (A 8) (.inl (cy 2, 2, .inl (fun k => b2i (kp k))))) → (∀ b ∈ L, b ≠ (A 0) → b ≠ (A 1) → b ≠ (A 2) → b ≠ (A 3) → b ≠ (A 4) → b ≠ (A 5) → f b = f0 b) → (WW D (AW L sz) s.heap L f H locs) → (lv_has ls 6 [(5, .int (nI u)), (0, .ref (A 0)), (1, .int (nI j)), (2, .int (nI x1)), (3, .int (nI w1)), (4, .int (nI v1))]) → W p l e R s m args below meth c H locs 0 0 Q (F0 m 63 ls []) := by
            intro k
            induction k with
            | zero => intro _ _ _ _ _ hk; exact absurd hk (Nat.not_lt_zero _)
            | succ k ih63 =>
              intro u f H locs ls hk hu h_o h_ts h_ps h_bs h_rw h_gs h_fa h_ba h_it hF hw hl
              refine lv_iload E.1.1 E.1.2.1 dX6_shrink_63 (lv_at hl 0 rfl) ?_
              refine lv_aload_n E.1.1 E.1.2.1 dX6_shrink_65 rfl (lv_at hl 1 rfl) ?_
              refine k_get (v := .int (nI (T x1))) E inlX6 rfl 5 (by decide) w2_237 rfl hw h_o rfl dX6_shrink_66 ?_
              refine lv_aload_n E.1.1 E.1.2.1 dX6_shrink_69 rfl (lv_at hl 1 rfl) ?_
              refine k_get (v := .int (nI (P x1))) E inlX6 rfl 6 (by decide) w2_238 rfl hw h_o rfl dX6_shrink_70 ?_
              refine k_add E dX6_shrink_73 ?_
              refine k_ge (tgt := 102) E dX6_shrink_74 (by decide) (by omega) (by omega) (fun c74 => ?_) (fun c74 => ?_)
              · rw [show u = (T x1) + (P x1) by omega] at h_rw
                refine lv_aload_n E.1.1 E.1.2.1 dX6_shrink_102 rfl (lv_at hl 1 rfl) ?_
                refine lv_iload_n E.1.1 E.1.2.1 dX6_shrink_103 rfl (lv_at hl 2 rfl) ?_
                refine k_mi hw (va_runV (As := [.int (nI j)]) (rest := []) E.1 (m_keep l D cy L f H.size A base (T x1) (P x1) ns T P B (rbx (skD (SS x1) w1 v1) rr ((T x1) + (P x1))) G hA hTP j (by omega) (by omega) (by omega) (by omega) (by omega) h_o h_ts h_ps h_bs h_rw h_gs) ⟨callB_of 1 E.1.2.2.2.2 (gd_own w3_47) rfl rfl rfl (E.1.2.2.2.2 _ w1_10) (E.1.2.2.2.2 _ w3_44) hd_X6_keep (by rw [hR]; exact ⟨Nat.le_of_ble_eq_true rfl, Nat.le_of_ble_eq_true rfl⟩), E.1.2.2.2.2 _ w3_46, E.1.2.2.2.2 _ ws_25⟩ (pw_preV (q := (RX6, TX6, 12)) E.2 hw h_o rfl) rfl rfl hl.1 rfl (lv_room (Nat.le_of_ble_eq_true rfl)) dX6_shrink_104 (by rw [hR]; exact ⟨Nat.le_of_ble_eq_true rfl, Nat.le_of_ble_eq_true rfl⟩)) (fun r L1 f H locs hp hw => ?_)
                obtain ⟨hL1, hfr, fr2, pb2, ns2, T2, P2, B2, rr2, G2, h_o, h_ts, h_ps, h_bs, h_rw, h_gs, hTP2, hag, hcase⟩ := hp
                have hL1 : L = L1 := hL1
                subst hL1
                have h_o : cel L f (A 0) (.inr (6, [.int (nI base), .ref (A 1), .ref (A 2), .ref (A 3), .ref (A 4), .int (nI fr2), .int (nI pb2), .ref (A 5), .int (nI ns2), .ref (A 6), .ref (A 7), .ref (A 8)])) := h_o
                have h_ts : cel L f (A 1) (.inl (cy 0, 84, .inl (fun k => nI (T2 k)))) := h_ts
                have h_ps : cel L f (A 2) (.inl (cy 0, 84, .inl (fun k => nI (P2 k)))) := h_ps
                have h_bs : cel L f (A 3) (.inl (cy 1, 252, .inr (.inl (rw3 B2)))) := h_bs
                have h_rw : cel L f (A 4) (.inl (cy 2, 4096, .inl (fun k => b2i (rr2 k)))) := h_rw
                have h_gs : cel L f (A 5) (.inl (cy 0, 325, .inl G2)) := h_gs
                have h_fa := h_fa.keep (fun _ h => h) (hfr _ h_fa.1 (Ne.symm n_o_fa) (Ne.symm n_ts_fa) (Ne.symm n_ps_fa) (Ne.symm n_bs_fa) (Ne.symm n_rw_fa) (Ne.symm n_gs_fa))
                have h_ba := h_ba.keep (fun _ h => h) (hfr _ h_ba.1 (Ne.symm n_o_ba) (Ne.symm n_ts_ba) (Ne.symm n_ps_ba) (Ne.symm n_bs_ba) (Ne.symm n_rw_ba) (Ne.symm n_gs_ba))
                have h_it := h_it.keep (fun _ h => h) (hfr _ h_it.1 (Ne.symm n_o_it) (Ne.symm n_ts_it) (Ne.symm n_ps_it) (Ne.symm n_bs_it) (Ne.symm n_rw_it) (Ne.symm n_gs_it))
                have hF : ∀ b ∈ L, b ≠ (A 0) → b ≠ (A 1) → b ≠ (A 2) → b ≠ (A 3) → b ≠ (A 4) → b ≠ (A 5) → f b = f0 b := fun b hb h0 h1 h2 h3 h4 h5 => (hfr b (hLs b hb) h0 h1 h2 h3 h4 h5).trans (hF b hb h0 h1 h2 h3 h4 h5)
                rw [hX] at hcase
                exact k_miret E hQ hlk hr hw (Nat.le_of_ble_eq_true rfl) (Nat.le_of_ble_eq_true rfl) (⟨rfl, fun b hb h => hF b hb (h 0 (by decide)) (h 1 (by decide)) (h 2 (by decide)) (h 3 (by decide)) (h 4 (by decide)) (h 5 (by decide)), by
      obtain ⟨SS2, hW2, hH⟩ := mo_hold hB hMS hMK ⟨h_o, h_ts, h_ps, h_bs, h_rw, h_gs, h_fa, h_ba, h_it⟩ hTP2 (by omega) hag hcase
      exact ⟨SS2, hW2, sp_un_ok hj hx1 (by rw [c23, show i32in (nI v1) 0 (nI 20) = true from c34]; rfl) (by rw [ix_nI (by omega), ix_nI (by omega)]; exact hH)⟩⟩) dX6_shrink_107
              · refine lv_aload_n E.1.1 E.1.2.1 dX6_shrink_77 rfl (lv_at hl 1 rfl) ?_
                refine k_get (v := .ref (A 4)) E inlX6 rfl 4 (by decide) w2_236 rfl hw h_o rfl dX6_shrink_78 ?_
                refine lv_iload E.1.1 E.1.2.1 dX6_shrink_81 (lv_at hl 0 rfl) ?_
                refine lv_aload_n E.1.1 E.1.2.1 dX6_shrink_83 rfl (lv_at hl 1 rfl) ?_
                have hwu : w1 * u ≤ 12 * 180 := Nat.mul_le_mul hw2 (by omega)
                refine lv_iload_n E.1.1 E.1.2.1 dX6_shrink_84 rfl (lv_at hl 3 rfl) ?_
                refine lv_iload_n E.1.1 E.1.2.1 dX6_shrink_85 rfl (lv_at hl 4 rfl) ?_
                refine lv_iload E.1.1 E.1.2.1 dX6_shrink_86 (lv_at hl 0 rfl) ?_
                refine k_mul E dX6_shrink_88 ?_
                refine lv_iload E.1.1 E.1.2.1 dX6_shrink_89 (lv_at hl 5 rfl) ?_
                refine k_add E dX6_shrink_91 ?_
                refine k_ri (va_runV (As := [.int (nI x1), .int (nI ((w1 * u) + v1))]) (rest := [.int (nI u), .ref (A 4)]) E.1 (m_isInS l D cy L f H.size A base (T x1) (P x1) ns T P B (rbx (skD (SS x1) w1 v1) rr u) G hA hTP x1 ((w1 * u) + v1) (SS x1) hS1 (by omega) (by omega) h_o h_ts h_ps h_bs) ⟨callB_of 2 E.1.2.2.2.2 (gd_own w3_79) rfl rfl rfl (E.1.2.2.2.2 _ w1_10) (E.1.2.2.2.2 _ w3_76) hd_X6_isIn (by rw [hR]; exact ⟨Nat.le_of_ble_eq_true rfl, Nat.le_of_ble_eq_true rfl⟩), E.1.2.2.2.2 _ w3_78, E.1.2.2.2.2 _ ws_33⟩ (pw_preV (q := (RX6, TX6, 12)) E.2 hw h_o rfl) rfl rfl hl.1 rfl (lv_room (Nat.le_of_ble_eq_true rfl)) dX6_shrink_92 ⟨Nat.zero_le _, Nat.zero_le _⟩) ?_
                refine k_zast E hw (fun k => b2i (rbx (skD (SS x1) w1 v1) rr (u + 1) k)) h_rw (by omega) (by omega) (fun i _ => rbx_v (rfl) i) dX6_shrink_95 (fun f H locs h_rw hfr hw => ?_)
                have h_o := h_o.kp hfr n_o_rw
                have h_ts := h_ts.kp hfr n_ts_rw
                have h_ps := h_ps.kp hfr n_ps_rw
                have h_bs := h_bs.kp hfr n_bs_rw
                have h_gs := h_gs.kp hfr (Ne.symm n_rw_gs)
                have h_fa := h_fa.kp hfr (Ne.symm n_rw_fa)
                have h_ba := h_ba.kp hfr (Ne.symm n_rw_ba)
                have h_it := h_it.kp hfr (Ne.symm n_rw_it)
                have hF : ∀ b ∈ L, b ≠ (A 0) → b ≠ (A 1) → b ≠ (A 2) → b ≠ (A 3) → b ≠ (A 4) → b ≠ (A 5) → f b = f0 b := fun b hb h0 h1 h2 h3 h4 h5 => (hfr b h4).trans (hF b hb h0 h1 h2 h3 h4 h5)
                refine lv_iinc (v := nI (u + 1)) (lv' := [(5, .int (nI (u + 1))), (0, .ref (A 0)), (1, .int (nI j)), (2, .int (nI x1)), (3, .int (nI w1)), (4, .int (nI v1))]) E.1.1 E.1.2.1 dX6_shrink_96 hl (k := 0) rfl (nI_1 _) (by decide) rfl (fun ls hl => ?_)
                refine lv_goto (tgt := 63) E.1.1 E.1.2.1 dX6_shrink_99 (by decide) ?_
                exact ih63  (u + 1) f H locs ls (by omega) (by omega) h_o h_ts h_ps h_bs h_rw h_gs h_fa h_ba h_it hF hw (lv_sub hl [0, 1, 2, 3, 4, 5] rfl)
          exact lp63 ((T x1) + (P x1) - 0 + 1) 0 f H locs ls (Nat.lt_succ_self _) (by omega) h_o h_ts h_ps h_bs h_rw h_gs h_fa h_ba h_it hF hw (lv_sub hl [0, 1, 2, 3, 4, 5] rfl)
        · refine lv_bipush (v := -2) E.1.1 E.1.2.1 dX6_shrink_37 rfl ?_
          exact k_miret E hQ hlk hr hw (Nat.le_of_ble_eq_true rfl) (Nat.le_of_ble_eq_true rfl) (⟨rfl, fun b hb h => hF b hb (h 0 (by decide)) (h 1 (by decide)) (h 2 (by decide)) (h 3 (by decide)) (h 4 (by decide)) (h 5 (by decide)), SS, ⟨hB, _, _, _, _, _, _, _, _, _, _, ⟨h_o, h_ts, h_ps, h_bs, h_rw, h_gs, h_fa, h_ba, h_it⟩, hTP, hMS, hMK⟩, sp_un_2 hj hx1 (by rw [show i32in v 0 (nI 20) = false from c34, Bool.and_false])⟩) dX6_shrink_39
    · refine lv_iconst (v := -1) E.1.1 E.1.2.1 dX6_shrink_14 rfl ?_
      exact k_miret E hQ hlk hr hw (Nat.le_of_ble_eq_true rfl) (Nat.le_of_ble_eq_true rfl) (⟨rfl, fun b hb h => hF b hb (h 0 (by decide)) (h 1 (by decide)) (h 2 (by decide)) (h 3 (by decide)) (h 4 (by decide)) (h 5 (by decide)), SS, ⟨hB, _, _, _, _, _, _, _, _, _, _, ⟨h_o, h_ts, h_ps, h_bs, h_rw, h_gs, h_fa, h_ba, h_it⟩, hTP, hMS, hMK⟩, sp_un_1 (Or.inr c11)⟩) dX6_shrink_15

set_option maxHeartbeats 4000000 in
set_option maxRecDepth 100000 in
theorem m_stretch (l : Launch) (D : va_G) (cy : Nat → ClassId) (L : List Nat) (f0 : Nat → va_E) (sz : Nat) (A : Nat → Nat) (base : Nat) (SS : Nat → Nat → Bool) (kp : Nat → Bool) (kb : Nat → Nat) (KS : Nat → Nat → Nat → Bool) (hA : MAd A) (hN : MoW cy L f0 A base SS kp kb KS) (to src w v : Int32) : Met l yX6_stretch (.code yX6_stretch cX6_stretch 6 (Option.some FieldType.int) :: wsL_law) { frames := 6, cells := 0, slots := 0, locals := 136 } (va_Pc [.ref (A 0), .int to, .int src, .int w, .int v] (PW D cy L f0 sz)) (va_Qi (fun (r : Int32) (u : List Nat × (Nat → va_E)) => L = u.1 ∧ (∀ b ∈ L, (∀ i, i < 9 → b ≠ A i) → u.2 b = f0 b) ∧ ∃ SS2, MoW cy L u.2 A base SS2 kp kb KS ∧ sp_un base SS SS2 to src (i32in w (nI 1) (nI 12) && i32in v 0 (nI 20)) (fun S => stU S (ix w) (ix v)) r) (PB D (AW L sz)) (AW L sz)) 0 0 (AW L sz) := by
  refine m_start (by decide) (Nat.le_of_ble_eq_true rfl) ?_
  intro p e R Q s m args below meth c ls hsz hR hQ E hr hlk hnm hw hl
  have hl : lv_has ls 6 [(0, .ref (A 0)), (1, .int to), (2, .int src), (3, .int w), (4, .int v)] := hl
  obtain ⟨H, hH⟩ : ∃ X, X = s.heap := ⟨_, rfl⟩
  obtain ⟨locs, hlocs⟩ : ∃ X : List Loc, X = [] := ⟨_, rfl⟩
  have hw0 := hw
  obtain ⟨hB, fr, pb, ns, T, P, B, rr, G, Fa, kb1, ⟨h_o, h_ts, h_ps, h_bs, h_rw, h_gs, h_fa, h_ba, h_it⟩, hTP, hMS, hMK⟩ := hN
  have hb2 := hB.two
  obtain ⟨f, hf0⟩ : ∃ X, X = f0 := ⟨_, rfl⟩
  rw [← hf0] at h_o h_ts h_ps h_bs h_rw h_gs h_fa h_ba h_it
  have hw : WW D (AW L sz) s.heap L f H locs := by rw [hH, hlocs, hf0]; exact hw
  have hF : ∀ b ∈ L, b ≠ (A 0) → b ≠ (A 1) → b ≠ (A 2) → b ≠ (A 3) → b ≠ (A 4) → b ≠ (A 5) → f b = f0 b := fun b hb h0 h1 h2 h3 h4 h5 => by rw [hf0]
  suffices hgo : W p l e R s m args below meth c H locs 0 0 Q (F0 m 0 ls []) by rw [hH, hlocs] at hgo; exact hgo
  clear hH hlocs hw0 hf0
  have hLs : ∀ b ∈ L, b ∈ L := fun _ h => h
  have n_o_ts : A 0 ≠ A 1 := hA.ne (by decide) (by decide) (by decide)
  have n_o_ps : A 0 ≠ A 2 := hA.ne (by decide) (by decide) (by decide)
  have n_o_bs : A 0 ≠ A 3 := hA.ne (by decide) (by decide) (by decide)
  have n_o_rw : A 0 ≠ A 4 := hA.ne (by decide) (by decide) (by decide)
  have n_o_gs : A 0 ≠ A 5 := hA.ne (by decide) (by decide) (by decide)
  have n_o_fa : A 0 ≠ A 6 := hA.ne (by decide) (by decide) (by decide)
  have n_o_ba : A 0 ≠ A 7 := hA.ne (by decide) (by decide) (by decide)
  have n_o_it : A 0 ≠ A 8 := hA.ne (by decide) (by decide) (by decide)
  have n_ts_ps : A 1 ≠ A 2 := hA.ne (by decide) (by decide) (by decide)
  have n_ts_bs : A 1 ≠ A 3 := hA.ne (by decide) (by decide) (by decide)
  have n_ts_rw : A 1 ≠ A 4 := hA.ne (by decide) (by decide) (by decide)
  have n_ts_gs : A 1 ≠ A 5 := hA.ne (by decide) (by decide) (by decide)
  have n_ts_fa : A 1 ≠ A 6 := hA.ne (by decide) (by decide) (by decide)
  have n_ts_ba : A 1 ≠ A 7 := hA.ne (by decide) (by decide) (by decide)
  have n_ts_it : A 1 ≠ A 8 := hA.ne (by decide) (by decide) (by decide)
  have n_ps_bs : A 2 ≠ A 3 := hA.ne (by decide) (by decide) (by decide)
  have n_ps_rw : A 2 ≠ A 4 := hA.ne (by decide) (by decide) (by decide)
  have n_ps_gs : A 2 ≠ A 5 := hA.ne (by decide) (by decide) (by decide)
  have n_ps_fa : A 2 ≠ A 6 := hA.ne (by decide) (by decide) (by decide)
  have n_ps_ba : A 2 ≠ A 7 := hA.ne (by decide) (by decide) (by decide)
  have n_ps_it : A 2 ≠ A 8 := hA.ne (by decide) (by decide) (by decide)
  have n_bs_rw : A 3 ≠ A 4 := hA.ne (by decide) (by decide) (by decide)
  have n_bs_gs : A 3 ≠ A 5 := hA.ne (by decide) (by decide) (by decide)
  have n_bs_fa : A 3 ≠ A 6 := hA.ne (by decide) (by decide) (by decide)
  have n_bs_ba : A 3 ≠ A 7 := hA.ne (by decide) (by decide) (by decide)
  have n_bs_it : A 3 ≠ A 8 := hA.ne (by decide) (by decide) (by decide)
  have n_rw_gs : A 4 ≠ A 5 := hA.ne (by decide) (by decide) (by decide)
  have n_rw_fa : A 4 ≠ A 6 := hA.ne (by decide) (by decide) (by decide)
  have n_rw_ba : A 4 ≠ A 7 := hA.ne (by decide) (by decide) (by decide)
  have n_rw_it : A 4 ≠ A 8 := hA.ne (by decide) (by decide) (by decide)
  have n_gs_fa : A 5 ≠ A 6 := hA.ne (by decide) (by decide) (by decide)
  have n_gs_ba : A 5 ≠ A 7 := hA.ne (by decide) (by decide) (by decide)
  have n_gs_it : A 5 ≠ A 8 := hA.ne (by decide) (by decide) (by decide)
  refine lv_iload_n E.1.1 E.1.2.1 dX6_stretch_0 rfl (lv_at hl 1 rfl) ?_
  refine k_ri (va_runS (As := [.int to]) (rest := []) E.1 (m_isSlot l D cy L f H.size to) ⟨callB_of 1 E.1.2.2.2.2 (gd_own w3_40) rfl rfl rfl (E.1.2.2.2.2 _ w1_10) (E.1.2.2.2.2 _ w3_38) hd_X6_isSlot (by rw [hR]; exact ⟨Nat.le_of_ble_eq_true rfl, Nat.le_of_ble_eq_true rfl⟩), E.1.2.2.2.2 _ w3_39⟩ (pw_pre E.2 hw) rfl rfl hl.1 rfl (lv_room (Nat.le_of_ble_eq_true rfl)) dX6_stretch_1 ⟨Nat.zero_le _, Nat.zero_le _⟩) ?_
  refine k_if0 (tgt := 14) E dX6_stretch_4 (by decide) (fun c4 => ?_) (fun c4 => ?_)
  · refine lv_iconst (v := -1) E.1.1 E.1.2.1 dX6_stretch_14 rfl ?_
    exact k_miret E hQ hlk hr hw (Nat.le_of_ble_eq_true rfl) (Nat.le_of_ble_eq_true rfl) (⟨rfl, fun b hb h => hF b hb (h 0 (by decide)) (h 1 (by decide)) (h 2 (by decide)) (h 3 (by decide)) (h 4 (by decide)) (h 5 (by decide)), SS, ⟨hB, _, _, _, _, _, _, _, _, _, _, ⟨h_o, h_ts, h_ps, h_bs, h_rw, h_gs, h_fa, h_ba, h_it⟩, hTP, hMS, hMK⟩, sp_un_1 (Or.inl c4)⟩) dX6_stretch_15
  · obtain ⟨j, hj, rfl⟩ := in_ex (by decide) c4
    refine lv_iload_n E.1.1 E.1.2.1 dX6_stretch_7 rfl (lv_at hl 2 rfl) ?_
    refine k_ri (va_runS (As := [.int src]) (rest := []) E.1 (m_isSlot l D cy L f H.size src) ⟨callB_of 1 E.1.2.2.2.2 (gd_own w3_40) rfl rfl rfl (E.1.2.2.2.2 _ w1_10) (E.1.2.2.2.2 _ w3_38) hd_X6_isSlot (by rw [hR]; exact ⟨Nat.le_of_ble_eq_true rfl, Nat.le_of_ble_eq_true rfl⟩), E.1.2.2.2.2 _ w3_39⟩ (pw_pre E.2 hw) rfl rfl hl.1 rfl (lv_room (Nat.le_of_ble_eq_true rfl)) dX6_stretch_8 ⟨Nat.zero_le _, Nat.zero_le _⟩) ?_
    refine k_if1 (tgt := 16) E dX6_stretch_11 (by decide) (fun c11 => ?_) (fun c11 => ?_)
    · obtain ⟨x1, hx1, rfl⟩ := in_ex (by decide) c11
      refine lv_iload_n E.1.1 E.1.2.1 dX6_stretch_16 rfl (lv_at hl 3 rfl) ?_
      refine lv_iconst (v := nI 1) E.1.1 E.1.2.1 dX6_stretch_17 rfl ?_
      refine lv_bipush (v := nI 12) E.1.1 E.1.2.1 dX6_stretch_18 rfl ?_
      refine k_ri (va_runS (As := [.int w, .int (nI 1), .int (nI 12)]) (rest := []) E.1 (m_in l D cy L f H.size w (nI 1) (nI 12)) ⟨callB_of 3 E.1.2.2.2.2 (gd_own w3_43) rfl rfl rfl (E.1.2.2.2.2 _ w1_10) (E.1.2.2.2.2 _ w3_41) hd_X6_in (by rw [hR]; exact ⟨Nat.le_of_ble_eq_true rfl, Nat.le_of_ble_eq_true rfl⟩), E.1.2.2.2.2 _ w3_42⟩ (pw_pre E.2 hw) rfl rfl hl.1 rfl (lv_room (Nat.le_of_ble_eq_true rfl)) dX6_stretch_20 ⟨Nat.zero_le _, Nat.zero_le _⟩) ?_
      refine k_if0 (tgt := 37) E dX6_stretch_23 (by decide) (fun c23 => ?_) (fun c23 => ?_)
      · refine lv_bipush (v := -2) E.1.1 E.1.2.1 dX6_stretch_37 rfl ?_
        exact k_miret E hQ hlk hr hw (Nat.le_of_ble_eq_true rfl) (Nat.le_of_ble_eq_true rfl) (⟨rfl, fun b hb h => hF b hb (h 0 (by decide)) (h 1 (by decide)) (h 2 (by decide)) (h 3 (by decide)) (h 4 (by decide)) (h 5 (by decide)), SS, ⟨hB, _, _, _, _, _, _, _, _, _, _, ⟨h_o, h_ts, h_ps, h_bs, h_rw, h_gs, h_fa, h_ba, h_it⟩, hTP, hMS, hMK⟩, sp_un_2 hj hx1 (by rw [c23]; rfl)⟩) dX6_stretch_39
      · refine lv_iload E.1.1 E.1.2.1 dX6_stretch_26 (lv_at hl 4 rfl) ?_
        refine lv_iconst (v := nI 0) E.1.1 E.1.2.1 dX6_stretch_28 rfl ?_
        refine lv_bipush (v := nI 20) E.1.1 E.1.2.1 dX6_stretch_29 rfl ?_
        refine k_ri (va_runS (As := [.int v, .int (nI 0), .int (nI 20)]) (rest := []) E.1 (m_in l D cy L f H.size v (nI 0) (nI 20)) ⟨callB_of 3 E.1.2.2.2.2 (gd_own w3_43) rfl rfl rfl (E.1.2.2.2.2 _ w1_10) (E.1.2.2.2.2 _ w3_41) hd_X6_in (by rw [hR]; exact ⟨Nat.le_of_ble_eq_true rfl, Nat.le_of_ble_eq_true rfl⟩), E.1.2.2.2.2 _ w3_42⟩ (pw_pre E.2 hw) rfl rfl hl.1 rfl (lv_room (Nat.le_of_ble_eq_true rfl)) dX6_stretch_31 ⟨Nat.zero_le _, Nat.zero_le _⟩) ?_
        refine k_if1 (tgt := 40) E dX6_stretch_34 (by decide) (fun c34 => ?_) (fun c34 => ?_)
        · obtain ⟨w1, hw1, hw2, rfl⟩ := in_ex1 (by decide) c23 (by decide)
          obtain ⟨v1, hv1, rfl⟩ := in_ex (by decide) c34
          have hS1 := (hMS x1 (by omega)).1
          have hS1a := hS1.1.1
          have hS1b := hS1.2.1
          have hS1c := hS1.2.2.1
          have hwt : w1 * T x1 ≤ 12 * 120 := Nat.mul_le_mul hw2 hS1c
          have hwp : w1 * P x1 ≤ 12 * 60 := Nat.mul_le_mul hw2 hS1b
          have hwp0 : 0 < w1 * P x1 := Nat.mul_pos (by omega) hS1a
          refine lv_aload_n E.1.1 E.1.2.1 dX6_stretch_40 rfl (lv_at hl 0 rfl) ?_
          refine lv_iload_n E.1.1 E.1.2.1 dX6_stretch_41 rfl (lv_at hl 3 rfl) ?_
          refine lv_aload_n E.1.1 E.1.2.1 dX6_stretch_42 rfl (lv_at hl 0 rfl) ?_
          refine k_get (v := .ref (A 1)) E inlX6 rfl 1 (by decide) w2_233 rfl hw h_o rfl dX6_stretch_43 ?_
          refine lv_iload_n E.1.1 E.1.2.1 dX6_stretch_46 rfl (lv_at hl 2 rfl) ?_
          refine k_iald E hw (v := nI (T x1)) h_ts (by omega) (by omega) (rfl) dX6_stretch_47 ?_
          refine k_mul E dX6_stretch_48 ?_
          refine lv_iload E.1.1 E.1.2.1 dX6_stretch_49 (lv_at hl 4 rfl) ?_
          refine k_add E dX6_stretch_51 ?_
          refine k_put (ty0 := tyX6) E inlX6 rfl tyX6_ok nmX6 5 (by decide) w2_237 rfl rfl hw [.int (nI base), .ref (A 1), .ref (A 2), .ref (A 3), .ref (A 4), .int (nI ((w1 * (T x1)) + v1)), .int (nI pb), .ref (A 5), .int (nI ns), .ref (A 6), .ref (A 7), .ref (A 8)] h_o (rfl) (rfl) (Nat.le_of_ble_eq_true rfl) rfl dX6_stretch_52 (fun f H locs h_o hfr hw => ?_)
          have h_ts := h_ts.kp hfr (Ne.symm n_o_ts)
          have h_ps := h_ps.kp hfr (Ne.symm n_o_ps)
          have h_bs := h_bs.kp hfr (Ne.symm n_o_bs)
          have h_rw := h_rw.kp hfr (Ne.symm n_o_rw)
          have h_gs := h_gs.kp hfr (Ne.symm n_o_gs)
          have h_fa := h_fa.kp hfr (Ne.symm n_o_fa)
          have h_ba := h_ba.kp hfr (Ne.symm n_o_ba)
          have h_it := h_it.kp hfr (Ne.symm n_o_it)
          have hF : ∀ b ∈ L, b ≠ (A 0) → b ≠ (A 1) → b ≠ (A 2) → b ≠ (A 3) → b ≠ (A 4) → b ≠ (A 5) → f b = f0 b := fun b hb h0 h1 h2 h3 h4 h5 => (hfr b h0).trans (hF b hb h0 h1 h2 h3 h4 h5)
          refine lv_aload_n E.1.1 E.1.2.1 dX6_stretch_55 rfl (lv_at hl 0 rfl) ?_
          refine lv_iload_n E.1.1 E.1.2.1 dX6_stretch_56 rfl (lv_at hl 3 rfl) ?_
          refine lv_aload_n E.1.1 E.1.2.1 dX6_stretch_57 rfl (lv_at hl 0 rfl) ?_
          refine k_get (v := .ref (A 2)) E inlX6 rfl 2 (by decide) w2_234 rfl hw h_o rfl dX6_stretch_58 ?_
          refine lv_iload_n E.1.1 E.1.2.1 dX6_stretch_61 rfl (lv_at hl 2 rfl) ?_
          refine k_iald E hw (v := nI (P x1)) h_ps (by omega) (by omega) (rfl) dX6_stretch_62 ?_
          refine k_mul E dX6_stretch_63 ?_
          refine k_put (ty0 := tyX6) E inlX6 rfl tyX6_ok nmX6 6 (by decide) w2_238 rfl rfl hw [.int (nI base), .ref (A 1), .ref (A 2), .ref (A 3), .ref (A 4), .int (nI ((w1 * (T x1)) + v1)), .int (nI (w1 * (P x1))), .ref (A 5), .int (nI ns), .ref (A 6), .ref (A 7), .ref (A 8)] h_o (rfl) (rfl) (Nat.le_of_ble_eq_true rfl) rfl dX6_stretch_64 (fun f H locs h_o hfr hw => ?_)
          have h_ts := h_ts.kp hfr (Ne.symm n_o_ts)
          have h_ps := h_ps.kp hfr (Ne.symm n_o_ps)
          have h_bs := h_bs.kp hfr (Ne.symm n_o_bs)
          have h_rw := h_rw.kp hfr (Ne.symm n_o_rw)
          have h_gs := h_gs.kp hfr (Ne.symm n_o_gs)
          have h_fa := h_fa.kp hfr (Ne.symm n_o_fa)
          have h_ba := h_ba.kp hfr (Ne.symm n_o_ba)
          have h_it := h_it.kp hfr (Ne.symm n_o_it)
          have hF : ∀ b ∈ L, b ≠ (A 0) → b ≠ (A 1) → b ≠ (A 2) → b ≠ (A 3) → b ≠ (A 4) → b ≠ (A 5) → f b = f0 b := fun b hb h0 h1 h2 h3 h4 h5 => (hfr b h0).trans (hF b hb h0 h1 h2 h3 h4 h5)
          have hX : den (w1 * T x1 + v1) (w1 * P x1) (rbx (stU (SS x1) w1 v1) rr ((w1 * T x1 + v1) + (w1 * P x1))) = stU (SS x1) w1 v1 := den_rbx rr (by omega) (stU_ev (by omega) hS1.1.2.1)
          rw [← rbx_0 (stU (SS x1) w1 v1) rr] at h_rw
          refine lv_iconst (v := nI 0) E.1.1 E.1.2.1 dX6_stretch_67 rfl ?_
          refine lv_istore (lv' := [(5, .int (nI 0)), (0, .ref (A 0)), (1, .int (nI j)), (2, .int (nI x1)), (3, .int (nI w1)), (4, .int (nI v1))]) E.1.1 E.1.2.1 dX6_stretch_68 hl (by decide) rfl (fun ls hl => ?_)
          have lp70 : ∀ (k : Nat) (u : Nat) (f : Nat → va_E) (H : Heap) (locs : List Loc) (ls : Array Slot), ((w1 * T x1 + v1) + (w1 * P x1) - u < k) → (u ≤ (w1 * T x1 + v1) + (w1 * P x1)) → (cel L f (A 0) (.inr (6, [.int (nI base), .ref (A 1), .ref (A 2), .ref (A 3), .ref (A 4), .int (nI ((w1 * (T x1)) + v1)), .int (nI (w1 * (P x1))), .ref (A 5), .int (nI ns), .ref (A 6), .ref (A 7), .ref (A 8)]))) → (cel L f (A 1) (.inl (cy 0, 84, .inl (fun k => nI (T k))))) → (cel L f (A 2) (.inl (cy 0, 84, .inl (fun k => nI (P k))))) → (cel L f (A 3) (.inl (cy 1, 252, .inr (.inl (rw3 B))))) → (cel L f (A 4) (.inl (cy 2, 4096, .inl (fun k => b2i ((rbx (stU (SS x1) w1 v1) rr u) k))))) → (cel L f (A 5) (.inl (cy 0, 325, .inl G))) → (cel L f (A 6) (.inl (cy 0, 65, .inl Fa))) → (cel L f (A 7) (.inl (cy 0, 2, .inl (fun k => nI (kb1 k))))) → (cel L f (A 8) (.inl (cy 2, 2, .inl (fun k => b2i (kp k))))) → (∀ b ∈ L, b ≠ (A 0) → b ≠ (A 1) → b ≠ (A 2) → b ≠ (A 3) → b ≠ (A 4) → b ≠ (A 5) → f b = f0 b) → (WW D (AW L sz) s.heap L f H locs) → (lv_has ls 6 [(5, .int (nI u)), (0, .ref (A 0)), (1, .int (nI j)), (2, .int (nI x1)), (3, .int (nI w1)), (4, .int (nI v1))]) → W p l e R s m args below meth c H locs 0 0 Q (F0 m 70 ls []) := by
            intro k
            induction k with
            | zero => intro _ _ _ _ _ hk; exact absurd hk (Nat.not_lt_zero _)
            | succ k ih70 =>
              intro u f H locs ls hk hu h_o h_ts h_ps h_bs h_rw h_gs h_fa h_ba h_it hF hw hl
              refine lv_iload E.1.1 E.1.2.1 dX6_stretch_70 (lv_at hl 0 rfl) ?_
              refine lv_aload_n E.1.1 E.1.2.1 dX6_stretch_72 rfl (lv_at hl 1 rfl) ?_
              refine k_get (v := .int (nI ((w1 * (T x1)) + v1))) E inlX6 rfl 5 (by decide) w2_237 rfl hw h_o rfl dX6_stretch_73 ?_
              refine lv_aload_n E.1.1 E.1.2.1 dX6_stretch_76 rfl (lv_at hl 1 rfl) ?_
              refine k_get (v := .int (nI (w1 * (P x1)))) E inlX6 rfl 6 (by decide) w2_238 rfl hw h_o rfl dX6_stretch_77 ?_
              refine k_add E dX6_stretch_80 ?_
              refine k_ge (tgt := 134) E dX6_stretch_81 (by decide) (by omega) (by omega) (fun c81 => ?_) (fun c81 => ?_)
              · rw [show u = (w1 * T x1 + v1) + (w1 * P x1) by omega] at h_rw
                refine lv_aload_n E.1.1 E.1.2.1 dX6_stretch_134 rfl (lv_at hl 1 rfl) ?_
                refine lv_iload_n E.1.1 E.1.2.1 dX6_stretch_135 rfl (lv_at hl 2 rfl) ?_
                refine k_mi hw (va_runV (As := [.int (nI j)]) (rest := []) E.1 (m_keep l D cy L f H.size A base (w1 * T x1 + v1) (w1 * P x1) ns T P B (rbx (stU (SS x1) w1 v1) rr ((w1 * T x1 + v1) + (w1 * P x1))) G hA hTP j (by omega) (by omega) (by omega) (by omega) (by omega) h_o h_ts h_ps h_bs h_rw h_gs) ⟨callB_of 1 E.1.2.2.2.2 (gd_own w3_47) rfl rfl rfl (E.1.2.2.2.2 _ w1_10) (E.1.2.2.2.2 _ w3_44) hd_X6_keep (by rw [hR]; exact ⟨Nat.le_of_ble_eq_true rfl, Nat.le_of_ble_eq_true rfl⟩), E.1.2.2.2.2 _ w3_46, E.1.2.2.2.2 _ ws_25⟩ (pw_preV (q := (RX6, TX6, 12)) E.2 hw h_o rfl) rfl rfl hl.1 rfl (lv_room (Nat.le_of_ble_eq_true rfl)) dX6_stretch_136 (by rw [hR]; exact ⟨Nat.le_of_ble_eq_true rfl, Nat.le_of_ble_eq_true rfl⟩)) (fun r L1 f H locs hp hw => ?_)
                obtain ⟨hL1, hfr, fr2, pb2, ns2, T2, P2, B2, rr2, G2, h_o, h_ts, h_ps, h_bs, h_rw, h_gs, hTP2, hag, hcase⟩ := hp
                have hL1 : L = L1 := hL1
                subst hL1
                have h_o : cel L f (A 0) (.inr (6, [.int (nI base), .ref (A 1), .ref (A 2), .ref (A 3), .ref (A 4), .int (nI fr2), .int (nI pb2), .ref (A 5), .int (nI ns2), .ref (A 6), .ref (A 7), .ref (A 8)])) := h_o
                have h_ts : cel L f (A 1) (.inl (cy 0, 84, .inl (fun k => nI (T2 k)))) := h_ts
                have h_ps : cel L f (A 2) (.inl (cy 0, 84, .inl (fun k => nI (P2 k)))) := h_ps
                have h_bs : cel L f (A 3) (.inl (cy 1, 252, .inr (.inl (rw3 B2)))) := h_bs
                have h_rw : cel L f (A 4) (.inl (cy 2, 4096, .inl (fun k => b2i (rr2 k)))) := h_rw
                have h_gs : cel L f (A 5) (.inl (cy 0, 325, .inl G2)) := h_gs
                have h_fa := h_fa.keep (fun _ h => h) (hfr _ h_fa.1 (Ne.symm n_o_fa) (Ne.symm n_ts_fa) (Ne.symm n_ps_fa) (Ne.symm n_bs_fa) (Ne.symm n_rw_fa) (Ne.symm n_gs_fa))
                have h_ba := h_ba.keep (fun _ h => h) (hfr _ h_ba.1 (Ne.symm n_o_ba) (Ne.symm n_ts_ba) (Ne.symm n_ps_ba) (Ne.symm n_bs_ba) (Ne.symm n_rw_ba) (Ne.symm n_gs_ba))
                have h_it := h_it.keep (fun _ h => h) (hfr _ h_it.1 (Ne.symm n_o_it) (Ne.symm n_ts_it) (Ne.symm n_ps_it) (Ne.symm n_bs_it) (Ne.symm n_rw_it) (Ne.symm n_gs_it))
                have hF : ∀ b ∈ L, b ≠ (A 0) → b ≠ (A 1) → b ≠ (A 2) → b ≠ (A 3) → b ≠ (A 4) → b ≠ (A 5) → f b = f0 b := fun b hb h0 h1 h2 h3 h4 h5 => (hfr b (hLs b hb) h0 h1 h2 h3 h4 h5).trans (hF b hb h0 h1 h2 h3 h4 h5)
                rw [hX] at hcase
                exact k_miret E hQ hlk hr hw (Nat.le_of_ble_eq_true rfl) (Nat.le_of_ble_eq_true rfl) (⟨rfl, fun b hb h => hF b hb (h 0 (by decide)) (h 1 (by decide)) (h 2 (by decide)) (h 3 (by decide)) (h 4 (by decide)) (h 5 (by decide)), by
      obtain ⟨SS2, hW2, hH⟩ := mo_hold hB hMS hMK ⟨h_o, h_ts, h_ps, h_bs, h_rw, h_gs, h_fa, h_ba, h_it⟩ hTP2 (by omega) hag hcase
      exact ⟨SS2, hW2, sp_un_ok hj hx1 (by rw [c23, show i32in (nI v1) 0 (nI 20) = true from c34]; rfl) (by rw [ix_nI (by omega), ix_nI (by omega)]; exact hH)⟩⟩) dX6_stretch_139
              · refine lv_aload_n E.1.1 E.1.2.1 dX6_stretch_84 rfl (lv_at hl 1 rfl) ?_
                refine k_get (v := .ref (A 4)) E inlX6 rfl 4 (by decide) w2_236 rfl hw h_o rfl dX6_stretch_85 ?_
                refine lv_iload E.1.1 E.1.2.1 dX6_stretch_88 (lv_at hl 0 rfl) ?_
                refine lv_iload E.1.1 E.1.2.1 dX6_stretch_90 (lv_at hl 0 rfl) ?_
                refine lv_iload E.1.1 E.1.2.1 dX6_stretch_92 (lv_at hl 5 rfl) ?_
                refine k_lt (tgt := 126) E dX6_stretch_94 (by decide) (by omega) (by omega) (fun c94 => ?_) (fun c94 => ?_)
                · refine lv_iconst (v := nI 0) E.1.1 E.1.2.1 dX6_stretch_126 rfl ?_
                  refine W.eq (g2 := F0 m 127 ls (.int (b2i false) :: .int (nI u) :: .ref (A 4) :: [])) rfl ?_
                  refine k_zast E hw (fun k => b2i (rbx (stU (SS x1) w1 v1) rr (u + 1) k)) h_rw (by omega) (by omega) (fun i _ => rbx_v (stU_low c94) i) dX6_stretch_127 (fun f H locs h_rw hfr hw => ?_)
                  have h_o := h_o.kp hfr n_o_rw
                  have h_ts := h_ts.kp hfr n_ts_rw
                  have h_ps := h_ps.kp hfr n_ps_rw
                  have h_bs := h_bs.kp hfr n_bs_rw
                  have h_gs := h_gs.kp hfr (Ne.symm n_rw_gs)
                  have h_fa := h_fa.kp hfr (Ne.symm n_rw_fa)
                  have h_ba := h_ba.kp hfr (Ne.symm n_rw_ba)
                  have h_it := h_it.kp hfr (Ne.symm n_rw_it)
                  have hF : ∀ b ∈ L, b ≠ (A 0) → b ≠ (A 1) → b ≠ (A 2) → b ≠ (A 3) → b ≠ (A 4) → b ≠ (A 5) → f b = f0 b := fun b hb h0 h1 h2 h3 h4 h5 => (hfr b h4).trans (hF b hb h0 h1 h2 h3 h4 h5)
                  refine lv_iinc (v := nI (u + 1)) (lv' := [(5, .int (nI (u + 1))), (0, .ref (A 0)), (1, .int (nI j)), (2, .int (nI x1)), (3, .int (nI w1)), (4, .int (nI v1))]) E.1.1 E.1.2.1 dX6_stretch_128 hl (k := 0) rfl (nI_1 _) (by decide) rfl (fun ls hl => ?_)
                  refine lv_goto (tgt := 70) E.1.1 E.1.2.1 dX6_stretch_131 (by decide) ?_
                  exact ih70  (u + 1) f H locs ls (by omega) (by omega) h_o h_ts h_ps h_bs h_rw h_gs h_fa h_ba h_it hF hw (lv_sub hl [0, 1, 2, 3, 4, 5] rfl)
                · have hmo := Nat.mod_lt (u - v1) (show 0 < w1 by omega)
                  have hdi := Nat.div_le_self (u - v1) w1
                  refine lv_iload E.1.1 E.1.2.1 dX6_stretch_97 (lv_at hl 0 rfl) ?_
                  refine lv_iload E.1.1 E.1.2.1 dX6_stretch_99 (lv_at hl 5 rfl) ?_
                  refine k_sub E dX6_stretch_101 (by omega) ?_
                  refine lv_iload_n E.1.1 E.1.2.1 dX6_stretch_102 rfl (lv_at hl 4 rfl) ?_
                  refine k_rem E dX6_stretch_103 (by omega) (by omega) (by omega) ?_
                  refine k_z1 (tgt := 126) E dX6_stretch_104 (by decide) (by omega) (fun c104 => ?_) (fun c104 => ?_)
                  · refine lv_iconst (v := nI 0) E.1.1 E.1.2.1 dX6_stretch_126 rfl ?_
                    refine W.eq (g2 := F0 m 127 ls (.int (b2i false) :: .int (nI u) :: .ref (A 4) :: [])) rfl ?_
                    refine k_zast E hw (fun k => b2i (rbx (stU (SS x1) w1 v1) rr (u + 1) k)) h_rw (by omega) (by omega) (fun i _ => rbx_v (by unfold stU; rw [decide_eq_false c104]; simp) i) dX6_stretch_127 (fun f H locs h_rw hfr hw => ?_)
                    have h_o := h_o.kp hfr n_o_rw
                    have h_ts := h_ts.kp hfr n_ts_rw
                    have h_ps := h_ps.kp hfr n_ps_rw
                    have h_bs := h_bs.kp hfr n_bs_rw
                    have h_gs := h_gs.kp hfr (Ne.symm n_rw_gs)
                    have h_fa := h_fa.kp hfr (Ne.symm n_rw_fa)
                    have h_ba := h_ba.kp hfr (Ne.symm n_rw_ba)
                    have h_it := h_it.kp hfr (Ne.symm n_rw_it)
                    have hF : ∀ b ∈ L, b ≠ (A 0) → b ≠ (A 1) → b ≠ (A 2) → b ≠ (A 3) → b ≠ (A 4) → b ≠ (A 5) → f b = f0 b := fun b hb h0 h1 h2 h3 h4 h5 => (hfr b h4).trans (hF b hb h0 h1 h2 h3 h4 h5)
                    refine lv_iinc (v := nI (u + 1)) (lv' := [(5, .int (nI (u + 1))), (0, .ref (A 0)), (1, .int (nI j)), (2, .int (nI x1)), (3, .int (nI w1)), (4, .int (nI v1))]) E.1.1 E.1.2.1 dX6_stretch_128 hl (k := 0) rfl (nI_1 _) (by decide) rfl (fun ls hl => ?_)
                    refine lv_goto (tgt := 70) E.1.1 E.1.2.1 dX6_stretch_131 (by decide) ?_
                    exact ih70  (u + 1) f H locs ls (by omega) (by omega) h_o h_ts h_ps h_bs h_rw h_gs h_fa h_ba h_it hF hw (lv_sub hl [0, 1, 2, 3, 4, 5] rfl)
                  · refine lv_aload_n E.1.1 E.1.2.1 dX6_stretch_107 rfl (lv_at hl 1 rfl) ?_
                    refine lv_iload_n E.1.1 E.1.2.1 dX6_stretch_108 rfl (lv_at hl 3 rfl) ?_
                    refine lv_iload E.1.1 E.1.2.1 dX6_stretch_109 (lv_at hl 0 rfl) ?_
                    refine lv_iload E.1.1 E.1.2.1 dX6_stretch_111 (lv_at hl 5 rfl) ?_
                    refine k_sub E dX6_stretch_113 (by omega) ?_
                    refine lv_iload_n E.1.1 E.1.2.1 dX6_stretch_114 rfl (lv_at hl 4 rfl) ?_
                    refine k_div E dX6_stretch_115 (by omega) (by omega) (by omega) ?_
                    refine k_ri (va_runV (As := [.int (nI x1), .int (nI ((u - v1) / w1))]) (rest := [.int (nI u), .ref (A 4)]) E.1 (m_isInS l D cy L f H.size A base (w1 * T x1 + v1) (w1 * P x1) ns T P B (rbx (stU (SS x1) w1 v1) rr u) G hA hTP x1 ((u - v1) / w1) (SS x1) hS1 (by omega) (by omega) h_o h_ts h_ps h_bs) ⟨callB_of 2 E.1.2.2.2.2 (gd_own w3_79) rfl rfl rfl (E.1.2.2.2.2 _ w1_10) (E.1.2.2.2.2 _ w3_76) hd_X6_isIn (by rw [hR]; exact ⟨Nat.le_of_ble_eq_true rfl, Nat.le_of_ble_eq_true rfl⟩), E.1.2.2.2.2 _ w3_78, E.1.2.2.2.2 _ ws_33⟩ (pw_preV (q := (RX6, TX6, 12)) E.2 hw h_o rfl) rfl rfl hl.1 rfl (lv_room (Nat.le_of_ble_eq_true rfl)) dX6_stretch_116 ⟨Nat.zero_le _, Nat.zero_le _⟩) ?_
                    refine k_if0 (tgt := 126) E dX6_stretch_119 (by decide) (fun c119 => ?_) (fun c119 => ?_)
                    · refine lv_iconst (v := nI 0) E.1.1 E.1.2.1 dX6_stretch_126 rfl ?_
                      refine W.eq (g2 := F0 m 127 ls (.int (b2i false) :: .int (nI u) :: .ref (A 4) :: [])) rfl ?_
                      refine k_zast E hw (fun k => b2i (rbx (stU (SS x1) w1 v1) rr (u + 1) k)) h_rw (by omega) (by omega) (fun i _ => rbx_v (by unfold stU; rw [c119]; simp) i) dX6_stretch_127 (fun f H locs h_rw hfr hw => ?_)
                      have h_o := h_o.kp hfr n_o_rw
                      have h_ts := h_ts.kp hfr n_ts_rw
                      have h_ps := h_ps.kp hfr n_ps_rw
                      have h_bs := h_bs.kp hfr n_bs_rw
                      have h_gs := h_gs.kp hfr (Ne.symm n_rw_gs)
                      have h_fa := h_fa.kp hfr (Ne.symm n_rw_fa)
                      have h_ba := h_ba.kp hfr (Ne.symm n_rw_ba)
                      have h_it := h_it.kp hfr (Ne.symm n_rw_it)
                      have hF : ∀ b ∈ L, b ≠ (A 0) → b ≠ (A 1) → b ≠ (A 2) → b ≠ (A 3) → b ≠ (A 4) → b ≠ (A 5) → f b = f0 b := fun b hb h0 h1 h2 h3 h4 h5 => (hfr b h4).trans (hF b hb h0 h1 h2 h3 h4 h5)
                      refine lv_iinc (v := nI (u + 1)) (lv' := [(5, .int (nI (u + 1))), (0, .ref (A 0)), (1, .int (nI j)), (2, .int (nI x1)), (3, .int (nI w1)), (4, .int (nI v1))]) E.1.1 E.1.2.1 dX6_stretch_128 hl (k := 0) rfl (nI_1 _) (by decide) rfl (fun ls hl => ?_)
                      refine lv_goto (tgt := 70) E.1.1 E.1.2.1 dX6_stretch_131 (by decide) ?_
                      exact ih70  (u + 1) f H locs ls (by omega) (by omega) h_o h_ts h_ps h_bs h_rw h_gs h_fa h_ba h_it hF hw (lv_sub hl [0, 1, 2, 3, 4, 5] rfl)
                    · refine lv_iconst (v := nI 1) E.1.1 E.1.2.1 dX6_stretch_122 rfl ?_
                      refine lv_goto (tgt := 127) E.1.1 E.1.2.1 dX6_stretch_123 (by decide) ?_
                      refine W.eq (g2 := F0 m 127 ls (.int (b2i true) :: .int (nI u) :: .ref (A 4) :: [])) rfl ?_
                      refine k_zast E hw (fun k => b2i (rbx (stU (SS x1) w1 v1) rr (u + 1) k)) h_rw (by omega) (by omega) (fun i _ => rbx_v (by unfold stU; rw [c119, decide_eq_true (show v1 ≤ u by omega), decide_eq_true c104]; rfl) i) dX6_stretch_127 (fun f H locs h_rw hfr hw => ?_)
                      have h_o := h_o.kp hfr n_o_rw
                      have h_ts := h_ts.kp hfr n_ts_rw
                      have h_ps := h_ps.kp hfr n_ps_rw
                      have h_bs := h_bs.kp hfr n_bs_rw
                      have h_gs := h_gs.kp hfr (Ne.symm n_rw_gs)
                      have h_fa := h_fa.kp hfr (Ne.symm n_rw_fa)
                      have h_ba := h_ba.kp hfr (Ne.symm n_rw_ba)
                      have h_it := h_it.kp hfr (Ne.symm n_rw_it)
                      have hF : ∀ b ∈ L, b ≠ (A 0) → b ≠ (A 1) → b ≠ (A 2) → b ≠ (A 3) → b ≠ (A 4) → b ≠ (A 5) → f b = f0 b := fun b hb h0 h1 h2 h3 h4 h5 => (hfr b h4).trans (hF b hb h0 h1 h2 h3 h4 h5)
                      refine lv_iinc (v := nI (u + 1)) (lv' := [(5, .int (nI (u + 1))), (0, .ref (A 0)), (1, .int (nI j)), (2, .int (nI x1)), (3, .int (nI w1)), (4, .int (nI v1))]) E.1.1 E.1.2.1 dX6_stretch_128 hl (k := 0) rfl (nI_1 _) (by decide) rfl (fun ls hl => ?_)
                      refine lv_goto (tgt := 70) E.1.1 E.1.2.1 dX6_stretch_131 (by decide) ?_
                      exact ih70  (u + 1) f H locs ls (by omega) (by omega) h_o h_ts h_ps h_bs h_rw h_gs h_fa h_ba h_it hF hw (lv_sub hl [0, 1, 2, 3, 4, 5] rfl)
          exact lp70 ((w1 * T x1 + v1) + (w1 * P x1) - 0 + 1) 0 f H locs ls (Nat.lt_succ_self _) (by omega) h_o h_ts h_ps h_bs h_rw h_gs h_fa h_ba h_it hF hw (lv_sub hl [0, 1, 2, 3, 4, 5] rfl)
        · refine lv_bipush (v := -2) E.1.1 E.1.2.1 dX6_stretch_37 rfl ?_
          exact k_miret E hQ hlk hr hw (Nat.le_of_ble_eq_true rfl) (Nat.le_of_ble_eq_true rfl) (⟨rfl, fun b hb h => hF b hb (h 0 (by decide)) (h 1 (by decide)) (h 2 (by decide)) (h 3 (by decide)) (h 4 (by decide)) (h 5 (by decide)), SS, ⟨hB, _, _, _, _, _, _, _, _, _, _, ⟨h_o, h_ts, h_ps, h_bs, h_rw, h_gs, h_fa, h_ba, h_it⟩, hTP, hMS, hMK⟩, sp_un_2 hj hx1 (by rw [show i32in v 0 (nI 20) = false from c34, Bool.and_false])⟩) dX6_stretch_39
    · refine lv_iconst (v := -1) E.1.1 E.1.2.1 dX6_stretch_14 rfl ?_
      exact k_miret E hQ hlk hr hw (Nat.le_of_ble_eq_true rfl) (Nat.le_of_ble_eq_true rfl) (⟨rfl, fun b hb h => hF b hb (h 0 (by decide)) (h 1 (by decide)) (h 2 (by decide)) (h 3 (by decide)) (h 4 (by decide)) (h 5 (by decide)), SS, ⟨hB, _, _, _, _, _, _, _, _, _, _, ⟨h_o, h_ts, h_ps, h_bs, h_rw, h_gs, h_fa, h_ba, h_it⟩, hTP, hMS, hMK⟩, sp_un_1 (Or.inr c11)⟩) dX6_stretch_15

set_option maxHeartbeats 4000000 in
set_option maxRecDepth 100000 in
theorem m_shiftU (l : Launch) (D : va_G) (cy : Nat → ClassId) (L : List Nat) (f0 : Nat → va_E) (sz : Nat) (A : Nat → Nat) (base : Nat) (SS : Nat → Nat → Bool) (kp : Nat → Bool) (kb : Nat → Nat) (KS : Nat → Nat → Nat → Bool) (hA : MAd A) (hN : MoW cy L f0 A base SS kp kb KS) (to src : Int32) (w : Nat) (hw1 : w ≤ 100) (hin : i32in (nI w) (-100) (nI 100) = true) : Met l yX6_shift (.code yX6_shift cX6_shift 5 (Option.some FieldType.int) :: wsL_law) { frames := 6, cells := 0, slots := 0, locals := 136 } (va_Pc [.ref (A 0), .int to, .int src, .int (nI w)] (PW D cy L f0 sz)) (va_Qi (fun (r : Int32) (u : List Nat × (Nat → va_E)) => L = u.1 ∧ (∀ b ∈ L, (∀ i, i < 9 → b ≠ A i) → u.2 b = f0 b) ∧ ∃ SS2, MoW cy L u.2 A base SS2 kp kb KS ∧ sp_un base SS SS2 to src true (xShift (nI w)) r) (PB D (AW L sz)) (AW L sz)) 0 0 (AW L sz) := by
  refine m_start (by decide) (Nat.le_of_ble_eq_true rfl) ?_
  intro p e R Q s m args below meth c ls hsz hR hQ E hr hlk hnm hw hl
  have hl : lv_has ls 5 [(0, .ref (A 0)), (1, .int to), (2, .int src), (3, .int (nI w))] := hl
  obtain ⟨H, hH⟩ : ∃ X, X = s.heap := ⟨_, rfl⟩
  obtain ⟨locs, hlocs⟩ : ∃ X : List Loc, X = [] := ⟨_, rfl⟩
  have hw0 := hw
  obtain ⟨hB, fr, pb, ns, T, P, B, rr, G, Fa, kb1, ⟨h_o, h_ts, h_ps, h_bs, h_rw, h_gs, h_fa, h_ba, h_it⟩, hTP, hMS, hMK⟩ := hN
  have hb2 := hB.two
  obtain ⟨f, hf0⟩ : ∃ X, X = f0 := ⟨_, rfl⟩
  rw [← hf0] at h_o h_ts h_ps h_bs h_rw h_gs h_fa h_ba h_it
  have hw : WW D (AW L sz) s.heap L f H locs := by rw [hH, hlocs, hf0]; exact hw
  have hF : ∀ b ∈ L, b ≠ (A 0) → b ≠ (A 1) → b ≠ (A 2) → b ≠ (A 3) → b ≠ (A 4) → b ≠ (A 5) → f b = f0 b := fun b hb h0 h1 h2 h3 h4 h5 => by rw [hf0]
  suffices hgo : W p l e R s m args below meth c H locs 0 0 Q (F0 m 0 ls []) by rw [hH, hlocs] at hgo; exact hgo
  clear hH hlocs hw0 hf0
  have hLs : ∀ b ∈ L, b ∈ L := fun _ h => h
  have n_o_ts : A 0 ≠ A 1 := hA.ne (by decide) (by decide) (by decide)
  have n_o_ps : A 0 ≠ A 2 := hA.ne (by decide) (by decide) (by decide)
  have n_o_bs : A 0 ≠ A 3 := hA.ne (by decide) (by decide) (by decide)
  have n_o_rw : A 0 ≠ A 4 := hA.ne (by decide) (by decide) (by decide)
  have n_o_gs : A 0 ≠ A 5 := hA.ne (by decide) (by decide) (by decide)
  have n_o_fa : A 0 ≠ A 6 := hA.ne (by decide) (by decide) (by decide)
  have n_o_ba : A 0 ≠ A 7 := hA.ne (by decide) (by decide) (by decide)
  have n_o_it : A 0 ≠ A 8 := hA.ne (by decide) (by decide) (by decide)
  have n_ts_ps : A 1 ≠ A 2 := hA.ne (by decide) (by decide) (by decide)
  have n_ts_bs : A 1 ≠ A 3 := hA.ne (by decide) (by decide) (by decide)
  have n_ts_rw : A 1 ≠ A 4 := hA.ne (by decide) (by decide) (by decide)
  have n_ts_gs : A 1 ≠ A 5 := hA.ne (by decide) (by decide) (by decide)
  have n_ts_fa : A 1 ≠ A 6 := hA.ne (by decide) (by decide) (by decide)
  have n_ts_ba : A 1 ≠ A 7 := hA.ne (by decide) (by decide) (by decide)
  have n_ts_it : A 1 ≠ A 8 := hA.ne (by decide) (by decide) (by decide)
  have n_ps_bs : A 2 ≠ A 3 := hA.ne (by decide) (by decide) (by decide)
  have n_ps_rw : A 2 ≠ A 4 := hA.ne (by decide) (by decide) (by decide)
  have n_ps_gs : A 2 ≠ A 5 := hA.ne (by decide) (by decide) (by decide)
  have n_ps_fa : A 2 ≠ A 6 := hA.ne (by decide) (by decide) (by decide)
  have n_ps_ba : A 2 ≠ A 7 := hA.ne (by decide) (by decide) (by decide)
  have n_ps_it : A 2 ≠ A 8 := hA.ne (by decide) (by decide) (by decide)
  have n_bs_rw : A 3 ≠ A 4 := hA.ne (by decide) (by decide) (by decide)
  have n_bs_gs : A 3 ≠ A 5 := hA.ne (by decide) (by decide) (by decide)
  have n_bs_fa : A 3 ≠ A 6 := hA.ne (by decide) (by decide) (by decide)
  have n_bs_ba : A 3 ≠ A 7 := hA.ne (by decide) (by decide) (by decide)
  have n_bs_it : A 3 ≠ A 8 := hA.ne (by decide) (by decide) (by decide)
  have n_rw_gs : A 4 ≠ A 5 := hA.ne (by decide) (by decide) (by decide)
  have n_rw_fa : A 4 ≠ A 6 := hA.ne (by decide) (by decide) (by decide)
  have n_rw_ba : A 4 ≠ A 7 := hA.ne (by decide) (by decide) (by decide)
  have n_rw_it : A 4 ≠ A 8 := hA.ne (by decide) (by decide) (by decide)
  have n_gs_fa : A 5 ≠ A 6 := hA.ne (by decide) (by decide) (by decide)
  have n_gs_ba : A 5 ≠ A 7 := hA.ne (by decide) (by decide) (by decide)
  have n_gs_it : A 5 ≠ A 8 := hA.ne (by decide) (by decide) (by decide)
  refine lv_iload_n E.1.1 E.1.2.1 dX6_shift_0 rfl (lv_at hl 1 rfl) ?_
  refine k_ri (va_runS (As := [.int to]) (rest := []) E.1 (m_isSlot l D cy L f H.size to) ⟨callB_of 1 E.1.2.2.2.2 (gd_own w3_40) rfl rfl rfl (E.1.2.2.2.2 _ w1_10) (E.1.2.2.2.2 _ w3_38) hd_X6_isSlot (by rw [hR]; exact ⟨Nat.le_of_ble_eq_true rfl, Nat.le_of_ble_eq_true rfl⟩), E.1.2.2.2.2 _ w3_39⟩ (pw_pre E.2 hw) rfl rfl hl.1 rfl (lv_room (Nat.le_of_ble_eq_true rfl)) dX6_shift_1 ⟨Nat.zero_le _, Nat.zero_le _⟩) ?_
  refine k_if0 (tgt := 14) E dX6_shift_4 (by decide) (fun c4 => ?_) (fun c4 => ?_)
  · refine lv_iconst (v := -1) E.1.1 E.1.2.1 dX6_shift_14 rfl ?_
    exact k_miret E hQ hlk hr hw (Nat.le_of_ble_eq_true rfl) (Nat.le_of_ble_eq_true rfl) (⟨rfl, fun b hb h => hF b hb (h 0 (by decide)) (h 1 (by decide)) (h 2 (by decide)) (h 3 (by decide)) (h 4 (by decide)) (h 5 (by decide)), SS, ⟨hB, _, _, _, _, _, _, _, _, _, _, ⟨h_o, h_ts, h_ps, h_bs, h_rw, h_gs, h_fa, h_ba, h_it⟩, hTP, hMS, hMK⟩, sp_un_1 (Or.inl c4)⟩) dX6_shift_15
  · obtain ⟨j, hj, rfl⟩ := in_ex (by decide) c4
    refine lv_iload_n E.1.1 E.1.2.1 dX6_shift_7 rfl (lv_at hl 2 rfl) ?_
    refine k_ri (va_runS (As := [.int src]) (rest := []) E.1 (m_isSlot l D cy L f H.size src) ⟨callB_of 1 E.1.2.2.2.2 (gd_own w3_40) rfl rfl rfl (E.1.2.2.2.2 _ w1_10) (E.1.2.2.2.2 _ w3_38) hd_X6_isSlot (by rw [hR]; exact ⟨Nat.le_of_ble_eq_true rfl, Nat.le_of_ble_eq_true rfl⟩), E.1.2.2.2.2 _ w3_39⟩ (pw_pre E.2 hw) rfl rfl hl.1 rfl (lv_room (Nat.le_of_ble_eq_true rfl)) dX6_shift_8 ⟨Nat.zero_le _, Nat.zero_le _⟩) ?_
    refine k_if1 (tgt := 16) E dX6_shift_11 (by decide) (fun c11 => ?_) (fun c11 => ?_)
    · obtain ⟨x1, hx1, rfl⟩ := in_ex (by decide) c11
      refine lv_iload_n E.1.1 E.1.2.1 dX6_shift_16 rfl (lv_at hl 3 rfl) ?_
      refine lv_bipush (v := -100) E.1.1 E.1.2.1 dX6_shift_17 rfl ?_
      refine lv_bipush (v := nI 100) E.1.1 E.1.2.1 dX6_shift_19 rfl ?_
      refine k_ri (va_runS (As := [.int (nI w), .int (-100), .int (nI 100)]) (rest := []) E.1 (m_in l D cy L f H.size (nI w) (-100) (nI 100)) ⟨callB_of 3 E.1.2.2.2.2 (gd_own w3_43) rfl rfl rfl (E.1.2.2.2.2 _ w1_10) (E.1.2.2.2.2 _ w3_41) hd_X6_in (by rw [hR]; exact ⟨Nat.le_of_ble_eq_true rfl, Nat.le_of_ble_eq_true rfl⟩), E.1.2.2.2.2 _ w3_42⟩ (pw_pre E.2 hw) rfl rfl hl.1 rfl (lv_room (Nat.le_of_ble_eq_true rfl)) dX6_shift_21 ⟨Nat.zero_le _, Nat.zero_le _⟩) ?_
      refine k_if1 (tgt := 30) E dX6_shift_24 (by decide) (fun c24 => ?_) (fun c24 => absurd hin (by rw [show i32in (nI w) (-100) (nI 100) = false from c24]; decide))
      have hS1 := (hMS x1 (by omega)).1
      have hS1a := hS1.1.1
      have hS1b := hS1.2.1
      have hS1c := hS1.2.2.1
      refine lv_aload_n E.1.1 E.1.2.1 dX6_shift_30 rfl (lv_at hl 0 rfl) ?_
      refine lv_aload_n E.1.1 E.1.2.1 dX6_shift_31 rfl (lv_at hl 0 rfl) ?_
      refine k_get (v := .ref (A 1)) E inlX6 rfl 1 (by decide) w2_233 rfl hw h_o rfl dX6_shift_32 ?_
      refine lv_iload_n E.1.1 E.1.2.1 dX6_shift_35 rfl (lv_at hl 2 rfl) ?_
      refine k_iald E hw (v := nI (T x1)) h_ts (by omega) (by omega) (rfl) dX6_shift_36 ?_
      refine lv_iload_n E.1.1 E.1.2.1 dX6_shift_37 rfl (lv_at hl 3 rfl) ?_
      refine k_add E dX6_shift_38 ?_
      refine k_zle (tgt := 53) E dX6_shift_39 (by decide) (by omega) (fun c39 => ?_) (fun c39 => ?_)
      · refine lv_iconst (v := nI 0) E.1.1 E.1.2.1 dX6_shift_53 rfl ?_
        refine k_top E (nI (T x1 + w)) (by rw [c39]) ?_
        refine k_put (ty0 := tyX6) E inlX6 rfl tyX6_ok nmX6 5 (by decide) w2_237 rfl rfl hw [.int (nI base), .ref (A 1), .ref (A 2), .ref (A 3), .ref (A 4), .int (nI (T x1 + w)), .int (nI pb), .ref (A 5), .int (nI ns), .ref (A 6), .ref (A 7), .ref (A 8)] h_o (rfl) (rfl) (Nat.le_of_ble_eq_true rfl) rfl dX6_shift_54 (fun f H locs h_o hfr hw => ?_)
        have h_ts := h_ts.kp hfr (Ne.symm n_o_ts)
        have h_ps := h_ps.kp hfr (Ne.symm n_o_ps)
        have h_bs := h_bs.kp hfr (Ne.symm n_o_bs)
        have h_rw := h_rw.kp hfr (Ne.symm n_o_rw)
        have h_gs := h_gs.kp hfr (Ne.symm n_o_gs)
        have h_fa := h_fa.kp hfr (Ne.symm n_o_fa)
        have h_ba := h_ba.kp hfr (Ne.symm n_o_ba)
        have h_it := h_it.kp hfr (Ne.symm n_o_it)
        have hF : ∀ b ∈ L, b ≠ (A 0) → b ≠ (A 1) → b ≠ (A 2) → b ≠ (A 3) → b ≠ (A 4) → b ≠ (A 5) → f b = f0 b := fun b hb h0 h1 h2 h3 h4 h5 => (hfr b h0).trans (hF b hb h0 h1 h2 h3 h4 h5)
        refine lv_aload_n E.1.1 E.1.2.1 dX6_shift_57 rfl (lv_at hl 0 rfl) ?_
        refine lv_aload_n E.1.1 E.1.2.1 dX6_shift_58 rfl (lv_at hl 0 rfl) ?_
        refine k_get (v := .ref (A 2)) E inlX6 rfl 2 (by decide) w2_234 rfl hw h_o rfl dX6_shift_59 ?_
        refine lv_iload_n E.1.1 E.1.2.1 dX6_shift_62 rfl (lv_at hl 2 rfl) ?_
        refine k_iald E hw (v := nI (P x1)) h_ps (by omega) (by omega) (rfl) dX6_shift_63 ?_
        refine k_put (ty0 := tyX6) E inlX6 rfl tyX6_ok nmX6 6 (by decide) w2_238 rfl rfl hw [.int (nI base), .ref (A 1), .ref (A 2), .ref (A 3), .ref (A 4), .int (nI (T x1 + w)), .int (nI (P x1)), .ref (A 5), .int (nI ns), .ref (A 6), .ref (A 7), .ref (A 8)] h_o (rfl) (rfl) (Nat.le_of_ble_eq_true rfl) rfl dX6_shift_64 (fun f H locs h_o hfr hw => ?_)
        have h_ts := h_ts.kp hfr (Ne.symm n_o_ts)
        have h_ps := h_ps.kp hfr (Ne.symm n_o_ps)
        have h_bs := h_bs.kp hfr (Ne.symm n_o_bs)
        have h_rw := h_rw.kp hfr (Ne.symm n_o_rw)
        have h_gs := h_gs.kp hfr (Ne.symm n_o_gs)
        have h_fa := h_fa.kp hfr (Ne.symm n_o_fa)
        have h_ba := h_ba.kp hfr (Ne.symm n_o_ba)
        have h_it := h_it.kp hfr (Ne.symm n_o_it)
        have hF : ∀ b ∈ L, b ≠ (A 0) → b ≠ (A 1) → b ≠ (A 2) → b ≠ (A 3) → b ≠ (A 4) → b ≠ (A 5) → f b = f0 b := fun b hb h0 h1 h2 h3 h4 h5 => (hfr b h0).trans (hF b hb h0 h1 h2 h3 h4 h5)
        have hX : den (T x1 + w) (P x1) (rbx (shU (SS x1) w) rr ((T x1 + w) + (P x1))) = shU (SS x1) w := den_rbx rr (by omega) (shU_ev hS1.1.2.1)
        rw [← rbx_0 (shU (SS x1) w) rr] at h_rw
        refine lv_iconst (v := nI 0) E.1.1 E.1.2.1 dX6_shift_67 rfl ?_
        refine lv_istore (lv' := [(4, .int (nI 0)), (0, .ref (A 0)), (1, .int (nI j)), (2, .int (nI x1)), (3, .int (nI w))]) E.1.1 E.1.2.1 dX6_shift_68 hl (by decide) rfl (fun ls hl => ?_)
        have lp70 : ∀ (k : Nat) (u : Nat) (f : Nat → va_E) (H : Heap) (locs : List Loc) (ls : Array Slot), ((T x1 + w) + (P x1) - u < k) → (u ≤ (T x1 + w) + (P x1)) → (cel L f (A 0) (.inr (6, [.int (nI base), .ref (A 1), .ref (A 2), .ref (A 3), .ref (A 4), .int (nI (T x1 + w)), .int (nI (P x1)), .ref (A 5), .int (nI ns), .ref (A 6), .ref (A 7), .ref (A 8)]))) → (cel L f (A 1) (.inl (cy 0, 84, .inl (fun k => nI (T k))))) → (cel L f (A 2) (.inl (cy 0, 84, .inl (fun k => nI (P k))))) → (cel L f (A 3) (.inl (cy 1, 252, .inr (.inl (rw3 B))))) → (cel L f (A 4) (.inl (cy 2, 4096, .inl (fun k => b2i ((rbx (shU (SS x1) w) rr u) k))))) → (cel L f (A 5) (.inl (cy 0, 325, .inl G))) → (cel L f (A 6) (.inl (cy 0, 65, .inl Fa))) → (cel L f (A 7) (.inl (cy 0, 2, .inl (fun k => nI (kb1 k))))) → (cel L f (A 8) (.inl (cy 2, 2, .inl (fun k => b2i (kp k))))) → (∀ b ∈ L, b ≠ (A 0) → b ≠ (A 1) → b ≠ (A 2) → b ≠ (A 3) → b ≠ (A 4) → b ≠ (A 5) → f b = f0 b) → (WW D (AW L sz) s.heap L f H locs) → (lv_has ls 5 [(4, .int (nI u)), (0, .ref (A 0)), (1, .int (nI j)), (2, .int (nI x1)), (3, .int (nI w))]) → W p l e R s m args below meth c H locs 0 0 Q (F0 m 70 ls []) := by
          intro k
          induction k with
          | zero => intro _ _ _ _ _ hk; exact absurd hk (Nat.not_lt_zero _)
          | succ k ih70 =>
            intro u f H locs ls hk hu h_o h_ts h_ps h_bs h_rw h_gs h_fa h_ba h_it hF hw hl
            refine lv_iload E.1.1 E.1.2.1 dX6_shift_70 (lv_at hl 0 rfl) ?_
            refine lv_aload_n E.1.1 E.1.2.1 dX6_shift_72 rfl (lv_at hl 1 rfl) ?_
            refine k_get (v := .int (nI (T x1 + w))) E inlX6 rfl 5 (by decide) w2_237 rfl hw h_o rfl dX6_shift_73 ?_
            refine lv_aload_n E.1.1 E.1.2.1 dX6_shift_76 rfl (lv_at hl 1 rfl) ?_
            refine k_get (v := .int (nI (P x1))) E inlX6 rfl 6 (by decide) w2_238 rfl hw h_o rfl dX6_shift_77 ?_
            refine k_add E dX6_shift_80 ?_
            refine k_ge (tgt := 120) E dX6_shift_81 (by decide) (by omega) (by omega) (fun c81 => ?_) (fun c81 => ?_)
            · rw [show u = (T x1 + w) + (P x1) by omega] at h_rw
              refine lv_aload_n E.1.1 E.1.2.1 dX6_shift_120 rfl (lv_at hl 1 rfl) ?_
              refine lv_iload_n E.1.1 E.1.2.1 dX6_shift_121 rfl (lv_at hl 2 rfl) ?_
              refine k_mi hw (va_runV (As := [.int (nI j)]) (rest := []) E.1 (m_keep l D cy L f H.size A base (T x1 + w) (P x1) ns T P B (rbx (shU (SS x1) w) rr ((T x1 + w) + (P x1))) G hA hTP j (by omega) (by omega) (by omega) (by omega) (by omega) h_o h_ts h_ps h_bs h_rw h_gs) ⟨callB_of 1 E.1.2.2.2.2 (gd_own w3_47) rfl rfl rfl (E.1.2.2.2.2 _ w1_10) (E.1.2.2.2.2 _ w3_44) hd_X6_keep (by rw [hR]; exact ⟨Nat.le_of_ble_eq_true rfl, Nat.le_of_ble_eq_true rfl⟩), E.1.2.2.2.2 _ w3_46, E.1.2.2.2.2 _ ws_25⟩ (pw_preV (q := (RX6, TX6, 12)) E.2 hw h_o rfl) rfl rfl hl.1 rfl (lv_room (Nat.le_of_ble_eq_true rfl)) dX6_shift_122 (by rw [hR]; exact ⟨Nat.le_of_ble_eq_true rfl, Nat.le_of_ble_eq_true rfl⟩)) (fun r L1 f H locs hp hw => ?_)
              obtain ⟨hL1, hfr, fr2, pb2, ns2, T2, P2, B2, rr2, G2, h_o, h_ts, h_ps, h_bs, h_rw, h_gs, hTP2, hag, hcase⟩ := hp
              have hL1 : L = L1 := hL1
              subst hL1
              have h_o : cel L f (A 0) (.inr (6, [.int (nI base), .ref (A 1), .ref (A 2), .ref (A 3), .ref (A 4), .int (nI fr2), .int (nI pb2), .ref (A 5), .int (nI ns2), .ref (A 6), .ref (A 7), .ref (A 8)])) := h_o
              have h_ts : cel L f (A 1) (.inl (cy 0, 84, .inl (fun k => nI (T2 k)))) := h_ts
              have h_ps : cel L f (A 2) (.inl (cy 0, 84, .inl (fun k => nI (P2 k)))) := h_ps
              have h_bs : cel L f (A 3) (.inl (cy 1, 252, .inr (.inl (rw3 B2)))) := h_bs
              have h_rw : cel L f (A 4) (.inl (cy 2, 4096, .inl (fun k => b2i (rr2 k)))) := h_rw
              have h_gs : cel L f (A 5) (.inl (cy 0, 325, .inl G2)) := h_gs
              have h_fa := h_fa.keep (fun _ h => h) (hfr _ h_fa.1 (Ne.symm n_o_fa) (Ne.symm n_ts_fa) (Ne.symm n_ps_fa) (Ne.symm n_bs_fa) (Ne.symm n_rw_fa) (Ne.symm n_gs_fa))
              have h_ba := h_ba.keep (fun _ h => h) (hfr _ h_ba.1 (Ne.symm n_o_ba) (Ne.symm n_ts_ba) (Ne.symm n_ps_ba) (Ne.symm n_bs_ba) (Ne.symm n_rw_ba) (Ne.symm n_gs_ba))
              have h_it := h_it.keep (fun _ h => h) (hfr _ h_it.1 (Ne.symm n_o_it) (Ne.symm n_ts_it) (Ne.symm n_ps_it) (Ne.symm n_bs_it) (Ne.symm n_rw_it) (Ne.symm n_gs_it))
              have hF : ∀ b ∈ L, b ≠ (A 0) → b ≠ (A 1) → b ≠ (A 2) → b ≠ (A 3) → b ≠ (A 4) → b ≠ (A 5) → f b = f0 b := fun b hb h0 h1 h2 h3 h4 h5 => (hfr b (hLs b hb) h0 h1 h2 h3 h4 h5).trans (hF b hb h0 h1 h2 h3 h4 h5)
              rw [hX] at hcase
              exact k_miret E hQ hlk hr hw (Nat.le_of_ble_eq_true rfl) (Nat.le_of_ble_eq_true rfl) (⟨rfl, fun b hb h => hF b hb (h 0 (by decide)) (h 1 (by decide)) (h 2 (by decide)) (h 3 (by decide)) (h 4 (by decide)) (h 5 (by decide)), by
      obtain ⟨SS2, hW2, hH⟩ := mo_hold hB hMS hMK ⟨h_o, h_ts, h_ps, h_bs, h_rw, h_gs, h_fa, h_ba, h_it⟩ hTP2 (by omega) hag hcase
      exact ⟨SS2, hW2, sp_un_ok hj hx1 rfl (by rw [xShift_p hw1]; exact hH)⟩⟩) dX6_shift_125
            · refine lv_aload_n E.1.1 E.1.2.1 dX6_shift_84 rfl (lv_at hl 1 rfl) ?_
              refine k_get (v := .ref (A 4)) E inlX6 rfl 4 (by decide) w2_236 rfl hw h_o rfl dX6_shift_85 ?_
              refine lv_iload E.1.1 E.1.2.1 dX6_shift_88 (lv_at hl 0 rfl) ?_
              refine lv_iload E.1.1 E.1.2.1 dX6_shift_90 (lv_at hl 0 rfl) ?_
              refine lv_iload_n E.1.1 E.1.2.1 dX6_shift_92 rfl (lv_at hl 4 rfl) ?_
              refine k_lt (tgt := 112) E dX6_shift_93 (by decide) (by omega) (by omega) (fun c93 => ?_) (fun c93 => ?_)
              · refine lv_iconst (v := nI 0) E.1.1 E.1.2.1 dX6_shift_112 rfl ?_
                refine W.eq (g2 := F0 m 113 ls (.int (b2i false) :: .int (nI u) :: .ref (A 4) :: [])) rfl ?_
                refine k_zast E hw (fun k => b2i (rbx (shU (SS x1) w) rr (u + 1) k)) h_rw (by omega) (by omega) (fun i _ => rbx_v (by unfold shU; rw [decide_eq_false (by omega)]; rfl) i) dX6_shift_113 (fun f H locs h_rw hfr hw => ?_)
                have h_o := h_o.kp hfr n_o_rw
                have h_ts := h_ts.kp hfr n_ts_rw
                have h_ps := h_ps.kp hfr n_ps_rw
                have h_bs := h_bs.kp hfr n_bs_rw
                have h_gs := h_gs.kp hfr (Ne.symm n_rw_gs)
                have h_fa := h_fa.kp hfr (Ne.symm n_rw_fa)
                have h_ba := h_ba.kp hfr (Ne.symm n_rw_ba)
                have h_it := h_it.kp hfr (Ne.symm n_rw_it)
                have hF : ∀ b ∈ L, b ≠ (A 0) → b ≠ (A 1) → b ≠ (A 2) → b ≠ (A 3) → b ≠ (A 4) → b ≠ (A 5) → f b = f0 b := fun b hb h0 h1 h2 h3 h4 h5 => (hfr b h4).trans (hF b hb h0 h1 h2 h3 h4 h5)
                refine lv_iinc (v := nI (u + 1)) (lv' := [(4, .int (nI (u + 1))), (0, .ref (A 0)), (1, .int (nI j)), (2, .int (nI x1)), (3, .int (nI w))]) E.1.1 E.1.2.1 dX6_shift_114 hl (k := 0) rfl (nI_1 _) (by decide) rfl (fun ls hl => ?_)
                refine lv_goto (tgt := 70) E.1.1 E.1.2.1 dX6_shift_117 (by decide) ?_
                exact ih70  (u + 1) f H locs ls (by omega) (by omega) h_o h_ts h_ps h_bs h_rw h_gs h_fa h_ba h_it hF hw (lv_sub hl [0, 1, 2, 3, 4] rfl)
              · refine lv_aload_n E.1.1 E.1.2.1 dX6_shift_96 rfl (lv_at hl 1 rfl) ?_
                refine lv_iload_n E.1.1 E.1.2.1 dX6_shift_97 rfl (lv_at hl 3 rfl) ?_
                refine lv_iload E.1.1 E.1.2.1 dX6_shift_98 (lv_at hl 0 rfl) ?_
                refine lv_iload_n E.1.1 E.1.2.1 dX6_shift_100 rfl (lv_at hl 4 rfl) ?_
                refine k_sub E dX6_shift_101 (by omega) ?_
                refine k_ri (va_runV (As := [.int (nI x1), .int (nI (u - w))]) (rest := [.int (nI u), .ref (A 4)]) E.1 (m_isInS l D cy L f H.size A base (T x1 + w) (P x1) ns T P B (rbx (shU (SS x1) w) rr u) G hA hTP x1 (u - w) (SS x1) hS1 (by omega) (by omega) h_o h_ts h_ps h_bs) ⟨callB_of 2 E.1.2.2.2.2 (gd_own w3_79) rfl rfl rfl (E.1.2.2.2.2 _ w1_10) (E.1.2.2.2.2 _ w3_76) hd_X6_isIn (by rw [hR]; exact ⟨Nat.le_of_ble_eq_true rfl, Nat.le_of_ble_eq_true rfl⟩), E.1.2.2.2.2 _ w3_78, E.1.2.2.2.2 _ ws_33⟩ (pw_preV (q := (RX6, TX6, 12)) E.2 hw h_o rfl) rfl rfl hl.1 rfl (lv_room (Nat.le_of_ble_eq_true rfl)) dX6_shift_102 ⟨Nat.zero_le _, Nat.zero_le _⟩) ?_
                refine k_if0 (tgt := 112) E dX6_shift_105 (by decide) (fun c105 => ?_) (fun c105 => ?_)
                · refine lv_iconst (v := nI 0) E.1.1 E.1.2.1 dX6_shift_112 rfl ?_
                  refine W.eq (g2 := F0 m 113 ls (.int (b2i false) :: .int (nI u) :: .ref (A 4) :: [])) rfl ?_
                  refine k_zast E hw (fun k => b2i (rbx (shU (SS x1) w) rr (u + 1) k)) h_rw (by omega) (by omega) (fun i _ => rbx_v (by unfold shU; rw [decide_eq_true (show w ≤ u by omega), c105]; rfl) i) dX6_shift_113 (fun f H locs h_rw hfr hw => ?_)
                  have h_o := h_o.kp hfr n_o_rw
                  have h_ts := h_ts.kp hfr n_ts_rw
                  have h_ps := h_ps.kp hfr n_ps_rw
                  have h_bs := h_bs.kp hfr n_bs_rw
                  have h_gs := h_gs.kp hfr (Ne.symm n_rw_gs)
                  have h_fa := h_fa.kp hfr (Ne.symm n_rw_fa)
                  have h_ba := h_ba.kp hfr (Ne.symm n_rw_ba)
                  have h_it := h_it.kp hfr (Ne.symm n_rw_it)
                  have hF : ∀ b ∈ L, b ≠ (A 0) → b ≠ (A 1) → b ≠ (A 2) → b ≠ (A 3) → b ≠ (A 4) → b ≠ (A 5) → f b = f0 b := fun b hb h0 h1 h2 h3 h4 h5 => (hfr b h4).trans (hF b hb h0 h1 h2 h3 h4 h5)
                  refine lv_iinc (v := nI (u + 1)) (lv' := [(4, .int (nI (u + 1))), (0, .ref (A 0)), (1, .int (nI j)), (2, .int (nI x1)), (3, .int (nI w))]) E.1.1 E.1.2.1 dX6_shift_114 hl (k := 0) rfl (nI_1 _) (by decide) rfl (fun ls hl => ?_)
                  refine lv_goto (tgt := 70) E.1.1 E.1.2.1 dX6_shift_117 (by decide) ?_
                  exact ih70  (u + 1) f H locs ls (by omega) (by omega) h_o h_ts h_ps h_bs h_rw h_gs h_fa h_ba h_it hF hw (lv_sub hl [0, 1, 2, 3, 4] rfl)
                · refine lv_iconst (v := nI 1) E.1.1 E.1.2.1 dX6_shift_108 rfl ?_
                  refine lv_goto (tgt := 113) E.1.1 E.1.2.1 dX6_shift_109 (by decide) ?_
                  refine W.eq (g2 := F0 m 113 ls (.int (b2i true) :: .int (nI u) :: .ref (A 4) :: [])) rfl ?_
                  refine k_zast E hw (fun k => b2i (rbx (shU (SS x1) w) rr (u + 1) k)) h_rw (by omega) (by omega) (fun i _ => rbx_v (by unfold shU; rw [decide_eq_true (show w ≤ u by omega), c105]; rfl) i) dX6_shift_113 (fun f H locs h_rw hfr hw => ?_)
                  have h_o := h_o.kp hfr n_o_rw
                  have h_ts := h_ts.kp hfr n_ts_rw
                  have h_ps := h_ps.kp hfr n_ps_rw
                  have h_bs := h_bs.kp hfr n_bs_rw
                  have h_gs := h_gs.kp hfr (Ne.symm n_rw_gs)
                  have h_fa := h_fa.kp hfr (Ne.symm n_rw_fa)
                  have h_ba := h_ba.kp hfr (Ne.symm n_rw_ba)
                  have h_it := h_it.kp hfr (Ne.symm n_rw_it)
                  have hF : ∀ b ∈ L, b ≠ (A 0) → b ≠ (A 1) → b ≠ (A 2) → b ≠ (A 3) → b ≠ (A 4) → b ≠ (A 5) → f b = f0 b := fun b hb h0 h1 h2 h3 h4 h5 => (hfr b h4).trans (hF b hb h0 h1 h2 h3 h4 h5)
                  refine lv_iinc (v := nI (u + 1)) (lv' := [(4, .int (nI (u + 1))), (0, .ref (A 0)), (1, .int (nI j)), (2, .int (nI x1)), (3, .int (nI w))]) E.1.1 E.1.2.1 dX6_shift_114 hl (k := 0) rfl (nI_1 _) (by decide) rfl (fun ls hl => ?_)
                  refine lv_goto (tgt := 70) E.1.1 E.1.2.1 dX6_shift_117 (by decide) ?_
                  exact ih70  (u + 1) f H locs ls (by omega) (by omega) h_o h_ts h_ps h_bs h_rw h_gs h_fa h_ba h_it hF hw (lv_sub hl [0, 1, 2, 3, 4] rfl)
        exact lp70 ((T x1 + w) + (P x1) - 0 + 1) 0 f H locs ls (Nat.lt_succ_self _) (by omega) h_o h_ts h_ps h_bs h_rw h_gs h_fa h_ba h_it hF hw (lv_sub hl [0, 1, 2, 3, 4] rfl)
      · refine lv_aload_n E.1.1 E.1.2.1 dX6_shift_42 rfl (lv_at hl 0 rfl) ?_
        refine k_get (v := .ref (A 1)) E inlX6 rfl 1 (by decide) w2_233 rfl hw h_o rfl dX6_shift_43 ?_
        refine lv_iload_n E.1.1 E.1.2.1 dX6_shift_46 rfl (lv_at hl 2 rfl) ?_
        refine k_iald E hw (v := nI (T x1)) h_ts (by omega) (by omega) (rfl) dX6_shift_47 ?_
        refine lv_iload_n E.1.1 E.1.2.1 dX6_shift_48 rfl (lv_at hl 3 rfl) ?_
        refine k_add E dX6_shift_49 ?_
        refine lv_goto (tgt := 54) E.1.1 E.1.2.1 dX6_shift_50 (by decide) ?_
        refine k_top E (nI (T x1 + w)) (rfl) ?_
        refine k_put (ty0 := tyX6) E inlX6 rfl tyX6_ok nmX6 5 (by decide) w2_237 rfl rfl hw [.int (nI base), .ref (A 1), .ref (A 2), .ref (A 3), .ref (A 4), .int (nI (T x1 + w)), .int (nI pb), .ref (A 5), .int (nI ns), .ref (A 6), .ref (A 7), .ref (A 8)] h_o (rfl) (rfl) (Nat.le_of_ble_eq_true rfl) rfl dX6_shift_54 (fun f H locs h_o hfr hw => ?_)
        have h_ts := h_ts.kp hfr (Ne.symm n_o_ts)
        have h_ps := h_ps.kp hfr (Ne.symm n_o_ps)
        have h_bs := h_bs.kp hfr (Ne.symm n_o_bs)
        have h_rw := h_rw.kp hfr (Ne.symm n_o_rw)
        have h_gs := h_gs.kp hfr (Ne.symm n_o_gs)
        have h_fa := h_fa.kp hfr (Ne.symm n_o_fa)
        have h_ba := h_ba.kp hfr (Ne.symm n_o_ba)
        have h_it := h_it.kp hfr (Ne.symm n_o_it)
        have hF : ∀ b ∈ L, b ≠ (A 0) → b ≠ (A 1) → b ≠ (A 2) → b ≠ (A 3) → b ≠ (A 4) → b ≠ (A 5) → f b = f0 b := fun b hb h0 h1 h2 h3 h4 h5 => (hfr b h0).trans (hF b hb h0 h1 h2 h3 h4 h5)
        refine lv_aload_n E.1.1 E.1.2.1 dX6_shift_57 rfl (lv_at hl 0 rfl) ?_
        refine lv_aload_n E.1.1 E.1.2.1 dX6_shift_58 rfl (lv_at hl 0 rfl) ?_
        refine k_get (v := .ref (A 2)) E inlX6 rfl 2 (by decide) w2_234 rfl hw h_o rfl dX6_shift_59 ?_
        refine lv_iload_n E.1.1 E.1.2.1 dX6_shift_62 rfl (lv_at hl 2 rfl) ?_
        refine k_iald E hw (v := nI (P x1)) h_ps (by omega) (by omega) (rfl) dX6_shift_63 ?_
        refine k_put (ty0 := tyX6) E inlX6 rfl tyX6_ok nmX6 6 (by decide) w2_238 rfl rfl hw [.int (nI base), .ref (A 1), .ref (A 2), .ref (A 3), .ref (A 4), .int (nI (T x1 + w)), .int (nI (P x1)), .ref (A 5), .int (nI ns), .ref (A 6), .ref (A 7), .ref (A 8)] h_o (rfl) (rfl) (Nat.le_of_ble_eq_true rfl) rfl dX6_shift_64 (fun f H locs h_o hfr hw => ?_)
        have h_ts := h_ts.kp hfr (Ne.symm n_o_ts)
        have h_ps := h_ps.kp hfr (Ne.symm n_o_ps)
        have h_bs := h_bs.kp hfr (Ne.symm n_o_bs)
        have h_rw := h_rw.kp hfr (Ne.symm n_o_rw)
        have h_gs := h_gs.kp hfr (Ne.symm n_o_gs)
        have h_fa := h_fa.kp hfr (Ne.symm n_o_fa)
        have h_ba := h_ba.kp hfr (Ne.symm n_o_ba)
        have h_it := h_it.kp hfr (Ne.symm n_o_it)
        have hF : ∀ b ∈ L, b ≠ (A 0) → b ≠ (A 1) → b ≠ (A 2) → b ≠ (A 3) → b ≠ (A 4) → b ≠ (A 5) → f b = f0 b := fun b hb h0 h1 h2 h3 h4 h5 => (hfr b h0).trans (hF b hb h0 h1 h2 h3 h4 h5)
        have hX : den (T x1 + w) (P x1) (rbx (shU (SS x1) w) rr ((T x1 + w) + (P x1))) = shU (SS x1) w := den_rbx rr (by omega) (shU_ev hS1.1.2.1)
        rw [← rbx_0 (shU (SS x1) w) rr] at h_rw
        refine lv_iconst (v := nI 0) E.1.1 E.1.2.1 dX6_shift_67 rfl ?_
        refine lv_istore (lv' := [(4, .int (nI 0)), (0, .ref (A 0)), (1, .int (nI j)), (2, .int (nI x1)), (3, .int (nI w))]) E.1.1 E.1.2.1 dX6_shift_68 hl (by decide) rfl (fun ls hl => ?_)
        have lp70 : ∀ (k : Nat) (u : Nat) (f : Nat → va_E) (H : Heap) (locs : List Loc) (ls : Array Slot), ((T x1 + w) + (P x1) - u < k) → (u ≤ (T x1 + w) + (P x1)) → (cel L f (A 0) (.inr (6, [.int (nI base), .ref (A 1), .ref (A 2), .ref (A 3), .ref (A 4), .int (nI (T x1 + w)), .int (nI (P x1)), .ref (A 5), .int (nI ns), .ref (A 6), .ref (A 7), .ref (A 8)]))) → (cel L f (A 1) (.inl (cy 0, 84, .inl (fun k => nI (T k))))) → (cel L f (A 2) (.inl (cy 0, 84, .inl (fun k => nI (P k))))) → (cel L f (A 3) (.inl (cy 1, 252, .inr (.inl (rw3 B))))) → (cel L f (A 4) (.inl (cy 2, 4096, .inl (fun k => b2i ((rbx (shU (SS x1) w) rr u) k))))) → (cel L f (A 5) (.inl (cy 0, 325, .inl G))) → (cel L f (A 6) (.inl (cy 0, 65, .inl Fa))) → (cel L f (A 7) (.inl (cy 0, 2, .inl (fun k => nI (kb1 k))))) → (cel L f (A 8) (.inl (cy 2, 2, .inl (fun k => b2i (kp k))))) → (∀ b ∈ L, b ≠ (A 0) → b ≠ (A 1) → b ≠ (A 2) → b ≠ (A 3) → b ≠ (A 4) → b ≠ (A 5) → f b = f0 b) → (WW D (AW L sz) s.heap L f H locs) → (lv_has ls 5 [(4, .int (nI u)), (0, .ref (A 0)), (1, .int (nI j)), (2, .int (nI x1)), (3, .int (nI w))]) → W p l e R s m args below meth c H locs 0 0 Q (F0 m 70 ls []) := by
          intro k
          induction k with
          | zero => intro _ _ _ _ _ hk; exact absurd hk (Nat.not_lt_zero _)
          | succ k ih70 =>
            intro u f H locs ls hk hu h_o h_ts h_ps h_bs h_rw h_gs h_fa h_ba h_it hF hw hl
            refine lv_iload E.1.1 E.1.2.1 dX6_shift_70 (lv_at hl 0 rfl) ?_
            refine lv_aload_n E.1.1 E.1.2.1 dX6_shift_72 rfl (lv_at hl 1 rfl) ?_
            refine k_get (v := .int (nI (T x1 + w))) E inlX6 rfl 5 (by decide) w2_237 rfl hw h_o rfl dX6_shift_73 ?_
            refine lv_aload_n E.1.1 E.1.2.1 dX6_shift_76 rfl (lv_at hl 1 rfl) ?_
            refine k_get (v := .int (nI (P x1))) E inlX6 rfl 6 (by decide) w2_238 rfl hw h_o rfl dX6_shift_77 ?_
            refine k_add E dX6_shift_80 ?_
            refine k_ge (tgt := 120) E dX6_shift_81 (by decide) (by omega) (by omega) (fun c81 => ?_) (fun c81 => ?_)
            · rw [show u = (T x1 + w) + (P x1) by omega] at h_rw
              refine lv_aload_n E.1.1 E.1.2.1 dX6_shift_120 rfl (lv_at hl 1 rfl) ?_
              refine lv_iload_n E.1.1 E.1.2.1 dX6_shift_121 rfl (lv_at hl 2 rfl) ?_
              refine k_mi hw (va_runV (As := [.int (nI j)]) (rest := []) E.1 (m_keep l D cy L f H.size A base (T x1 + w) (P x1) ns T P B (rbx (shU (SS x1) w) rr ((T x1 + w) + (P x1))) G hA hTP j (by omega) (by omega) (by omega) (by omega) (by omega) h_o h_ts h_ps h_bs h_rw h_gs) ⟨callB_of 1 E.1.2.2.2.2 (gd_own w3_47) rfl rfl rfl (E.1.2.2.2.2 _ w1_10) (E.1.2.2.2.2 _ w3_44) hd_X6_keep (by rw [hR]; exact ⟨Nat.le_of_ble_eq_true rfl, Nat.le_of_ble_eq_true rfl⟩), E.1.2.2.2.2 _ w3_46, E.1.2.2.2.2 _ ws_25⟩ (pw_preV (q := (RX6, TX6, 12)) E.2 hw h_o rfl) rfl rfl hl.1 rfl (lv_room (Nat.le_of_ble_eq_true rfl)) dX6_shift_122 (by rw [hR]; exact ⟨Nat.le_of_ble_eq_true rfl, Nat.le_of_ble_eq_true rfl⟩)) (fun r L1 f H locs hp hw => ?_)
              obtain ⟨hL1, hfr, fr2, pb2, ns2, T2, P2, B2, rr2, G2, h_o, h_ts, h_ps, h_bs, h_rw, h_gs, hTP2, hag, hcase⟩ := hp
              have hL1 : L = L1 := hL1
              subst hL1
              have h_o : cel L f (A 0) (.inr (6, [.int (nI base), .ref (A 1), .ref (A 2), .ref (A 3), .ref (A 4), .int (nI fr2), .int (nI pb2), .ref (A 5), .int (nI ns2), .ref (A 6), .ref (A 7), .ref (A 8)])) := h_o
              have h_ts : cel L f (A 1) (.inl (cy 0, 84, .inl (fun k => nI (T2 k)))) := h_ts
              have h_ps : cel L f (A 2) (.inl (cy 0, 84, .inl (fun k => nI (P2 k)))) := h_ps
              have h_bs : cel L f (A 3) (.inl (cy 1, 252, .inr (.inl (rw3 B2)))) := h_bs
              have h_rw : cel L f (A 4) (.inl (cy 2, 4096, .inl (fun k => b2i (rr2 k)))) := h_rw
              have h_gs : cel L f (A 5) (.inl (cy 0, 325, .inl G2)) := h_gs
              have h_fa := h_fa.keep (fun _ h => h) (hfr _ h_fa.1 (Ne.symm n_o_fa) (Ne.symm n_ts_fa) (Ne.symm n_ps_fa) (Ne.symm n_bs_fa) (Ne.symm n_rw_fa) (Ne.symm n_gs_fa))
              have h_ba := h_ba.keep (fun _ h => h) (hfr _ h_ba.1 (Ne.symm n_o_ba) (Ne.symm n_ts_ba) (Ne.symm n_ps_ba) (Ne.symm n_bs_ba) (Ne.symm n_rw_ba) (Ne.symm n_gs_ba))
              have h_it := h_it.keep (fun _ h => h) (hfr _ h_it.1 (Ne.symm n_o_it) (Ne.symm n_ts_it) (Ne.symm n_ps_it) (Ne.symm n_bs_it) (Ne.symm n_rw_it) (Ne.symm n_gs_it))
              have hF : ∀ b ∈ L, b ≠ (A 0) → b ≠ (A 1) → b ≠ (A 2) → b ≠ (A 3) → b ≠ (A 4) → b ≠ (A 5) → f b = f0 b := fun b hb h0 h1 h2 h3 h4 h5 => (hfr b (hLs b hb) h0 h1 h2 h3 h4 h5).trans (hF b hb h0 h1 h2 h3 h4 h5)
              rw [hX] at hcase
              exact k_miret E hQ hlk hr hw (Nat.le_of_ble_eq_true rfl) (Nat.le_of_ble_eq_true rfl) (⟨rfl, fun b hb h => hF b hb (h 0 (by decide)) (h 1 (by decide)) (h 2 (by decide)) (h 3 (by decide)) (h 4 (by decide)) (h 5 (by decide)), by
      obtain ⟨SS2, hW2, hH⟩ := mo_hold hB hMS hMK ⟨h_o, h_ts, h_ps, h_bs, h_rw, h_gs, h_fa, h_ba, h_it⟩ hTP2 (by omega) hag hcase
      exact ⟨SS2, hW2, sp_un_ok hj hx1 rfl (by rw [xShift_p hw1]; exact hH)⟩⟩) dX6_shift_125
            · refine lv_aload_n E.1.1 E.1.2.1 dX6_shift_84 rfl (lv_at hl 1 rfl) ?_
              refine k_get (v := .ref (A 4)) E inlX6 rfl 4 (by decide) w2_236 rfl hw h_o rfl dX6_shift_85 ?_
              refine lv_iload E.1.1 E.1.2.1 dX6_shift_88 (lv_at hl 0 rfl) ?_
              refine lv_iload E.1.1 E.1.2.1 dX6_shift_90 (lv_at hl 0 rfl) ?_
              refine lv_iload_n E.1.1 E.1.2.1 dX6_shift_92 rfl (lv_at hl 4 rfl) ?_
              refine k_lt (tgt := 112) E dX6_shift_93 (by decide) (by omega) (by omega) (fun c93 => ?_) (fun c93 => ?_)
              · refine lv_iconst (v := nI 0) E.1.1 E.1.2.1 dX6_shift_112 rfl ?_
                refine W.eq (g2 := F0 m 113 ls (.int (b2i false) :: .int (nI u) :: .ref (A 4) :: [])) rfl ?_
                refine k_zast E hw (fun k => b2i (rbx (shU (SS x1) w) rr (u + 1) k)) h_rw (by omega) (by omega) (fun i _ => rbx_v (by unfold shU; rw [decide_eq_false (by omega)]; rfl) i) dX6_shift_113 (fun f H locs h_rw hfr hw => ?_)
                have h_o := h_o.kp hfr n_o_rw
                have h_ts := h_ts.kp hfr n_ts_rw
                have h_ps := h_ps.kp hfr n_ps_rw
                have h_bs := h_bs.kp hfr n_bs_rw
                have h_gs := h_gs.kp hfr (Ne.symm n_rw_gs)
                have h_fa := h_fa.kp hfr (Ne.symm n_rw_fa)
                have h_ba := h_ba.kp hfr (Ne.symm n_rw_ba)
                have h_it := h_it.kp hfr (Ne.symm n_rw_it)
                have hF : ∀ b ∈ L, b ≠ (A 0) → b ≠ (A 1) → b ≠ (A 2) → b ≠ (A 3) → b ≠ (A 4) → b ≠ (A 5) → f b = f0 b := fun b hb h0 h1 h2 h3 h4 h5 => (hfr b h4).trans (hF b hb h0 h1 h2 h3 h4 h5)
                refine lv_iinc (v := nI (u + 1)) (lv' := [(4, .int (nI (u + 1))), (0, .ref (A 0)), (1, .int (nI j)), (2, .int (nI x1)), (3, .int (nI w))]) E.1.1 E.1.2.1 dX6_shift_114 hl (k := 0) rfl (nI_1 _) (by decide) rfl (fun ls hl => ?_)
                refine lv_goto (tgt := 70) E.1.1 E.1.2.1 dX6_shift_117 (by decide) ?_
                exact ih70  (u + 1) f H locs ls (by omega) (by omega) h_o h_ts h_ps h_bs h_rw h_gs h_fa h_ba h_it hF hw (lv_sub hl [0, 1, 2, 3, 4] rfl)
              · refine lv_aload_n E.1.1 E.1.2.1 dX6_shift_96 rfl (lv_at hl 1 rfl) ?_
                refine lv_iload_n E.1.1 E.1.2.1 dX6_shift_97 rfl (lv_at hl 3 rfl) ?_
                refine lv_iload E.1.1 E.1.2.1 dX6_shift_98 (lv_at hl 0 rfl) ?_
                refine lv_iload_n E.1.1 E.1.2.1 dX6_shift_100 rfl (lv_at hl 4 rfl) ?_
                refine k_sub E dX6_shift_101 (by omega) ?_
                refine k_ri (va_runV (As := [.int (nI x1), .int (nI (u - w))]) (rest := [.int (nI u), .ref (A 4)]) E.1 (m_isInS l D cy L f H.size A base (T x1 + w) (P x1) ns T P B (rbx (shU (SS x1) w) rr u) G hA hTP x1 (u - w) (SS x1) hS1 (by omega) (by omega) h_o h_ts h_ps h_bs) ⟨callB_of 2 E.1.2.2.2.2 (gd_own w3_79) rfl rfl rfl (E.1.2.2.2.2 _ w1_10) (E.1.2.2.2.2 _ w3_76) hd_X6_isIn (by rw [hR]; exact ⟨Nat.le_of_ble_eq_true rfl, Nat.le_of_ble_eq_true rfl⟩), E.1.2.2.2.2 _ w3_78, E.1.2.2.2.2 _ ws_33⟩ (pw_preV (q := (RX6, TX6, 12)) E.2 hw h_o rfl) rfl rfl hl.1 rfl (lv_room (Nat.le_of_ble_eq_true rfl)) dX6_shift_102 ⟨Nat.zero_le _, Nat.zero_le _⟩) ?_
                refine k_if0 (tgt := 112) E dX6_shift_105 (by decide) (fun c105 => ?_) (fun c105 => ?_)
                · refine lv_iconst (v := nI 0) E.1.1 E.1.2.1 dX6_shift_112 rfl ?_
                  refine W.eq (g2 := F0 m 113 ls (.int (b2i false) :: .int (nI u) :: .ref (A 4) :: [])) rfl ?_
                  refine k_zast E hw (fun k => b2i (rbx (shU (SS x1) w) rr (u + 1) k)) h_rw (by omega) (by omega) (fun i _ => rbx_v (by unfold shU; rw [decide_eq_true (show w ≤ u by omega), c105]; rfl) i) dX6_shift_113 (fun f H locs h_rw hfr hw => ?_)
                  have h_o := h_o.kp hfr n_o_rw
                  have h_ts := h_ts.kp hfr n_ts_rw
                  have h_ps := h_ps.kp hfr n_ps_rw
                  have h_bs := h_bs.kp hfr n_bs_rw
                  have h_gs := h_gs.kp hfr (Ne.symm n_rw_gs)
                  have h_fa := h_fa.kp hfr (Ne.symm n_rw_fa)
                  have h_ba := h_ba.kp hfr (Ne.symm n_rw_ba)
                  have h_it := h_it.kp hfr (Ne.symm n_rw_it)
                  have hF : ∀ b ∈ L, b ≠ (A 0) → b ≠ (A 1) → b ≠ (A 2) → b ≠ (A 3) → b ≠ (A 4) → b ≠ (A 5) → f b = f0 b := fun b hb h0 h1 h2 h3 h4 h5 => (hfr b h4).trans (hF b hb h0 h1 h2 h3 h4 h5)
                  refine lv_iinc (v := nI (u + 1)) (lv' := [(4, .int (nI (u + 1))), (0, .ref (A 0)), (1, .int (nI j)), (2, .int (nI x1)), (3, .int (nI w))]) E.1.1 E.1.2.1 dX6_shift_114 hl (k := 0) rfl (nI_1 _) (by decide) rfl (fun ls hl => ?_)
                  refine lv_goto (tgt := 70) E.1.1 E.1.2.1 dX6_shift_117 (by decide) ?_
                  exact ih70  (u + 1) f H locs ls (by omega) (by omega) h_o h_ts h_ps h_bs h_rw h_gs h_fa h_ba h_it hF hw (lv_sub hl [0, 1, 2, 3, 4] rfl)
                · refine lv_iconst (v := nI 1) E.1.1 E.1.2.1 dX6_shift_108 rfl ?_
                  refine lv_goto (tgt := 113) E.1.1 E.1.2.1 dX6_shift_109 (by decide) ?_
                  refine W.eq (g2 := F0 m 113 ls (.int (b2i true) :: .int (nI u) :: .ref (A 4) :: [])) rfl ?_
                  refine k_zast E hw (fun k => b2i (rbx (shU (SS x1) w) rr (u + 1) k)) h_rw (by omega) (by omega) (fun i _ => rbx_v (by unfold shU; rw [decide_eq_true (show w ≤ u by omega), c105]; rfl) i) dX6_shift_113 (fun f H locs h_rw hfr hw => ?_)
                  have h_o := h_o.kp hfr n_o_rw
                  have h_ts := h_ts.kp hfr n_ts_rw
                  have h_ps := h_ps.kp hfr n_ps_rw
                  have h_bs := h_bs.kp hfr n_bs_rw
                  have h_gs := h_gs.kp hfr (Ne.symm n_rw_gs)
                  have h_fa := h_fa.kp hfr (Ne.symm n_rw_fa)
                  have h_ba := h_ba.kp hfr (Ne.symm n_rw_ba)
                  have h_it := h_it.kp hfr (Ne.symm n_rw_it)
                  have hF : ∀ b ∈ L, b ≠ (A 0) → b ≠ (A 1) → b ≠ (A 2) → b ≠ (A 3) → b ≠ (A 4) → b ≠ (A 5) → f b = f0 b := fun b hb h0 h1 h2 h3 h4 h5 => (hfr b h4).trans (hF b hb h0 h1 h2 h3 h4 h5)
                  refine lv_iinc (v := nI (u + 1)) (lv' := [(4, .int (nI (u + 1))), (0, .ref (A 0)), (1, .int (nI j)), (2, .int (nI x1)), (3, .int (nI w))]) E.1.1 E.1.2.1 dX6_shift_114 hl (k := 0) rfl (nI_1 _) (by decide) rfl (fun ls hl => ?_)
                  refine lv_goto (tgt := 70) E.1.1 E.1.2.1 dX6_shift_117 (by decide) ?_
                  exact ih70  (u + 1) f H locs ls (by omega) (by omega) h_o h_ts h_ps h_bs h_rw h_gs h_fa h_ba h_it hF hw (lv_sub hl [0, 1, 2, 3, 4] rfl)
        exact lp70 ((T x1 + w) + (P x1) - 0 + 1) 0 f H locs ls (Nat.lt_succ_self _) (by omega) h_o h_ts h_ps h_bs h_rw h_gs h_fa h_ba h_it hF hw (lv_sub hl [0, 1, 2, 3, 4] rfl)
    · refine lv_iconst (v := -1) E.1.1 E.1.2.1 dX6_shift_14 rfl ?_
      exact k_miret E hQ hlk hr hw (Nat.le_of_ble_eq_true rfl) (Nat.le_of_ble_eq_true rfl) (⟨rfl, fun b hb h => hF b hb (h 0 (by decide)) (h 1 (by decide)) (h 2 (by decide)) (h 3 (by decide)) (h 4 (by decide)) (h 5 (by decide)), SS, ⟨hB, _, _, _, _, _, _, _, _, _, _, ⟨h_o, h_ts, h_ps, h_bs, h_rw, h_gs, h_fa, h_ba, h_it⟩, hTP, hMS, hMK⟩, sp_un_1 (Or.inr c11)⟩) dX6_shift_15

set_option maxHeartbeats 4000000 in
set_option maxRecDepth 100000 in
theorem m_shiftD (l : Launch) (D : va_G) (cy : Nat → ClassId) (L : List Nat) (f0 : Nat → va_E) (sz : Nat) (A : Nat → Nat) (base : Nat) (SS : Nat → Nat → Bool) (kp : Nat → Bool) (kb : Nat → Nat) (KS : Nat → Nat → Nat → Bool) (hA : MAd A) (hN : MoW cy L f0 A base SS kp kb KS) (to src : Int32) (w : Nat) (hw0 : 0 < w) (hw1 : w ≤ 100) (hin : i32in (-nI w) (-100) (nI 100) = true) : Met l yX6_shift (.code yX6_shift cX6_shift 5 (Option.some FieldType.int) :: wsL_law) { frames := 6, cells := 0, slots := 0, locals := 136 } (va_Pc [.ref (A 0), .int to, .int src, .int (-nI w)] (PW D cy L f0 sz)) (va_Qi (fun (r : Int32) (u : List Nat × (Nat → va_E)) => L = u.1 ∧ (∀ b ∈ L, (∀ i, i < 9 → b ≠ A i) → u.2 b = f0 b) ∧ ∃ SS2, MoW cy L u.2 A base SS2 kp kb KS ∧ sp_un base SS SS2 to src true (xShift (-nI w)) r) (PB D (AW L sz)) (AW L sz)) 0 0 (AW L sz) := by
  refine m_start (by decide) (Nat.le_of_ble_eq_true rfl) ?_
  intro p e R Q s m args below meth c ls hsz hR hQ E hr hlk hnm hw hl
  have hl : lv_has ls 5 [(0, .ref (A 0)), (1, .int to), (2, .int src), (3, .int (-nI w))] := hl
  obtain ⟨H, hH⟩ : ∃ X, X = s.heap := ⟨_, rfl⟩
  obtain ⟨locs, hlocs⟩ : ∃ X : List Loc, X = [] := ⟨_, rfl⟩
  have hw0 := hw
  obtain ⟨hB, fr, pb, ns, T, P, B, rr, G, Fa, kb1, ⟨h_o, h_ts, h_ps, h_bs, h_rw, h_gs, h_fa, h_ba, h_it⟩, hTP, hMS, hMK⟩ := hN
  have hb2 := hB.two
  obtain ⟨f, hf0⟩ : ∃ X, X = f0 := ⟨_, rfl⟩
  rw [← hf0] at h_o h_ts h_ps h_bs h_rw h_gs h_fa h_ba h_it
  have hw : WW D (AW L sz) s.heap L f H locs := by rw [hH, hlocs, hf0]; exact hw
  have hF : ∀ b ∈ L, b ≠ (A 0) → b ≠ (A 1) → b ≠ (A 2) → b ≠ (A 3) → b ≠ (A 4) → b ≠ (A 5) → f b = f0 b := fun b hb h0 h1 h2 h3 h4 h5 => by rw [hf0]
  suffices hgo : W p l e R s m args below meth c H locs 0 0 Q (F0 m 0 ls []) by rw [hH, hlocs] at hgo; exact hgo
  clear hH hlocs hw0 hf0
  have hLs : ∀ b ∈ L, b ∈ L := fun _ h => h
  have n_o_ts : A 0 ≠ A 1 := hA.ne (by decide) (by decide) (by decide)
  have n_o_ps : A 0 ≠ A 2 := hA.ne (by decide) (by decide) (by decide)
  have n_o_bs : A 0 ≠ A 3 := hA.ne (by decide) (by decide) (by decide)
  have n_o_rw : A 0 ≠ A 4 := hA.ne (by decide) (by decide) (by decide)
  have n_o_gs : A 0 ≠ A 5 := hA.ne (by decide) (by decide) (by decide)
  have n_o_fa : A 0 ≠ A 6 := hA.ne (by decide) (by decide) (by decide)
  have n_o_ba : A 0 ≠ A 7 := hA.ne (by decide) (by decide) (by decide)
  have n_o_it : A 0 ≠ A 8 := hA.ne (by decide) (by decide) (by decide)
  have n_ts_ps : A 1 ≠ A 2 := hA.ne (by decide) (by decide) (by decide)
  have n_ts_bs : A 1 ≠ A 3 := hA.ne (by decide) (by decide) (by decide)
  have n_ts_rw : A 1 ≠ A 4 := hA.ne (by decide) (by decide) (by decide)
  have n_ts_gs : A 1 ≠ A 5 := hA.ne (by decide) (by decide) (by decide)
  have n_ts_fa : A 1 ≠ A 6 := hA.ne (by decide) (by decide) (by decide)
  have n_ts_ba : A 1 ≠ A 7 := hA.ne (by decide) (by decide) (by decide)
  have n_ts_it : A 1 ≠ A 8 := hA.ne (by decide) (by decide) (by decide)
  have n_ps_bs : A 2 ≠ A 3 := hA.ne (by decide) (by decide) (by decide)
  have n_ps_rw : A 2 ≠ A 4 := hA.ne (by decide) (by decide) (by decide)
  have n_ps_gs : A 2 ≠ A 5 := hA.ne (by decide) (by decide) (by decide)
  have n_ps_fa : A 2 ≠ A 6 := hA.ne (by decide) (by decide) (by decide)
  have n_ps_ba : A 2 ≠ A 7 := hA.ne (by decide) (by decide) (by decide)
  have n_ps_it : A 2 ≠ A 8 := hA.ne (by decide) (by decide) (by decide)
  have n_bs_rw : A 3 ≠ A 4 := hA.ne (by decide) (by decide) (by decide)
  have n_bs_gs : A 3 ≠ A 5 := hA.ne (by decide) (by decide) (by decide)
  have n_bs_fa : A 3 ≠ A 6 := hA.ne (by decide) (by decide) (by decide)
  have n_bs_ba : A 3 ≠ A 7 := hA.ne (by decide) (by decide) (by decide)
  have n_bs_it : A 3 ≠ A 8 := hA.ne (by decide) (by decide) (by decide)
  have n_rw_gs : A 4 ≠ A 5 := hA.ne (by decide) (by decide) (by decide)
  have n_rw_fa : A 4 ≠ A 6 := hA.ne (by decide) (by decide) (by decide)
  have n_rw_ba : A 4 ≠ A 7 := hA.ne (by decide) (by decide) (by decide)
  have n_rw_it : A 4 ≠ A 8 := hA.ne (by decide) (by decide) (by decide)
  have n_gs_fa : A 5 ≠ A 6 := hA.ne (by decide) (by decide) (by decide)
  have n_gs_ba : A 5 ≠ A 7 := hA.ne (by decide) (by decide) (by decide)
  have n_gs_it : A 5 ≠ A 8 := hA.ne (by decide) (by decide) (by decide)
  refine lv_iload_n E.1.1 E.1.2.1 dX6_shift_0 rfl (lv_at hl 1 rfl) ?_
  refine k_ri (va_runS (As := [.int to]) (rest := []) E.1 (m_isSlot l D cy L f H.size to) ⟨callB_of 1 E.1.2.2.2.2 (gd_own w3_40) rfl rfl rfl (E.1.2.2.2.2 _ w1_10) (E.1.2.2.2.2 _ w3_38) hd_X6_isSlot (by rw [hR]; exact ⟨Nat.le_of_ble_eq_true rfl, Nat.le_of_ble_eq_true rfl⟩), E.1.2.2.2.2 _ w3_39⟩ (pw_pre E.2 hw) rfl rfl hl.1 rfl (lv_room (Nat.le_of_ble_eq_true rfl)) dX6_shift_1 ⟨Nat.zero_le _, Nat.zero_le _⟩) ?_
  refine k_if0 (tgt := 14) E dX6_shift_4 (by decide) (fun c4 => ?_) (fun c4 => ?_)
  · refine lv_iconst (v := -1) E.1.1 E.1.2.1 dX6_shift_14 rfl ?_
    exact k_miret E hQ hlk hr hw (Nat.le_of_ble_eq_true rfl) (Nat.le_of_ble_eq_true rfl) (⟨rfl, fun b hb h => hF b hb (h 0 (by decide)) (h 1 (by decide)) (h 2 (by decide)) (h 3 (by decide)) (h 4 (by decide)) (h 5 (by decide)), SS, ⟨hB, _, _, _, _, _, _, _, _, _, _, ⟨h_o, h_ts, h_ps, h_bs, h_rw, h_gs, h_fa, h_ba, h_it⟩, hTP, hMS, hMK⟩, sp_un_1 (Or.inl c4)⟩) dX6_shift_15
  · obtain ⟨j, hj, rfl⟩ := in_ex (by decide) c4
    refine lv_iload_n E.1.1 E.1.2.1 dX6_shift_7 rfl (lv_at hl 2 rfl) ?_
    refine k_ri (va_runS (As := [.int src]) (rest := []) E.1 (m_isSlot l D cy L f H.size src) ⟨callB_of 1 E.1.2.2.2.2 (gd_own w3_40) rfl rfl rfl (E.1.2.2.2.2 _ w1_10) (E.1.2.2.2.2 _ w3_38) hd_X6_isSlot (by rw [hR]; exact ⟨Nat.le_of_ble_eq_true rfl, Nat.le_of_ble_eq_true rfl⟩), E.1.2.2.2.2 _ w3_39⟩ (pw_pre E.2 hw) rfl rfl hl.1 rfl (lv_room (Nat.le_of_ble_eq_true rfl)) dX6_shift_8 ⟨Nat.zero_le _, Nat.zero_le _⟩) ?_
    refine k_if1 (tgt := 16) E dX6_shift_11 (by decide) (fun c11 => ?_) (fun c11 => ?_)
    · obtain ⟨x1, hx1, rfl⟩ := in_ex (by decide) c11
      refine lv_iload_n E.1.1 E.1.2.1 dX6_shift_16 rfl (lv_at hl 3 rfl) ?_
      refine lv_bipush (v := -100) E.1.1 E.1.2.1 dX6_shift_17 rfl ?_
      refine lv_bipush (v := nI 100) E.1.1 E.1.2.1 dX6_shift_19 rfl ?_
      refine k_ri (va_runS (As := [.int (-nI w), .int (-100), .int (nI 100)]) (rest := []) E.1 (m_in l D cy L f H.size (-nI w) (-100) (nI 100)) ⟨callB_of 3 E.1.2.2.2.2 (gd_own w3_43) rfl rfl rfl (E.1.2.2.2.2 _ w1_10) (E.1.2.2.2.2 _ w3_41) hd_X6_in (by rw [hR]; exact ⟨Nat.le_of_ble_eq_true rfl, Nat.le_of_ble_eq_true rfl⟩), E.1.2.2.2.2 _ w3_42⟩ (pw_pre E.2 hw) rfl rfl hl.1 rfl (lv_room (Nat.le_of_ble_eq_true rfl)) dX6_shift_21 ⟨Nat.zero_le _, Nat.zero_le _⟩) ?_
      refine k_if1 (tgt := 30) E dX6_shift_24 (by decide) (fun c24 => ?_) (fun c24 => absurd hin (by rw [show i32in (-nI w) (-100) (nI 100) = false from c24]; decide))
      have hS1 := (hMS x1 (by omega)).1
      have hS1a := hS1.1.1
      have hS1b := hS1.2.1
      have hS1c := hS1.2.2.1
      refine lv_aload_n E.1.1 E.1.2.1 dX6_shift_30 rfl (lv_at hl 0 rfl) ?_
      refine lv_aload_n E.1.1 E.1.2.1 dX6_shift_31 rfl (lv_at hl 0 rfl) ?_
      refine k_get (v := .ref (A 1)) E inlX6 rfl 1 (by decide) w2_233 rfl hw h_o rfl dX6_shift_32 ?_
      refine lv_iload_n E.1.1 E.1.2.1 dX6_shift_35 rfl (lv_at hl 2 rfl) ?_
      refine k_iald E hw (v := nI (T x1)) h_ts (by omega) (by omega) (rfl) dX6_shift_36 ?_
      refine lv_iload_n E.1.1 E.1.2.1 dX6_shift_37 rfl (lv_at hl 3 rfl) ?_
      refine lv_iadd E.1.1 E.1.2.1 dX6_shift_38 ?_
      refine lv_if_le (tgt := 53) E.1.1 E.1.2.1 dX6_shift_39 (by decide) (fun c39 => ?_) (fun c39 => ?_)
      · refine lv_iconst (v := nI 0) E.1.1 E.1.2.1 dX6_shift_53 rfl ?_
        refine k_top E (nI (T x1 - w)) (shd_1 hS1c hw1 c39) ?_
        refine k_put (ty0 := tyX6) E inlX6 rfl tyX6_ok nmX6 5 (by decide) w2_237 rfl rfl hw [.int (nI base), .ref (A 1), .ref (A 2), .ref (A 3), .ref (A 4), .int (nI (T x1 - w)), .int (nI pb), .ref (A 5), .int (nI ns), .ref (A 6), .ref (A 7), .ref (A 8)] h_o (rfl) (rfl) (Nat.le_of_ble_eq_true rfl) rfl dX6_shift_54 (fun f H locs h_o hfr hw => ?_)
        have h_ts := h_ts.kp hfr (Ne.symm n_o_ts)
        have h_ps := h_ps.kp hfr (Ne.symm n_o_ps)
        have h_bs := h_bs.kp hfr (Ne.symm n_o_bs)
        have h_rw := h_rw.kp hfr (Ne.symm n_o_rw)
        have h_gs := h_gs.kp hfr (Ne.symm n_o_gs)
        have h_fa := h_fa.kp hfr (Ne.symm n_o_fa)
        have h_ba := h_ba.kp hfr (Ne.symm n_o_ba)
        have h_it := h_it.kp hfr (Ne.symm n_o_it)
        have hF : ∀ b ∈ L, b ≠ (A 0) → b ≠ (A 1) → b ≠ (A 2) → b ≠ (A 3) → b ≠ (A 4) → b ≠ (A 5) → f b = f0 b := fun b hb h0 h1 h2 h3 h4 h5 => (hfr b h0).trans (hF b hb h0 h1 h2 h3 h4 h5)
        refine lv_aload_n E.1.1 E.1.2.1 dX6_shift_57 rfl (lv_at hl 0 rfl) ?_
        refine lv_aload_n E.1.1 E.1.2.1 dX6_shift_58 rfl (lv_at hl 0 rfl) ?_
        refine k_get (v := .ref (A 2)) E inlX6 rfl 2 (by decide) w2_234 rfl hw h_o rfl dX6_shift_59 ?_
        refine lv_iload_n E.1.1 E.1.2.1 dX6_shift_62 rfl (lv_at hl 2 rfl) ?_
        refine k_iald E hw (v := nI (P x1)) h_ps (by omega) (by omega) (rfl) dX6_shift_63 ?_
        refine k_put (ty0 := tyX6) E inlX6 rfl tyX6_ok nmX6 6 (by decide) w2_238 rfl rfl hw [.int (nI base), .ref (A 1), .ref (A 2), .ref (A 3), .ref (A 4), .int (nI (T x1 - w)), .int (nI (P x1)), .ref (A 5), .int (nI ns), .ref (A 6), .ref (A 7), .ref (A 8)] h_o (rfl) (rfl) (Nat.le_of_ble_eq_true rfl) rfl dX6_shift_64 (fun f H locs h_o hfr hw => ?_)
        have h_ts := h_ts.kp hfr (Ne.symm n_o_ts)
        have h_ps := h_ps.kp hfr (Ne.symm n_o_ps)
        have h_bs := h_bs.kp hfr (Ne.symm n_o_bs)
        have h_rw := h_rw.kp hfr (Ne.symm n_o_rw)
        have h_gs := h_gs.kp hfr (Ne.symm n_o_gs)
        have h_fa := h_fa.kp hfr (Ne.symm n_o_fa)
        have h_ba := h_ba.kp hfr (Ne.symm n_o_ba)
        have h_it := h_it.kp hfr (Ne.symm n_o_it)
        have hF : ∀ b ∈ L, b ≠ (A 0) → b ≠ (A 1) → b ≠ (A 2) → b ≠ (A 3) → b ≠ (A 4) → b ≠ (A 5) → f b = f0 b := fun b hb h0 h1 h2 h3 h4 h5 => (hfr b h0).trans (hF b hb h0 h1 h2 h3 h4 h5)
        have hX : den (T x1 - w) (P x1) (rbx (shD (SS x1) w) rr ((T x1 - w) + (P x1))) = shD (SS x1) w := den_rbx rr (by omega) (shD_ev hS1.1.2.1)
        rw [← rbx_0 (shD (SS x1) w) rr] at h_rw
        refine lv_iconst (v := nI 0) E.1.1 E.1.2.1 dX6_shift_67 rfl ?_
        refine lv_istore (lv' := [(4, .int (nI 0)), (0, .ref (A 0)), (1, .int (nI j)), (2, .int (nI x1)), (3, .int (-nI w))]) E.1.1 E.1.2.1 dX6_shift_68 hl (by decide) rfl (fun ls hl => ?_)
        have lp70 : ∀ (k : Nat) (u : Nat) (f : Nat → va_E) (H : Heap) (locs : List Loc) (ls : Array Slot), ((T x1 - w) + (P x1) - u < k) → (u ≤ (T x1 - w) + (P x1)) → (cel L f (A 0) (.inr (6, [.int (nI base), .ref (A 1), .ref (A 2), .ref (A 3), .ref (A 4), .int (nI (T x1 - w)), .int (nI (P x1)), .ref (A 5), .int (nI ns), .ref (A 6), .ref (A 7), .ref (A 8)]))) → (cel L f (A 1) (.inl (cy 0, 84, .inl (fun k => nI (T k))))) → (cel L f (A 2) (.inl (cy 0, 84, .inl (fun k => nI (P k))))) → (cel L f (A 3) (.inl (cy 1, 252, .inr (.inl (rw3 B))))) → (cel L f (A 4) (.inl (cy 2, 4096, .inl (fun k => b2i ((rbx (shD (SS x1) w) rr u) k))))) → (cel L f (A 5) (.inl (cy 0, 325, .inl G))) → (cel L f (A 6) (.inl (cy 0, 65, .inl Fa))) → (cel L f (A 7) (.inl (cy 0, 2, .inl (fun k => nI (kb1 k))))) → (cel L f (A 8) (.inl (cy 2, 2, .inl (fun k => b2i (kp k))))) → (∀ b ∈ L, b ≠ (A 0) → b ≠ (A 1) → b ≠ (A 2) → b ≠ (A 3) → b ≠ (A 4) → b ≠ (A 5) → f b = f0 b) → (WW D (AW L sz) s.heap L f H locs) → (lv_has ls 5 [(4, .int (nI u)), (0, .ref (A 0)), (1, .int (nI j)), (2, .int (nI x1)), (3, .int (-nI w))]) → W p l e R s m args below meth c H locs 0 0 Q (F0 m 70 ls []) := by
          intro k
          induction k with
          | zero => intro _ _ _ _ _ hk; exact absurd hk (Nat.not_lt_zero _)
          | succ k ih70 =>
            intro u f H locs ls hk hu h_o h_ts h_ps h_bs h_rw h_gs h_fa h_ba h_it hF hw hl
            refine lv_iload E.1.1 E.1.2.1 dX6_shift_70 (lv_at hl 0 rfl) ?_
            refine lv_aload_n E.1.1 E.1.2.1 dX6_shift_72 rfl (lv_at hl 1 rfl) ?_
            refine k_get (v := .int (nI (T x1 - w))) E inlX6 rfl 5 (by decide) w2_237 rfl hw h_o rfl dX6_shift_73 ?_
            refine lv_aload_n E.1.1 E.1.2.1 dX6_shift_76 rfl (lv_at hl 1 rfl) ?_
            refine k_get (v := .int (nI (P x1))) E inlX6 rfl 6 (by decide) w2_238 rfl hw h_o rfl dX6_shift_77 ?_
            refine k_add E dX6_shift_80 ?_
            refine k_ge (tgt := 120) E dX6_shift_81 (by decide) (by omega) (by omega) (fun c81 => ?_) (fun c81 => ?_)
            · rw [show u = (T x1 - w) + (P x1) by omega] at h_rw
              refine lv_aload_n E.1.1 E.1.2.1 dX6_shift_120 rfl (lv_at hl 1 rfl) ?_
              refine lv_iload_n E.1.1 E.1.2.1 dX6_shift_121 rfl (lv_at hl 2 rfl) ?_
              refine k_mi hw (va_runV (As := [.int (nI j)]) (rest := []) E.1 (m_keep l D cy L f H.size A base (T x1 - w) (P x1) ns T P B (rbx (shD (SS x1) w) rr ((T x1 - w) + (P x1))) G hA hTP j (by omega) (by omega) (by omega) (by omega) (by omega) h_o h_ts h_ps h_bs h_rw h_gs) ⟨callB_of 1 E.1.2.2.2.2 (gd_own w3_47) rfl rfl rfl (E.1.2.2.2.2 _ w1_10) (E.1.2.2.2.2 _ w3_44) hd_X6_keep (by rw [hR]; exact ⟨Nat.le_of_ble_eq_true rfl, Nat.le_of_ble_eq_true rfl⟩), E.1.2.2.2.2 _ w3_46, E.1.2.2.2.2 _ ws_25⟩ (pw_preV (q := (RX6, TX6, 12)) E.2 hw h_o rfl) rfl rfl hl.1 rfl (lv_room (Nat.le_of_ble_eq_true rfl)) dX6_shift_122 (by rw [hR]; exact ⟨Nat.le_of_ble_eq_true rfl, Nat.le_of_ble_eq_true rfl⟩)) (fun r L1 f H locs hp hw => ?_)
              obtain ⟨hL1, hfr, fr2, pb2, ns2, T2, P2, B2, rr2, G2, h_o, h_ts, h_ps, h_bs, h_rw, h_gs, hTP2, hag, hcase⟩ := hp
              have hL1 : L = L1 := hL1
              subst hL1
              have h_o : cel L f (A 0) (.inr (6, [.int (nI base), .ref (A 1), .ref (A 2), .ref (A 3), .ref (A 4), .int (nI fr2), .int (nI pb2), .ref (A 5), .int (nI ns2), .ref (A 6), .ref (A 7), .ref (A 8)])) := h_o
              have h_ts : cel L f (A 1) (.inl (cy 0, 84, .inl (fun k => nI (T2 k)))) := h_ts
              have h_ps : cel L f (A 2) (.inl (cy 0, 84, .inl (fun k => nI (P2 k)))) := h_ps
              have h_bs : cel L f (A 3) (.inl (cy 1, 252, .inr (.inl (rw3 B2)))) := h_bs
              have h_rw : cel L f (A 4) (.inl (cy 2, 4096, .inl (fun k => b2i (rr2 k)))) := h_rw
              have h_gs : cel L f (A 5) (.inl (cy 0, 325, .inl G2)) := h_gs
              have h_fa := h_fa.keep (fun _ h => h) (hfr _ h_fa.1 (Ne.symm n_o_fa) (Ne.symm n_ts_fa) (Ne.symm n_ps_fa) (Ne.symm n_bs_fa) (Ne.symm n_rw_fa) (Ne.symm n_gs_fa))
              have h_ba := h_ba.keep (fun _ h => h) (hfr _ h_ba.1 (Ne.symm n_o_ba) (Ne.symm n_ts_ba) (Ne.symm n_ps_ba) (Ne.symm n_bs_ba) (Ne.symm n_rw_ba) (Ne.symm n_gs_ba))
              have h_it := h_it.keep (fun _ h => h) (hfr _ h_it.1 (Ne.symm n_o_it) (Ne.symm n_ts_it) (Ne.symm n_ps_it) (Ne.symm n_bs_it) (Ne.symm n_rw_it) (Ne.symm n_gs_it))
              have hF : ∀ b ∈ L, b ≠ (A 0) → b ≠ (A 1) → b ≠ (A 2) → b ≠ (A 3) → b ≠ (A 4) → b ≠ (A 5) → f b = f0 b := fun b hb h0 h1 h2 h3 h4 h5 => (hfr b (hLs b hb) h0 h1 h2 h3 h4 h5).trans (hF b hb h0 h1 h2 h3 h4 h5)
              rw [hX] at hcase
              exact k_miret E hQ hlk hr hw (Nat.le_of_ble_eq_true rfl) (Nat.le_of_ble_eq_true rfl) (⟨rfl, fun b hb h => hF b hb (h 0 (by decide)) (h 1 (by decide)) (h 2 (by decide)) (h 3 (by decide)) (h 4 (by decide)) (h 5 (by decide)), by
      obtain ⟨SS2, hW2, hH⟩ := mo_hold hB hMS hMK ⟨h_o, h_ts, h_ps, h_bs, h_rw, h_gs, h_fa, h_ba, h_it⟩ hTP2 (by omega) hag hcase
      exact ⟨SS2, hW2, sp_un_ok hj hx1 rfl (by rw [xShift_n hw0 hw1]; exact hH)⟩⟩) dX6_shift_125
            · refine lv_aload_n E.1.1 E.1.2.1 dX6_shift_84 rfl (lv_at hl 1 rfl) ?_
              refine k_get (v := .ref (A 4)) E inlX6 rfl 4 (by decide) w2_236 rfl hw h_o rfl dX6_shift_85 ?_
              refine lv_iload E.1.1 E.1.2.1 dX6_shift_88 (lv_at hl 0 rfl) ?_
              refine lv_iload E.1.1 E.1.2.1 dX6_shift_90 (lv_at hl 0 rfl) ?_
              refine lv_iload_n E.1.1 E.1.2.1 dX6_shift_92 rfl (lv_at hl 4 rfl) ?_
              refine lv_icmp_lt (tgt := 112) E.1.1 E.1.2.1 dX6_shift_93 (by decide) (fun c93 => absurd c93 (lt_neg (by omega) hw1)) (fun c93 => ?_)
              refine lv_aload_n E.1.1 E.1.2.1 dX6_shift_96 rfl (lv_at hl 1 rfl) ?_
              refine lv_iload_n E.1.1 E.1.2.1 dX6_shift_97 rfl (lv_at hl 3 rfl) ?_
              refine lv_iload E.1.1 E.1.2.1 dX6_shift_98 (lv_at hl 0 rfl) ?_
              refine lv_iload_n E.1.1 E.1.2.1 dX6_shift_100 rfl (lv_at hl 4 rfl) ?_
              refine lv_isub E.1.1 E.1.2.1 dX6_shift_101 ?_
              refine k_top E (nI (u + w)) (sub_neg_nI u w) ?_
              refine k_ri (va_runV (As := [.int (nI x1), .int (nI (u + w))]) (rest := [.int (nI u), .ref (A 4)]) E.1 (m_isInS l D cy L f H.size A base (T x1 - w) (P x1) ns T P B (rbx (shD (SS x1) w) rr u) G hA hTP x1 (u + w) (SS x1) hS1 (by omega) (by omega) h_o h_ts h_ps h_bs) ⟨callB_of 2 E.1.2.2.2.2 (gd_own w3_79) rfl rfl rfl (E.1.2.2.2.2 _ w1_10) (E.1.2.2.2.2 _ w3_76) hd_X6_isIn (by rw [hR]; exact ⟨Nat.le_of_ble_eq_true rfl, Nat.le_of_ble_eq_true rfl⟩), E.1.2.2.2.2 _ w3_78, E.1.2.2.2.2 _ ws_33⟩ (pw_preV (q := (RX6, TX6, 12)) E.2 hw h_o rfl) rfl rfl hl.1 rfl (lv_room (Nat.le_of_ble_eq_true rfl)) dX6_shift_102 ⟨Nat.zero_le _, Nat.zero_le _⟩) ?_
              refine k_if0 (tgt := 112) E dX6_shift_105 (by decide) (fun c105 => ?_) (fun c105 => ?_)
              · refine lv_iconst (v := nI 0) E.1.1 E.1.2.1 dX6_shift_112 rfl ?_
                refine W.eq (g2 := F0 m 113 ls (.int (b2i false) :: .int (nI u) :: .ref (A 4) :: [])) rfl ?_
                refine k_zast E hw (fun k => b2i (rbx (shD (SS x1) w) rr (u + 1) k)) h_rw (by omega) (by omega) (fun i _ => rbx_v (by unfold shD; rw [c105]) i) dX6_shift_113 (fun f H locs h_rw hfr hw => ?_)
                have h_o := h_o.kp hfr n_o_rw
                have h_ts := h_ts.kp hfr n_ts_rw
                have h_ps := h_ps.kp hfr n_ps_rw
                have h_bs := h_bs.kp hfr n_bs_rw
                have h_gs := h_gs.kp hfr (Ne.symm n_rw_gs)
                have h_fa := h_fa.kp hfr (Ne.symm n_rw_fa)
                have h_ba := h_ba.kp hfr (Ne.symm n_rw_ba)
                have h_it := h_it.kp hfr (Ne.symm n_rw_it)
                have hF : ∀ b ∈ L, b ≠ (A 0) → b ≠ (A 1) → b ≠ (A 2) → b ≠ (A 3) → b ≠ (A 4) → b ≠ (A 5) → f b = f0 b := fun b hb h0 h1 h2 h3 h4 h5 => (hfr b h4).trans (hF b hb h0 h1 h2 h3 h4 h5)
                refine lv_iinc (v := nI (u + 1)) (lv' := [(4, .int (nI (u + 1))), (0, .ref (A 0)), (1, .int (nI j)), (2, .int (nI x1)), (3, .int (-nI w))]) E.1.1 E.1.2.1 dX6_shift_114 hl (k := 0) rfl (nI_1 _) (by decide) rfl (fun ls hl => ?_)
                refine lv_goto (tgt := 70) E.1.1 E.1.2.1 dX6_shift_117 (by decide) ?_
                exact ih70  (u + 1) f H locs ls (by omega) (by omega) h_o h_ts h_ps h_bs h_rw h_gs h_fa h_ba h_it hF hw (lv_sub hl [0, 1, 2, 3, 4] rfl)
              · refine lv_iconst (v := nI 1) E.1.1 E.1.2.1 dX6_shift_108 rfl ?_
                refine lv_goto (tgt := 113) E.1.1 E.1.2.1 dX6_shift_109 (by decide) ?_
                refine W.eq (g2 := F0 m 113 ls (.int (b2i true) :: .int (nI u) :: .ref (A 4) :: [])) rfl ?_
                refine k_zast E hw (fun k => b2i (rbx (shD (SS x1) w) rr (u + 1) k)) h_rw (by omega) (by omega) (fun i _ => rbx_v (by unfold shD; rw [c105]) i) dX6_shift_113 (fun f H locs h_rw hfr hw => ?_)
                have h_o := h_o.kp hfr n_o_rw
                have h_ts := h_ts.kp hfr n_ts_rw
                have h_ps := h_ps.kp hfr n_ps_rw
                have h_bs := h_bs.kp hfr n_bs_rw
                have h_gs := h_gs.kp hfr (Ne.symm n_rw_gs)
                have h_fa := h_fa.kp hfr (Ne.symm n_rw_fa)
                have h_ba := h_ba.kp hfr (Ne.symm n_rw_ba)
                have h_it := h_it.kp hfr (Ne.symm n_rw_it)
                have hF : ∀ b ∈ L, b ≠ (A 0) → b ≠ (A 1) → b ≠ (A 2) → b ≠ (A 3) → b ≠ (A 4) → b ≠ (A 5) → f b = f0 b := fun b hb h0 h1 h2 h3 h4 h5 => (hfr b h4).trans (hF b hb h0 h1 h2 h3 h4 h5)
                refine lv_iinc (v := nI (u + 1)) (lv' := [(4, .int (nI (u + 1))), (0, .ref (A 0)), (1, .int (nI j)), (2, .int (nI x1)), (3, .int (-nI w))]) E.1.1 E.1.2.1 dX6_shift_114 hl (k := 0) rfl (nI_1 _) (by decide) rfl (fun ls hl => ?_)
                refine lv_goto (tgt := 70) E.1.1 E.1.2.1 dX6_shift_117 (by decide) ?_
                exact ih70  (u + 1) f H locs ls (by omega) (by omega) h_o h_ts h_ps h_bs h_rw h_gs h_fa h_ba h_it hF hw (lv_sub hl [0, 1, 2, 3, 4] rfl)
        exact lp70 ((T x1 - w) + (P x1) - 0 + 1) 0 f H locs ls (Nat.lt_succ_self _) (by omega) h_o h_ts h_ps h_bs h_rw h_gs h_fa h_ba h_it hF hw (lv_sub hl [0, 1, 2, 3, 4] rfl)
      · refine lv_aload_n E.1.1 E.1.2.1 dX6_shift_42 rfl (lv_at hl 0 rfl) ?_
        refine k_get (v := .ref (A 1)) E inlX6 rfl 1 (by decide) w2_233 rfl hw h_o rfl dX6_shift_43 ?_
        refine lv_iload_n E.1.1 E.1.2.1 dX6_shift_46 rfl (lv_at hl 2 rfl) ?_
        refine k_iald E hw (v := nI (T x1)) h_ts (by omega) (by omega) (rfl) dX6_shift_47 ?_
        refine lv_iload_n E.1.1 E.1.2.1 dX6_shift_48 rfl (lv_at hl 3 rfl) ?_
        refine lv_iadd E.1.1 E.1.2.1 dX6_shift_49 ?_
        refine lv_goto (tgt := 54) E.1.1 E.1.2.1 dX6_shift_50 (by decide) ?_
        refine k_top E (nI (T x1 - w)) (shd_2 hS1c hw1 c39) ?_
        refine k_put (ty0 := tyX6) E inlX6 rfl tyX6_ok nmX6 5 (by decide) w2_237 rfl rfl hw [.int (nI base), .ref (A 1), .ref (A 2), .ref (A 3), .ref (A 4), .int (nI (T x1 - w)), .int (nI pb), .ref (A 5), .int (nI ns), .ref (A 6), .ref (A 7), .ref (A 8)] h_o (rfl) (rfl) (Nat.le_of_ble_eq_true rfl) rfl dX6_shift_54 (fun f H locs h_o hfr hw => ?_)
        have h_ts := h_ts.kp hfr (Ne.symm n_o_ts)
        have h_ps := h_ps.kp hfr (Ne.symm n_o_ps)
        have h_bs := h_bs.kp hfr (Ne.symm n_o_bs)
        have h_rw := h_rw.kp hfr (Ne.symm n_o_rw)
        have h_gs := h_gs.kp hfr (Ne.symm n_o_gs)
        have h_fa := h_fa.kp hfr (Ne.symm n_o_fa)
        have h_ba := h_ba.kp hfr (Ne.symm n_o_ba)
        have h_it := h_it.kp hfr (Ne.symm n_o_it)
        have hF : ∀ b ∈ L, b ≠ (A 0) → b ≠ (A 1) → b ≠ (A 2) → b ≠ (A 3) → b ≠ (A 4) → b ≠ (A 5) → f b = f0 b := fun b hb h0 h1 h2 h3 h4 h5 => (hfr b h0).trans (hF b hb h0 h1 h2 h3 h4 h5)
        refine lv_aload_n E.1.1 E.1.2.1 dX6_shift_57 rfl (lv_at hl 0 rfl) ?_
        refine lv_aload_n E.1.1 E.1.2.1 dX6_shift_58 rfl (lv_at hl 0 rfl) ?_
        refine k_get (v := .ref (A 2)) E inlX6 rfl 2 (by decide) w2_234 rfl hw h_o rfl dX6_shift_59 ?_
        refine lv_iload_n E.1.1 E.1.2.1 dX6_shift_62 rfl (lv_at hl 2 rfl) ?_
        refine k_iald E hw (v := nI (P x1)) h_ps (by omega) (by omega) (rfl) dX6_shift_63 ?_
        refine k_put (ty0 := tyX6) E inlX6 rfl tyX6_ok nmX6 6 (by decide) w2_238 rfl rfl hw [.int (nI base), .ref (A 1), .ref (A 2), .ref (A 3), .ref (A 4), .int (nI (T x1 - w)), .int (nI (P x1)), .ref (A 5), .int (nI ns), .ref (A 6), .ref (A 7), .ref (A 8)] h_o (rfl) (rfl) (Nat.le_of_ble_eq_true rfl) rfl dX6_shift_64 (fun f H locs h_o hfr hw => ?_)
        have h_ts := h_ts.kp hfr (Ne.symm n_o_ts)
        have h_ps := h_ps.kp hfr (Ne.symm n_o_ps)
        have h_bs := h_bs.kp hfr (Ne.symm n_o_bs)
        have h_rw := h_rw.kp hfr (Ne.symm n_o_rw)
        have h_gs := h_gs.kp hfr (Ne.symm n_o_gs)
        have h_fa := h_fa.kp hfr (Ne.symm n_o_fa)
        have h_ba := h_ba.kp hfr (Ne.symm n_o_ba)
        have h_it := h_it.kp hfr (Ne.symm n_o_it)
        have hF : ∀ b ∈ L, b ≠ (A 0) → b ≠ (A 1) → b ≠ (A 2) → b ≠ (A 3) → b ≠ (A 4) → b ≠ (A 5) → f b = f0 b := fun b hb h0 h1 h2 h3 h4 h5 => (hfr b h0).trans (hF b hb h0 h1 h2 h3 h4 h5)
        have hX : den (T x1 - w) (P x1) (rbx (shD (SS x1) w) rr ((T x1 - w) + (P x1))) = shD (SS x1) w := den_rbx rr (by omega) (shD_ev hS1.1.2.1)
        rw [← rbx_0 (shD (SS x1) w) rr] at h_rw
        refine lv_iconst (v := nI 0) E.1.1 E.1.2.1 dX6_shift_67 rfl ?_
        refine lv_istore (lv' := [(4, .int (nI 0)), (0, .ref (A 0)), (1, .int (nI j)), (2, .int (nI x1)), (3, .int (-nI w))]) E.1.1 E.1.2.1 dX6_shift_68 hl (by decide) rfl (fun ls hl => ?_)
        have lp70 : ∀ (k : Nat) (u : Nat) (f : Nat → va_E) (H : Heap) (locs : List Loc) (ls : Array Slot), ((T x1 - w) + (P x1) - u < k) → (u ≤ (T x1 - w) + (P x1)) → (cel L f (A 0) (.inr (6, [.int (nI base), .ref (A 1), .ref (A 2), .ref (A 3), .ref (A 4), .int (nI (T x1 - w)), .int (nI (P x1)), .ref (A 5), .int (nI ns), .ref (A 6), .ref (A 7), .ref (A 8)]))) → (cel L f (A 1) (.inl (cy 0, 84, .inl (fun k => nI (T k))))) → (cel L f (A 2) (.inl (cy 0, 84, .inl (fun k => nI (P k))))) → (cel L f (A 3) (.inl (cy 1, 252, .inr (.inl (rw3 B))))) → (cel L f (A 4) (.inl (cy 2, 4096, .inl (fun k => b2i ((rbx (shD (SS x1) w) rr u) k))))) → (cel L f (A 5) (.inl (cy 0, 325, .inl G))) → (cel L f (A 6) (.inl (cy 0, 65, .inl Fa))) → (cel L f (A 7) (.inl (cy 0, 2, .inl (fun k => nI (kb1 k))))) → (cel L f (A 8) (.inl (cy 2, 2, .inl (fun k => b2i (kp k))))) → (∀ b ∈ L, b ≠ (A 0) → b ≠ (A 1) → b ≠ (A 2) → b ≠ (A 3) → b ≠ (A 4) → b ≠ (A 5) → f b = f0 b) → (WW D (AW L sz) s.heap L f H locs) → (lv_has ls 5 [(4, .int (nI u)), (0, .ref (A 0)), (1, .int (nI j)), (2, .int (nI x1)), (3, .int (-nI w))]) → W p l e R s m args below meth c H locs 0 0 Q (F0 m 70 ls []) := by
          intro k
          induction k with
          | zero => intro _ _ _ _ _ hk; exact absurd hk (Nat.not_lt_zero _)
          | succ k ih70 =>
            intro u f H locs ls hk hu h_o h_ts h_ps h_bs h_rw h_gs h_fa h_ba h_it hF hw hl
            refine lv_iload E.1.1 E.1.2.1 dX6_shift_70 (lv_at hl 0 rfl) ?_
            refine lv_aload_n E.1.1 E.1.2.1 dX6_shift_72 rfl (lv_at hl 1 rfl) ?_
            refine k_get (v := .int (nI (T x1 - w))) E inlX6 rfl 5 (by decide) w2_237 rfl hw h_o rfl dX6_shift_73 ?_
            refine lv_aload_n E.1.1 E.1.2.1 dX6_shift_76 rfl (lv_at hl 1 rfl) ?_
            refine k_get (v := .int (nI (P x1))) E inlX6 rfl 6 (by decide) w2_238 rfl hw h_o rfl dX6_shift_77 ?_
            refine k_add E dX6_shift_80 ?_
            refine k_ge (tgt := 120) E dX6_shift_81 (by decide) (by omega) (by omega) (fun c81 => ?_) (fun c81 => ?_)
            · rw [show u = (T x1 - w) + (P x1) by omega] at h_rw
              refine lv_aload_n E.1.1 E.1.2.1 dX6_shift_120 rfl (lv_at hl 1 rfl) ?_
              refine lv_iload_n E.1.1 E.1.2.1 dX6_shift_121 rfl (lv_at hl 2 rfl) ?_
              refine k_mi hw (va_runV (As := [.int (nI j)]) (rest := []) E.1 (m_keep l D cy L f H.size A base (T x1 - w) (P x1) ns T P B (rbx (shD (SS x1) w) rr ((T x1 - w) + (P x1))) G hA hTP j (by omega) (by omega) (by omega) (by omega) (by omega) h_o h_ts h_ps h_bs h_rw h_gs) ⟨callB_of 1 E.1.2.2.2.2 (gd_own w3_47) rfl rfl rfl (E.1.2.2.2.2 _ w1_10) (E.1.2.2.2.2 _ w3_44) hd_X6_keep (by rw [hR]; exact ⟨Nat.le_of_ble_eq_true rfl, Nat.le_of_ble_eq_true rfl⟩), E.1.2.2.2.2 _ w3_46, E.1.2.2.2.2 _ ws_25⟩ (pw_preV (q := (RX6, TX6, 12)) E.2 hw h_o rfl) rfl rfl hl.1 rfl (lv_room (Nat.le_of_ble_eq_true rfl)) dX6_shift_122 (by rw [hR]; exact ⟨Nat.le_of_ble_eq_true rfl, Nat.le_of_ble_eq_true rfl⟩)) (fun r L1 f H locs hp hw => ?_)
              obtain ⟨hL1, hfr, fr2, pb2, ns2, T2, P2, B2, rr2, G2, h_o, h_ts, h_ps, h_bs, h_rw, h_gs, hTP2, hag, hcase⟩ := hp
              have hL1 : L = L1 := hL1
              subst hL1
              have h_o : cel L f (A 0) (.inr (6, [.int (nI base), .ref (A 1), .ref (A 2), .ref (A 3), .ref (A 4), .int (nI fr2), .int (nI pb2), .ref (A 5), .int (nI ns2), .ref (A 6), .ref (A 7), .ref (A 8)])) := h_o
              have h_ts : cel L f (A 1) (.inl (cy 0, 84, .inl (fun k => nI (T2 k)))) := h_ts
              have h_ps : cel L f (A 2) (.inl (cy 0, 84, .inl (fun k => nI (P2 k)))) := h_ps
              have h_bs : cel L f (A 3) (.inl (cy 1, 252, .inr (.inl (rw3 B2)))) := h_bs
              have h_rw : cel L f (A 4) (.inl (cy 2, 4096, .inl (fun k => b2i (rr2 k)))) := h_rw
              have h_gs : cel L f (A 5) (.inl (cy 0, 325, .inl G2)) := h_gs
              have h_fa := h_fa.keep (fun _ h => h) (hfr _ h_fa.1 (Ne.symm n_o_fa) (Ne.symm n_ts_fa) (Ne.symm n_ps_fa) (Ne.symm n_bs_fa) (Ne.symm n_rw_fa) (Ne.symm n_gs_fa))
              have h_ba := h_ba.keep (fun _ h => h) (hfr _ h_ba.1 (Ne.symm n_o_ba) (Ne.symm n_ts_ba) (Ne.symm n_ps_ba) (Ne.symm n_bs_ba) (Ne.symm n_rw_ba) (Ne.symm n_gs_ba))
              have h_it := h_it.keep (fun _ h => h) (hfr _ h_it.1 (Ne.symm n_o_it) (Ne.symm n_ts_it) (Ne.symm n_ps_it) (Ne.symm n_bs_it) (Ne.symm n_rw_it) (Ne.symm n_gs_it))
              have hF : ∀ b ∈ L, b ≠ (A 0) → b ≠ (A 1) → b ≠ (A 2) → b ≠ (A 3) → b ≠ (A 4) → b ≠ (A 5) → f b = f0 b := fun b hb h0 h1 h2 h3 h4 h5 => (hfr b (hLs b hb) h0 h1 h2 h3 h4 h5).trans (hF b hb h0 h1 h2 h3 h4 h5)
              rw [hX] at hcase
              exact k_miret E hQ hlk hr hw (Nat.le_of_ble_eq_true rfl) (Nat.le_of_ble_eq_true rfl) (⟨rfl, fun b hb h => hF b hb (h 0 (by decide)) (h 1 (by decide)) (h 2 (by decide)) (h 3 (by decide)) (h 4 (by decide)) (h 5 (by decide)), by
      obtain ⟨SS2, hW2, hH⟩ := mo_hold hB hMS hMK ⟨h_o, h_ts, h_ps, h_bs, h_rw, h_gs, h_fa, h_ba, h_it⟩ hTP2 (by omega) hag hcase
      exact ⟨SS2, hW2, sp_un_ok hj hx1 rfl (by rw [xShift_n hw0 hw1]; exact hH)⟩⟩) dX6_shift_125
            · refine lv_aload_n E.1.1 E.1.2.1 dX6_shift_84 rfl (lv_at hl 1 rfl) ?_
              refine k_get (v := .ref (A 4)) E inlX6 rfl 4 (by decide) w2_236 rfl hw h_o rfl dX6_shift_85 ?_
              refine lv_iload E.1.1 E.1.2.1 dX6_shift_88 (lv_at hl 0 rfl) ?_
              refine lv_iload E.1.1 E.1.2.1 dX6_shift_90 (lv_at hl 0 rfl) ?_
              refine lv_iload_n E.1.1 E.1.2.1 dX6_shift_92 rfl (lv_at hl 4 rfl) ?_
              refine lv_icmp_lt (tgt := 112) E.1.1 E.1.2.1 dX6_shift_93 (by decide) (fun c93 => absurd c93 (lt_neg (by omega) hw1)) (fun c93 => ?_)
              refine lv_aload_n E.1.1 E.1.2.1 dX6_shift_96 rfl (lv_at hl 1 rfl) ?_
              refine lv_iload_n E.1.1 E.1.2.1 dX6_shift_97 rfl (lv_at hl 3 rfl) ?_
              refine lv_iload E.1.1 E.1.2.1 dX6_shift_98 (lv_at hl 0 rfl) ?_
              refine lv_iload_n E.1.1 E.1.2.1 dX6_shift_100 rfl (lv_at hl 4 rfl) ?_
              refine lv_isub E.1.1 E.1.2.1 dX6_shift_101 ?_
              refine k_top E (nI (u + w)) (sub_neg_nI u w) ?_
              refine k_ri (va_runV (As := [.int (nI x1), .int (nI (u + w))]) (rest := [.int (nI u), .ref (A 4)]) E.1 (m_isInS l D cy L f H.size A base (T x1 - w) (P x1) ns T P B (rbx (shD (SS x1) w) rr u) G hA hTP x1 (u + w) (SS x1) hS1 (by omega) (by omega) h_o h_ts h_ps h_bs) ⟨callB_of 2 E.1.2.2.2.2 (gd_own w3_79) rfl rfl rfl (E.1.2.2.2.2 _ w1_10) (E.1.2.2.2.2 _ w3_76) hd_X6_isIn (by rw [hR]; exact ⟨Nat.le_of_ble_eq_true rfl, Nat.le_of_ble_eq_true rfl⟩), E.1.2.2.2.2 _ w3_78, E.1.2.2.2.2 _ ws_33⟩ (pw_preV (q := (RX6, TX6, 12)) E.2 hw h_o rfl) rfl rfl hl.1 rfl (lv_room (Nat.le_of_ble_eq_true rfl)) dX6_shift_102 ⟨Nat.zero_le _, Nat.zero_le _⟩) ?_
              refine k_if0 (tgt := 112) E dX6_shift_105 (by decide) (fun c105 => ?_) (fun c105 => ?_)
              · refine lv_iconst (v := nI 0) E.1.1 E.1.2.1 dX6_shift_112 rfl ?_
                refine W.eq (g2 := F0 m 113 ls (.int (b2i false) :: .int (nI u) :: .ref (A 4) :: [])) rfl ?_
                refine k_zast E hw (fun k => b2i (rbx (shD (SS x1) w) rr (u + 1) k)) h_rw (by omega) (by omega) (fun i _ => rbx_v (by unfold shD; rw [c105]) i) dX6_shift_113 (fun f H locs h_rw hfr hw => ?_)
                have h_o := h_o.kp hfr n_o_rw
                have h_ts := h_ts.kp hfr n_ts_rw
                have h_ps := h_ps.kp hfr n_ps_rw
                have h_bs := h_bs.kp hfr n_bs_rw
                have h_gs := h_gs.kp hfr (Ne.symm n_rw_gs)
                have h_fa := h_fa.kp hfr (Ne.symm n_rw_fa)
                have h_ba := h_ba.kp hfr (Ne.symm n_rw_ba)
                have h_it := h_it.kp hfr (Ne.symm n_rw_it)
                have hF : ∀ b ∈ L, b ≠ (A 0) → b ≠ (A 1) → b ≠ (A 2) → b ≠ (A 3) → b ≠ (A 4) → b ≠ (A 5) → f b = f0 b := fun b hb h0 h1 h2 h3 h4 h5 => (hfr b h4).trans (hF b hb h0 h1 h2 h3 h4 h5)
                refine lv_iinc (v := nI (u + 1)) (lv' := [(4, .int (nI (u + 1))), (0, .ref (A 0)), (1, .int (nI j)), (2, .int (nI x1)), (3, .int (-nI w))]) E.1.1 E.1.2.1 dX6_shift_114 hl (k := 0) rfl (nI_1 _) (by decide) rfl (fun ls hl => ?_)
                refine lv_goto (tgt := 70) E.1.1 E.1.2.1 dX6_shift_117 (by decide) ?_
                exact ih70  (u + 1) f H locs ls (by omega) (by omega) h_o h_ts h_ps h_bs h_rw h_gs h_fa h_ba h_it hF hw (lv_sub hl [0, 1, 2, 3, 4] rfl)
              · refine lv_iconst (v := nI 1) E.1.1 E.1.2.1 dX6_shift_108 rfl ?_
                refine lv_goto (tgt := 113) E.1.1 E.1.2.1 dX6_shift_109 (by decide) ?_
                refine W.eq (g2 := F0 m 113 ls (.int (b2i true) :: .int (nI u) :: .ref (A 4) :: [])) rfl ?_
                refine k_zast E hw (fun k => b2i (rbx (shD (SS x1) w) rr (u + 1) k)) h_rw (by omega) (by omega) (fun i _ => rbx_v (by unfold shD; rw [c105]) i) dX6_shift_113 (fun f H locs h_rw hfr hw => ?_)
                have h_o := h_o.kp hfr n_o_rw
                have h_ts := h_ts.kp hfr n_ts_rw
                have h_ps := h_ps.kp hfr n_ps_rw
                have h_bs := h_bs.kp hfr n_bs_rw
                have h_gs := h_gs.kp hfr (Ne.symm n_rw_gs)
                have h_fa := h_fa.kp hfr (Ne.symm n_rw_fa)
                have h_ba := h_ba.kp hfr (Ne.symm n_rw_ba)
                have h_it := h_it.kp hfr (Ne.symm n_rw_it)
                have hF : ∀ b ∈ L, b ≠ (A 0) → b ≠ (A 1) → b ≠ (A 2) → b ≠ (A 3) → b ≠ (A 4) → b ≠ (A 5) → f b = f0 b := fun b hb h0 h1 h2 h3 h4 h5 => (hfr b h4).trans (hF b hb h0 h1 h2 h3 h4 h5)
                refine lv_iinc (v := nI (u + 1)) (lv' := [(4, .int (nI (u + 1))), (0, .ref (A 0)), (1, .int (nI j)), (2, .int (nI x1)), (3, .int (-nI w))]) E.1.1 E.1.2.1 dX6_shift_114 hl (k := 0) rfl (nI_1 _) (by decide) rfl (fun ls hl => ?_)
                refine lv_goto (tgt := 70) E.1.1 E.1.2.1 dX6_shift_117 (by decide) ?_
                exact ih70  (u + 1) f H locs ls (by omega) (by omega) h_o h_ts h_ps h_bs h_rw h_gs h_fa h_ba h_it hF hw (lv_sub hl [0, 1, 2, 3, 4] rfl)
        exact lp70 ((T x1 - w) + (P x1) - 0 + 1) 0 f H locs ls (Nat.lt_succ_self _) (by omega) h_o h_ts h_ps h_bs h_rw h_gs h_fa h_ba h_it hF hw (lv_sub hl [0, 1, 2, 3, 4] rfl)
    · refine lv_iconst (v := -1) E.1.1 E.1.2.1 dX6_shift_14 rfl ?_
      exact k_miret E hQ hlk hr hw (Nat.le_of_ble_eq_true rfl) (Nat.le_of_ble_eq_true rfl) (⟨rfl, fun b hb h => hF b hb (h 0 (by decide)) (h 1 (by decide)) (h 2 (by decide)) (h 3 (by decide)) (h 4 (by decide)) (h 5 (by decide)), SS, ⟨hB, _, _, _, _, _, _, _, _, _, _, ⟨h_o, h_ts, h_ps, h_bs, h_rw, h_gs, h_fa, h_ba, h_it⟩, hTP, hMS, hMK⟩, sp_un_1 (Or.inr c11)⟩) dX6_shift_15

set_option maxHeartbeats 4000000 in
set_option maxRecDepth 100000 in
theorem m_shift0 (l : Launch) (D : va_G) (cy : Nat → ClassId) (L : List Nat) (f0 : Nat → va_E) (sz : Nat) (A : Nat → Nat) (base : Nat) (SS : Nat → Nat → Bool) (kp : Nat → Bool) (kb : Nat → Nat) (KS : Nat → Nat → Nat → Bool) (hA : MAd A) (hN : MoW cy L f0 A base SS kp kb KS) (to src w : Int32) (hin : i32in w (-100) (nI 100) = false) : Met l yX6_shift (.code yX6_shift cX6_shift 5 (Option.some FieldType.int) :: wsL_law) { frames := 2, cells := 0, slots := 0, locals := 42 } (va_Pc [.ref (A 0), .int to, .int src, .int w] (PW D cy L f0 sz)) (va_Qi (fun (r : Int32) (u : List Nat × (Nat → va_E)) => L = u.1 ∧ (∀ b ∈ L, (∀ i, i < 9 → b ≠ A i) → u.2 b = f0 b) ∧ ∃ SS2, MoW cy L u.2 A base SS2 kp kb KS ∧ sp_un base SS SS2 to src false (xShift w) r) (PB D (AW L sz)) (AW L sz)) 0 0 (AW L sz) := by
  refine m_start (by decide) (Nat.le_of_ble_eq_true rfl) ?_
  intro p e R Q s m args below meth c ls hsz hR hQ E hr hlk hnm hw hl
  have hl : lv_has ls 5 [(0, .ref (A 0)), (1, .int to), (2, .int src), (3, .int w)] := hl
  obtain ⟨H, hH⟩ : ∃ X, X = s.heap := ⟨_, rfl⟩
  obtain ⟨locs, hlocs⟩ : ∃ X : List Loc, X = [] := ⟨_, rfl⟩
  have hw0 := hw
  obtain ⟨hB, fr, pb, ns, T, P, B, rr, G, Fa, kb1, ⟨h_o, h_ts, h_ps, h_bs, h_rw, h_gs, h_fa, h_ba, h_it⟩, hTP, hMS, hMK⟩ := hN
  have hb2 := hB.two
  obtain ⟨f, hf0⟩ : ∃ X, X = f0 := ⟨_, rfl⟩
  rw [← hf0] at h_o h_ts h_ps h_bs h_rw h_gs h_fa h_ba h_it
  have hw : WW D (AW L sz) s.heap L f H locs := by rw [hH, hlocs, hf0]; exact hw
  have hF : ∀ b ∈ L, b ≠ (A 0) → b ≠ (A 1) → b ≠ (A 2) → b ≠ (A 3) → b ≠ (A 4) → b ≠ (A 5) → f b = f0 b := fun b hb h0 h1 h2 h3 h4 h5 => by rw [hf0]
  suffices hgo : W p l e R s m args below meth c H locs 0 0 Q (F0 m 0 ls []) by rw [hH, hlocs] at hgo; exact hgo
  clear hH hlocs hw0 hf0
  have hLs : ∀ b ∈ L, b ∈ L := fun _ h => h
  have n_o_ts : A 0 ≠ A 1 := hA.ne (by decide) (by decide) (by decide)
  have n_o_ps : A 0 ≠ A 2 := hA.ne (by decide) (by decide) (by decide)
  have n_o_bs : A 0 ≠ A 3 := hA.ne (by decide) (by decide) (by decide)
  have n_o_rw : A 0 ≠ A 4 := hA.ne (by decide) (by decide) (by decide)
  have n_o_gs : A 0 ≠ A 5 := hA.ne (by decide) (by decide) (by decide)
  have n_o_fa : A 0 ≠ A 6 := hA.ne (by decide) (by decide) (by decide)
  have n_o_ba : A 0 ≠ A 7 := hA.ne (by decide) (by decide) (by decide)
  have n_o_it : A 0 ≠ A 8 := hA.ne (by decide) (by decide) (by decide)
  have n_ts_ps : A 1 ≠ A 2 := hA.ne (by decide) (by decide) (by decide)
  have n_ts_bs : A 1 ≠ A 3 := hA.ne (by decide) (by decide) (by decide)
  have n_ts_rw : A 1 ≠ A 4 := hA.ne (by decide) (by decide) (by decide)
  have n_ts_gs : A 1 ≠ A 5 := hA.ne (by decide) (by decide) (by decide)
  have n_ts_fa : A 1 ≠ A 6 := hA.ne (by decide) (by decide) (by decide)
  have n_ts_ba : A 1 ≠ A 7 := hA.ne (by decide) (by decide) (by decide)
  have n_ts_it : A 1 ≠ A 8 := hA.ne (by decide) (by decide) (by decide)
  have n_ps_bs : A 2 ≠ A 3 := hA.ne (by decide) (by decide) (by decide)
  have n_ps_rw : A 2 ≠ A 4 := hA.ne (by decide) (by decide) (by decide)
  have n_ps_gs : A 2 ≠ A 5 := hA.ne (by decide) (by decide) (by decide)
  have n_ps_fa : A 2 ≠ A 6 := hA.ne (by decide) (by decide) (by decide)
  have n_ps_ba : A 2 ≠ A 7 := hA.ne (by decide) (by decide) (by decide)
  have n_ps_it : A 2 ≠ A 8 := hA.ne (by decide) (by decide) (by decide)
  have n_bs_rw : A 3 ≠ A 4 := hA.ne (by decide) (by decide) (by decide)
  have n_bs_gs : A 3 ≠ A 5 := hA.ne (by decide) (by decide) (by decide)
  have n_bs_fa : A 3 ≠ A 6 := hA.ne (by decide) (by decide) (by decide)
  have n_bs_ba : A 3 ≠ A 7 := hA.ne (by decide) (by decide) (by decide)
  have n_bs_it : A 3 ≠ A 8 := hA.ne (by decide) (by decide) (by decide)
  have n_rw_gs : A 4 ≠ A 5 := hA.ne (by decide) (by decide) (by decide)
  have n_rw_fa : A 4 ≠ A 6 := hA.ne (by decide) (by decide) (by decide)
  have n_rw_ba : A 4 ≠ A 7 := hA.ne (by decide) (by decide) (by decide)
  have n_rw_it : A 4 ≠ A 8 := hA.ne (by decide) (by decide) (by decide)
  have n_gs_fa : A 5 ≠ A 6 := hA.ne (by decide) (by decide) (by decide)
  have n_gs_ba : A 5 ≠ A 7 := hA.ne (by decide) (by decide) (by decide)
  have n_gs_it : A 5 ≠ A 8 := hA.ne (by decide) (by decide) (by decide)
  refine lv_iload_n E.1.1 E.1.2.1 dX6_shift_0 rfl (lv_at hl 1 rfl) ?_
  refine k_ri (va_runS (As := [.int to]) (rest := []) E.1 (m_isSlot l D cy L f H.size to) ⟨callB_of 1 E.1.2.2.2.2 (gd_own w3_40) rfl rfl rfl (E.1.2.2.2.2 _ w1_10) (E.1.2.2.2.2 _ w3_38) hd_X6_isSlot (by rw [hR]; exact ⟨Nat.le_of_ble_eq_true rfl, Nat.le_of_ble_eq_true rfl⟩), E.1.2.2.2.2 _ w3_39⟩ (pw_pre E.2 hw) rfl rfl hl.1 rfl (lv_room (Nat.le_of_ble_eq_true rfl)) dX6_shift_1 ⟨Nat.zero_le _, Nat.zero_le _⟩) ?_
  refine k_if0 (tgt := 14) E dX6_shift_4 (by decide) (fun c4 => ?_) (fun c4 => ?_)
  · refine lv_iconst (v := -1) E.1.1 E.1.2.1 dX6_shift_14 rfl ?_
    exact k_miret E hQ hlk hr hw (Nat.le_of_ble_eq_true rfl) (Nat.le_of_ble_eq_true rfl) (⟨rfl, fun b hb h => hF b hb (h 0 (by decide)) (h 1 (by decide)) (h 2 (by decide)) (h 3 (by decide)) (h 4 (by decide)) (h 5 (by decide)), SS, ⟨hB, _, _, _, _, _, _, _, _, _, _, ⟨h_o, h_ts, h_ps, h_bs, h_rw, h_gs, h_fa, h_ba, h_it⟩, hTP, hMS, hMK⟩, sp_un_1 (Or.inl c4)⟩) dX6_shift_15
  · obtain ⟨j, hj, rfl⟩ := in_ex (by decide) c4
    refine lv_iload_n E.1.1 E.1.2.1 dX6_shift_7 rfl (lv_at hl 2 rfl) ?_
    refine k_ri (va_runS (As := [.int src]) (rest := []) E.1 (m_isSlot l D cy L f H.size src) ⟨callB_of 1 E.1.2.2.2.2 (gd_own w3_40) rfl rfl rfl (E.1.2.2.2.2 _ w1_10) (E.1.2.2.2.2 _ w3_38) hd_X6_isSlot (by rw [hR]; exact ⟨Nat.le_of_ble_eq_true rfl, Nat.le_of_ble_eq_true rfl⟩), E.1.2.2.2.2 _ w3_39⟩ (pw_pre E.2 hw) rfl rfl hl.1 rfl (lv_room (Nat.le_of_ble_eq_true rfl)) dX6_shift_8 ⟨Nat.zero_le _, Nat.zero_le _⟩) ?_
    refine k_if1 (tgt := 16) E dX6_shift_11 (by decide) (fun c11 => ?_) (fun c11 => ?_)
    · obtain ⟨x1, hx1, rfl⟩ := in_ex (by decide) c11
      refine lv_iload_n E.1.1 E.1.2.1 dX6_shift_16 rfl (lv_at hl 3 rfl) ?_
      refine lv_bipush (v := -100) E.1.1 E.1.2.1 dX6_shift_17 rfl ?_
      refine lv_bipush (v := nI 100) E.1.1 E.1.2.1 dX6_shift_19 rfl ?_
      refine k_ri (va_runS (As := [.int w, .int (-100), .int (nI 100)]) (rest := []) E.1 (m_in l D cy L f H.size w (-100) (nI 100)) ⟨callB_of 3 E.1.2.2.2.2 (gd_own w3_43) rfl rfl rfl (E.1.2.2.2.2 _ w1_10) (E.1.2.2.2.2 _ w3_41) hd_X6_in (by rw [hR]; exact ⟨Nat.le_of_ble_eq_true rfl, Nat.le_of_ble_eq_true rfl⟩), E.1.2.2.2.2 _ w3_42⟩ (pw_pre E.2 hw) rfl rfl hl.1 rfl (lv_room (Nat.le_of_ble_eq_true rfl)) dX6_shift_21 ⟨Nat.zero_le _, Nat.zero_le _⟩) ?_
      refine k_if1 (tgt := 30) E dX6_shift_24 (by decide) (fun c24 => absurd (show i32in w (-100) (nI 100) = true from c24) (by rw [hin]; decide)) (fun c24 => ?_)
      refine lv_bipush (v := -2) E.1.1 E.1.2.1 dX6_shift_27 rfl ?_
      exact k_miret E hQ hlk hr hw (Nat.le_of_ble_eq_true rfl) (Nat.le_of_ble_eq_true rfl) (⟨rfl, fun b hb h => hF b hb (h 0 (by decide)) (h 1 (by decide)) (h 2 (by decide)) (h 3 (by decide)) (h 4 (by decide)) (h 5 (by decide)), SS, ⟨hB, _, _, _, _, _, _, _, _, _, _, ⟨h_o, h_ts, h_ps, h_bs, h_rw, h_gs, h_fa, h_ba, h_it⟩, hTP, hMS, hMK⟩, sp_un_2 hj hx1 rfl⟩) dX6_shift_29
    · refine lv_iconst (v := -1) E.1.1 E.1.2.1 dX6_shift_14 rfl ?_
      exact k_miret E hQ hlk hr hw (Nat.le_of_ble_eq_true rfl) (Nat.le_of_ble_eq_true rfl) (⟨rfl, fun b hb h => hF b hb (h 0 (by decide)) (h 1 (by decide)) (h 2 (by decide)) (h 3 (by decide)) (h 4 (by decide)) (h 5 (by decide)), SS, ⟨hB, _, _, _, _, _, _, _, _, _, _, ⟨h_o, h_ts, h_ps, h_bs, h_rw, h_gs, h_fa, h_ba, h_it⟩, hTP, hMS, hMK⟩, sp_un_1 (Or.inr c11)⟩) dX6_shift_15

set_option maxHeartbeats 4000000 in
set_option maxRecDepth 100000 in
theorem m_join (l : Launch) (D : va_G) (cy : Nat → ClassId) (L : List Nat) (f0 : Nat → va_E) (sz : Nat) (A : Nat → Nat) (base : Nat) (SS : Nat → Nat → Bool) (kp : Nat → Bool) (kb : Nat → Nat) (KS : Nat → Nat → Nat → Bool) (hA : MAd A) (hN : MoW cy L f0 A base SS kp kb KS) (to one other way : Int32) : Met l yX6_join (.code yX6_join cX6_join 8 (Option.some FieldType.int) :: wsL_law) { frames := 6, cells := 0, slots := 0, locals := 136 } (va_Pc [.ref (A 0), .int to, .int one, .int other, .int way] (PW D cy L f0 sz)) (va_Qi (fun (r : Int32) (u : List Nat × (Nat → va_E)) => L = u.1 ∧ (∀ b ∈ L, (∀ i, i < 9 → b ≠ A i) → u.2 b = f0 b) ∧ ∃ SS2, MoW cy L u.2 A base SS2 kp kb KS ∧ sp_join base SS SS2 to one other way r) (PB D (AW L sz)) (AW L sz)) 0 0 (AW L sz) := by
  refine m_start (by decide) (Nat.le_of_ble_eq_true rfl) ?_
  intro p e R Q s m args below meth c ls hsz hR hQ E hr hlk hnm hw hl
  have hl : lv_has ls 8 [(0, .ref (A 0)), (1, .int to), (2, .int one), (3, .int other), (4, .int way)] := hl
  obtain ⟨H, hH⟩ : ∃ X, X = s.heap := ⟨_, rfl⟩
  obtain ⟨locs, hlocs⟩ : ∃ X : List Loc, X = [] := ⟨_, rfl⟩
  have hw0 := hw
  obtain ⟨hB, fr, pb, ns, T, P, B, rr, G, Fa, kb1, ⟨h_o, h_ts, h_ps, h_bs, h_rw, h_gs, h_fa, h_ba, h_it⟩, hTP, hMS, hMK⟩ := hN
  have hb2 := hB.two
  obtain ⟨f, hf0⟩ : ∃ X, X = f0 := ⟨_, rfl⟩
  rw [← hf0] at h_o h_ts h_ps h_bs h_rw h_gs h_fa h_ba h_it
  have hw : WW D (AW L sz) s.heap L f H locs := by rw [hH, hlocs, hf0]; exact hw
  have hF : ∀ b ∈ L, b ≠ (A 0) → b ≠ (A 1) → b ≠ (A 2) → b ≠ (A 3) → b ≠ (A 4) → b ≠ (A 5) → f b = f0 b := fun b hb h0 h1 h2 h3 h4 h5 => by rw [hf0]
  suffices hgo : W p l e R s m args below meth c H locs 0 0 Q (F0 m 0 ls []) by rw [hH, hlocs] at hgo; exact hgo
  clear hH hlocs hw0 hf0
  have hLs : ∀ b ∈ L, b ∈ L := fun _ h => h
  have n_o_ts : A 0 ≠ A 1 := hA.ne (by decide) (by decide) (by decide)
  have n_o_ps : A 0 ≠ A 2 := hA.ne (by decide) (by decide) (by decide)
  have n_o_bs : A 0 ≠ A 3 := hA.ne (by decide) (by decide) (by decide)
  have n_o_rw : A 0 ≠ A 4 := hA.ne (by decide) (by decide) (by decide)
  have n_o_gs : A 0 ≠ A 5 := hA.ne (by decide) (by decide) (by decide)
  have n_o_fa : A 0 ≠ A 6 := hA.ne (by decide) (by decide) (by decide)
  have n_o_ba : A 0 ≠ A 7 := hA.ne (by decide) (by decide) (by decide)
  have n_o_it : A 0 ≠ A 8 := hA.ne (by decide) (by decide) (by decide)
  have n_ts_ps : A 1 ≠ A 2 := hA.ne (by decide) (by decide) (by decide)
  have n_ts_bs : A 1 ≠ A 3 := hA.ne (by decide) (by decide) (by decide)
  have n_ts_rw : A 1 ≠ A 4 := hA.ne (by decide) (by decide) (by decide)
  have n_ts_gs : A 1 ≠ A 5 := hA.ne (by decide) (by decide) (by decide)
  have n_ts_fa : A 1 ≠ A 6 := hA.ne (by decide) (by decide) (by decide)
  have n_ts_ba : A 1 ≠ A 7 := hA.ne (by decide) (by decide) (by decide)
  have n_ts_it : A 1 ≠ A 8 := hA.ne (by decide) (by decide) (by decide)
  have n_ps_bs : A 2 ≠ A 3 := hA.ne (by decide) (by decide) (by decide)
  have n_ps_rw : A 2 ≠ A 4 := hA.ne (by decide) (by decide) (by decide)
  have n_ps_gs : A 2 ≠ A 5 := hA.ne (by decide) (by decide) (by decide)
  have n_ps_fa : A 2 ≠ A 6 := hA.ne (by decide) (by decide) (by decide)
  have n_ps_ba : A 2 ≠ A 7 := hA.ne (by decide) (by decide) (by decide)
  have n_ps_it : A 2 ≠ A 8 := hA.ne (by decide) (by decide) (by decide)
  have n_bs_rw : A 3 ≠ A 4 := hA.ne (by decide) (by decide) (by decide)
  have n_bs_gs : A 3 ≠ A 5 := hA.ne (by decide) (by decide) (by decide)
  have n_bs_fa : A 3 ≠ A 6 := hA.ne (by decide) (by decide) (by decide)
  have n_bs_ba : A 3 ≠ A 7 := hA.ne (by decide) (by decide) (by decide)
  have n_bs_it : A 3 ≠ A 8 := hA.ne (by decide) (by decide) (by decide)
  have n_rw_gs : A 4 ≠ A 5 := hA.ne (by decide) (by decide) (by decide)
  have n_rw_fa : A 4 ≠ A 6 := hA.ne (by decide) (by decide) (by decide)
  have n_rw_ba : A 4 ≠ A 7 := hA.ne (by decide) (by decide) (by decide)
  have n_rw_it : A 4 ≠ A 8 := hA.ne (by decide) (by decide) (by decide)
  have n_gs_fa : A 5 ≠ A 6 := hA.ne (by decide) (by decide) (by decide)
  have n_gs_ba : A 5 ≠ A 7 := hA.ne (by decide) (by decide) (by decide)
  have n_gs_it : A 5 ≠ A 8 := hA.ne (by decide) (by decide) (by decide)
  refine lv_iload_n E.1.1 E.1.2.1 dX6_join_0 rfl (lv_at hl 1 rfl) ?_
  refine k_ri (va_runS (As := [.int to]) (rest := []) E.1 (m_isSlot l D cy L f H.size to) ⟨callB_of 1 E.1.2.2.2.2 (gd_own w3_40) rfl rfl rfl (E.1.2.2.2.2 _ w1_10) (E.1.2.2.2.2 _ w3_38) hd_X6_isSlot (by rw [hR]; exact ⟨Nat.le_of_ble_eq_true rfl, Nat.le_of_ble_eq_true rfl⟩), E.1.2.2.2.2 _ w3_39⟩ (pw_pre E.2 hw) rfl rfl hl.1 rfl (lv_room (Nat.le_of_ble_eq_true rfl)) dX6_join_1 ⟨Nat.zero_le _, Nat.zero_le _⟩) ?_
  refine k_if0 (tgt := 21) E dX6_join_4 (by decide) (fun c4 => ?_) (fun c4 => ?_)
  · refine lv_iconst (v := -1) E.1.1 E.1.2.1 dX6_join_21 rfl ?_
    exact k_miret E hQ hlk hr hw (Nat.le_of_ble_eq_true rfl) (Nat.le_of_ble_eq_true rfl) (⟨rfl, fun b hb h => hF b hb (h 0 (by decide)) (h 1 (by decide)) (h 2 (by decide)) (h 3 (by decide)) (h 4 (by decide)) (h 5 (by decide)), SS, ⟨hB, _, _, _, _, _, _, _, _, _, _, ⟨h_o, h_ts, h_ps, h_bs, h_rw, h_gs, h_fa, h_ba, h_it⟩, hTP, hMS, hMK⟩, sp_join_1 (Or.inl c4)⟩) dX6_join_22
  · obtain ⟨j, hj, rfl⟩ := in_ex (by decide) c4
    refine lv_iload_n E.1.1 E.1.2.1 dX6_join_7 rfl (lv_at hl 2 rfl) ?_
    refine k_ri (va_runS (As := [.int one]) (rest := []) E.1 (m_isSlot l D cy L f H.size one) ⟨callB_of 1 E.1.2.2.2.2 (gd_own w3_40) rfl rfl rfl (E.1.2.2.2.2 _ w1_10) (E.1.2.2.2.2 _ w3_38) hd_X6_isSlot (by rw [hR]; exact ⟨Nat.le_of_ble_eq_true rfl, Nat.le_of_ble_eq_true rfl⟩), E.1.2.2.2.2 _ w3_39⟩ (pw_pre E.2 hw) rfl rfl hl.1 rfl (lv_room (Nat.le_of_ble_eq_true rfl)) dX6_join_8 ⟨Nat.zero_le _, Nat.zero_le _⟩) ?_
    refine k_if0 (tgt := 21) E dX6_join_11 (by decide) (fun c11 => ?_) (fun c11 => ?_)
    · refine lv_iconst (v := -1) E.1.1 E.1.2.1 dX6_join_21 rfl ?_
      exact k_miret E hQ hlk hr hw (Nat.le_of_ble_eq_true rfl) (Nat.le_of_ble_eq_true rfl) (⟨rfl, fun b hb h => hF b hb (h 0 (by decide)) (h 1 (by decide)) (h 2 (by decide)) (h 3 (by decide)) (h 4 (by decide)) (h 5 (by decide)), SS, ⟨hB, _, _, _, _, _, _, _, _, _, _, ⟨h_o, h_ts, h_ps, h_bs, h_rw, h_gs, h_fa, h_ba, h_it⟩, hTP, hMS, hMK⟩, sp_join_1 (Or.inr (Or.inl c11))⟩) dX6_join_22
    · obtain ⟨x1, hx1, rfl⟩ := in_ex (by decide) c11
      refine lv_iload_n E.1.1 E.1.2.1 dX6_join_14 rfl (lv_at hl 3 rfl) ?_
      refine k_ri (va_runS (As := [.int other]) (rest := []) E.1 (m_isSlot l D cy L f H.size other) ⟨callB_of 1 E.1.2.2.2.2 (gd_own w3_40) rfl rfl rfl (E.1.2.2.2.2 _ w1_10) (E.1.2.2.2.2 _ w3_38) hd_X6_isSlot (by rw [hR]; exact ⟨Nat.le_of_ble_eq_true rfl, Nat.le_of_ble_eq_true rfl⟩), E.1.2.2.2.2 _ w3_39⟩ (pw_pre E.2 hw) rfl rfl hl.1 rfl (lv_room (Nat.le_of_ble_eq_true rfl)) dX6_join_15 ⟨Nat.zero_le _, Nat.zero_le _⟩) ?_
      refine k_if1 (tgt := 23) E dX6_join_18 (by decide) (fun c18 => ?_) (fun c18 => ?_)
      · obtain ⟨x2, hx2, rfl⟩ := in_ex (by decide) c18
        refine lv_iload E.1.1 E.1.2.1 dX6_join_23 (lv_at hl 4 rfl) ?_
        refine lv_iconst (v := nI 0) E.1.1 E.1.2.1 dX6_join_25 rfl ?_
        refine lv_iconst (v := nI 3) E.1.1 E.1.2.1 dX6_join_26 rfl ?_
        refine k_ri (va_runS (As := [.int way, .int (nI 0), .int (nI 3)]) (rest := []) E.1 (m_in l D cy L f H.size way (nI 0) (nI 3)) ⟨callB_of 3 E.1.2.2.2.2 (gd_own w3_43) rfl rfl rfl (E.1.2.2.2.2 _ w1_10) (E.1.2.2.2.2 _ w3_41) hd_X6_in (by rw [hR]; exact ⟨Nat.le_of_ble_eq_true rfl, Nat.le_of_ble_eq_true rfl⟩), E.1.2.2.2.2 _ w3_42⟩ (pw_pre E.2 hw) rfl rfl hl.1 rfl (lv_room (Nat.le_of_ble_eq_true rfl)) dX6_join_27 ⟨Nat.zero_le _, Nat.zero_le _⟩) ?_
        refine k_if1 (tgt := 36) E dX6_join_30 (by decide) (fun c30 => ?_) (fun c30 => ?_)
        · obtain ⟨wy, hwy, rfl⟩ := in_ex (by decide) c30
          have hS1 := (hMS x1 (by omega)).1
          have hS1a := hS1.1.1
          have hS1b := hS1.2.1
          have hS1c := hS1.2.2.1
          have hS2 := (hMS x2 (by omega)).1
          have hS2a := hS2.1.1
          have hS2b := hS2.2.1
          have hS2c := hS2.2.2.1
          have hz := tog hS1a hS1b hS2a hS2b
          refine lv_aload_n E.1.1 E.1.2.1 dX6_join_36 rfl (lv_at hl 0 rfl) ?_
          refine lv_aload_n E.1.1 E.1.2.1 dX6_join_37 rfl (lv_at hl 0 rfl) ?_
          refine lv_iload_n E.1.1 E.1.2.1 dX6_join_38 rfl (lv_at hl 2 rfl) ?_
          refine lv_iload_n E.1.1 E.1.2.1 dX6_join_39 rfl (lv_at hl 3 rfl) ?_
          refine k_ri (va_runV (As := [.int (nI x1), .int (nI x2)]) (rest := [.ref (A 0)]) E.1 (m_later l D cy L f H.size A base fr pb ns T P B rr G hA hTP x1 x2 (by omega) (by omega) h_o h_ts) ⟨callB_of 2 E.1.2.2.2.2 (gd_own w3_91) rfl rfl rfl (E.1.2.2.2.2 _ w1_10) (E.1.2.2.2.2 _ w3_88) hd_X6_later (by rw [hR]; exact ⟨Nat.le_of_ble_eq_true rfl, Nat.le_of_ble_eq_true rfl⟩), E.1.2.2.2.2 _ w3_90, E.1.2.2.2.2 _ ws_35⟩ (pw_preV (q := (RX6, TX6, 12)) E.2 hw h_o rfl) rfl rfl hl.1 rfl (lv_room (Nat.le_of_ble_eq_true rfl)) dX6_join_40 ⟨Nat.zero_le _, Nat.zero_le _⟩) ?_
          refine k_put (ty0 := tyX6) E inlX6 rfl tyX6_ok nmX6 5 (by decide) w2_237 rfl rfl hw [.int (nI base), .ref (A 1), .ref (A 2), .ref (A 3), .ref (A 4), .int (nI (max (T x1) (T x2))), .int (nI pb), .ref (A 5), .int (nI ns), .ref (A 6), .ref (A 7), .ref (A 8)] h_o (rfl) (rfl) (Nat.le_of_ble_eq_true rfl) rfl dX6_join_43 (fun f H locs h_o hfr hw => ?_)
          have h_ts := h_ts.kp hfr (Ne.symm n_o_ts)
          have h_ps := h_ps.kp hfr (Ne.symm n_o_ps)
          have h_bs := h_bs.kp hfr (Ne.symm n_o_bs)
          have h_rw := h_rw.kp hfr (Ne.symm n_o_rw)
          have h_gs := h_gs.kp hfr (Ne.symm n_o_gs)
          have h_fa := h_fa.kp hfr (Ne.symm n_o_fa)
          have h_ba := h_ba.kp hfr (Ne.symm n_o_ba)
          have h_it := h_it.kp hfr (Ne.symm n_o_it)
          have hF : ∀ b ∈ L, b ≠ (A 0) → b ≠ (A 1) → b ≠ (A 2) → b ≠ (A 3) → b ≠ (A 4) → b ≠ (A 5) → f b = f0 b := fun b hb h0 h1 h2 h3 h4 h5 => (hfr b h0).trans (hF b hb h0 h1 h2 h3 h4 h5)
          refine lv_aload_n E.1.1 E.1.2.1 dX6_join_46 rfl (lv_at hl 0 rfl) ?_
          refine lv_aload_n E.1.1 E.1.2.1 dX6_join_47 rfl (lv_at hl 0 rfl) ?_
          refine lv_iload_n E.1.1 E.1.2.1 dX6_join_48 rfl (lv_at hl 2 rfl) ?_
          refine lv_iload_n E.1.1 E.1.2.1 dX6_join_49 rfl (lv_at hl 3 rfl) ?_
          refine k_ri (va_runV (As := [.int (nI x1), .int (nI x2)]) (rest := [.ref (A 0)]) E.1 (m_together l D cy L f H.size A base (max (T x1) (T x2)) pb ns T P B rr G hA hTP x1 x2 (by omega) (by omega) h_o h_ps) ⟨callB_of 2 E.1.2.2.2.2 (gd_own w3_95) rfl rfl rfl (E.1.2.2.2.2 _ w1_10) (E.1.2.2.2.2 _ w3_92) hd_X6_together (by rw [hR]; exact ⟨Nat.le_of_ble_eq_true rfl, Nat.le_of_ble_eq_true rfl⟩), E.1.2.2.2.2 _ w3_94, E.1.2.2.2.2 _ ws_36⟩ (pw_preV (q := (RX6, TX6, 12)) E.2 hw h_o rfl) rfl rfl hl.1 rfl (lv_room (Nat.le_of_ble_eq_true rfl)) dX6_join_50 ⟨Nat.zero_le _, Nat.zero_le _⟩) ?_
          refine k_put (ty0 := tyX6) E inlX6 rfl tyX6_ok nmX6 6 (by decide) w2_238 rfl rfl hw [.int (nI base), .ref (A 1), .ref (A 2), .ref (A 3), .ref (A 4), .int (nI (max (T x1) (T x2))), .int (nI (P x1 / Nat.gcd (P x1) (P x2) * P x2)), .ref (A 5), .int (nI ns), .ref (A 6), .ref (A 7), .ref (A 8)] h_o (rfl) (rfl) (Nat.le_of_ble_eq_true rfl) rfl dX6_join_53 (fun f H locs h_o hfr hw => ?_)
          have h_ts := h_ts.kp hfr (Ne.symm n_o_ts)
          have h_ps := h_ps.kp hfr (Ne.symm n_o_ps)
          have h_bs := h_bs.kp hfr (Ne.symm n_o_bs)
          have h_rw := h_rw.kp hfr (Ne.symm n_o_rw)
          have h_gs := h_gs.kp hfr (Ne.symm n_o_gs)
          have h_fa := h_fa.kp hfr (Ne.symm n_o_fa)
          have h_ba := h_ba.kp hfr (Ne.symm n_o_ba)
          have h_it := h_it.kp hfr (Ne.symm n_o_it)
          have hF : ∀ b ∈ L, b ≠ (A 0) → b ≠ (A 1) → b ≠ (A 2) → b ≠ (A 3) → b ≠ (A 4) → b ≠ (A 5) → f b = f0 b := fun b hb h0 h1 h2 h3 h4 h5 => (hfr b h0).trans (hF b hb h0 h1 h2 h3 h4 h5)
          have hX : den (max (T x1) (T x2)) (P x1 / Nat.gcd (P x1) (P x2) * P x2) (rbx (fun n => jw wy (SS x1 n) (SS x2 n)) rr ((max (T x1) (T x2)) + (P x1 / Nat.gcd (P x1) (P x2) * P x2))) = fun n => jw wy (SS x1 n) (SS x2 n) := den_rbx rr (hz.1) (jw_ev wy hS1.1.2.1 hS2.1.2.1 hz.2.2.1 hz.2.2.2)
          rw [← rbx_0 (fun n => jw wy (SS x1 n) (SS x2 n)) rr] at h_rw
          refine lv_iconst (v := nI 0) E.1.1 E.1.2.1 dX6_join_56 rfl ?_
          refine lv_istore (lv' := [(5, .int (nI 0)), (0, .ref (A 0)), (1, .int (nI j)), (2, .int (nI x1)), (3, .int (nI x2)), (4, .int (nI wy))]) E.1.1 E.1.2.1 dX6_join_57 hl (by decide) rfl (fun ls hl => ?_)
          have lp59 : ∀ (k : Nat) (u : Nat) (f : Nat → va_E) (H : Heap) (locs : List Loc) (ls : Array Slot), ((max (T x1) (T x2)) + (P x1 / Nat.gcd (P x1) (P x2) * P x2) - u < k) → (u ≤ (max (T x1) (T x2)) + (P x1 / Nat.gcd (P x1) (P x2) * P x2)) → (cel L f (A 0) (.inr (6, [.int (nI base), .ref (A 1), .ref (A 2), .ref (A 3), .ref (A 4), .int (nI (max (T x1) (T x2))), .int (nI (P x1 / Nat.gcd (P x1) (P x2) * P x2)), .ref (A 5), .int (nI ns), .ref (A 6), .ref (A 7), .ref (A 8)]))) → (cel L f (A 1) (.inl (cy 0, 84, .inl (fun k => nI (T k))))) → (cel L f (A 2) (.inl (cy 0, 84, .inl (fun k => nI (P k))))) → (cel L f (A 3) (.inl (cy 1, 252, .inr (.inl (rw3 B))))) → (cel L f (A 4) (.inl (cy 2, 4096, .inl (fun k => b2i ((rbx (fun n => jw wy (SS x1 n) (SS x2 n)) rr u) k))))) → (cel L f (A 5) (.inl (cy 0, 325, .inl G))) → (cel L f (A 6) (.inl (cy 0, 65, .inl Fa))) → (cel L f (A 7) (.inl (cy 0, 2, .inl (fun k => nI (kb1 k))))) → (cel L f (A 8) (.inl (cy 2, 2, .inl (fun k => b2i (kp k))))) → (∀ b ∈ L, b ≠ (A 0) → b ≠ (A 1) → b ≠ (A 2) → b ≠ (A 3) → b ≠ (A 4) → b ≠ (A 5) → f b = f0 b) → (WW D (AW L sz) s.heap L f H locs) → (lv_has ls 8 [(5, .int (nI u)), (0, .ref (A 0)), (1, .int (nI j)), (2, .int (nI x1)), (3, .int (nI x2)), (4, .int (nI wy))]) → W p l e R s m args below meth c H locs 0 0 Q (F0 m 59 ls []) := by
            intro k
            induction k with
            | zero => intro _ _ _ _ _ hk; exact absurd hk (Nat.not_lt_zero _)
            | succ k ih59 =>
              intro u f H locs ls hk hu h_o h_ts h_ps h_bs h_rw h_gs h_fa h_ba h_it hF hw hl
              refine lv_iload E.1.1 E.1.2.1 dX6_join_59 (lv_at hl 0 rfl) ?_
              refine lv_aload_n E.1.1 E.1.2.1 dX6_join_61 rfl (lv_at hl 1 rfl) ?_
              refine k_get (v := .int (nI (max (T x1) (T x2)))) E inlX6 rfl 5 (by decide) w2_237 rfl hw h_o rfl dX6_join_62 ?_
              refine lv_aload_n E.1.1 E.1.2.1 dX6_join_65 rfl (lv_at hl 1 rfl) ?_
              refine k_get (v := .int (nI (P x1 / Nat.gcd (P x1) (P x2) * P x2))) E inlX6 rfl 6 (by decide) w2_238 rfl hw h_o rfl dX6_join_66 ?_
              refine k_add E dX6_join_69 ?_
              refine k_ge (tgt := 187) E dX6_join_70 (by decide) (by omega) (by omega) (fun c70 => ?_) (fun c70 => ?_)
              · rw [show u = (max (T x1) (T x2)) + (P x1 / Nat.gcd (P x1) (P x2) * P x2) by omega] at h_rw
                refine lv_aload_n E.1.1 E.1.2.1 dX6_join_187 rfl (lv_at hl 1 rfl) ?_
                refine lv_iload_n E.1.1 E.1.2.1 dX6_join_188 rfl (lv_at hl 2 rfl) ?_
                refine k_mi hw (va_runV (As := [.int (nI j)]) (rest := []) E.1 (m_keep l D cy L f H.size A base (max (T x1) (T x2)) (P x1 / Nat.gcd (P x1) (P x2) * P x2) ns T P B (rbx (fun n => jw wy (SS x1 n) (SS x2 n)) rr ((max (T x1) (T x2)) + (P x1 / Nat.gcd (P x1) (P x2) * P x2))) G hA hTP j (by omega) (by omega) (by omega) hz.1 (by omega) h_o h_ts h_ps h_bs h_rw h_gs) ⟨callB_of 1 E.1.2.2.2.2 (gd_own w3_47) rfl rfl rfl (E.1.2.2.2.2 _ w1_10) (E.1.2.2.2.2 _ w3_44) hd_X6_keep (by rw [hR]; exact ⟨Nat.le_of_ble_eq_true rfl, Nat.le_of_ble_eq_true rfl⟩), E.1.2.2.2.2 _ w3_46, E.1.2.2.2.2 _ ws_25⟩ (pw_preV (q := (RX6, TX6, 12)) E.2 hw h_o rfl) rfl rfl hl.1 rfl (lv_room (Nat.le_of_ble_eq_true rfl)) dX6_join_189 (by rw [hR]; exact ⟨Nat.le_of_ble_eq_true rfl, Nat.le_of_ble_eq_true rfl⟩)) (fun r L1 f H locs hp hw => ?_)
                obtain ⟨hL1, hfr, fr2, pb2, ns2, T2, P2, B2, rr2, G2, h_o, h_ts, h_ps, h_bs, h_rw, h_gs, hTP2, hag, hcase⟩ := hp
                have hL1 : L = L1 := hL1
                subst hL1
                have h_o : cel L f (A 0) (.inr (6, [.int (nI base), .ref (A 1), .ref (A 2), .ref (A 3), .ref (A 4), .int (nI fr2), .int (nI pb2), .ref (A 5), .int (nI ns2), .ref (A 6), .ref (A 7), .ref (A 8)])) := h_o
                have h_ts : cel L f (A 1) (.inl (cy 0, 84, .inl (fun k => nI (T2 k)))) := h_ts
                have h_ps : cel L f (A 2) (.inl (cy 0, 84, .inl (fun k => nI (P2 k)))) := h_ps
                have h_bs : cel L f (A 3) (.inl (cy 1, 252, .inr (.inl (rw3 B2)))) := h_bs
                have h_rw : cel L f (A 4) (.inl (cy 2, 4096, .inl (fun k => b2i (rr2 k)))) := h_rw
                have h_gs : cel L f (A 5) (.inl (cy 0, 325, .inl G2)) := h_gs
                have h_fa := h_fa.keep (fun _ h => h) (hfr _ h_fa.1 (Ne.symm n_o_fa) (Ne.symm n_ts_fa) (Ne.symm n_ps_fa) (Ne.symm n_bs_fa) (Ne.symm n_rw_fa) (Ne.symm n_gs_fa))
                have h_ba := h_ba.keep (fun _ h => h) (hfr _ h_ba.1 (Ne.symm n_o_ba) (Ne.symm n_ts_ba) (Ne.symm n_ps_ba) (Ne.symm n_bs_ba) (Ne.symm n_rw_ba) (Ne.symm n_gs_ba))
                have h_it := h_it.keep (fun _ h => h) (hfr _ h_it.1 (Ne.symm n_o_it) (Ne.symm n_ts_it) (Ne.symm n_ps_it) (Ne.symm n_bs_it) (Ne.symm n_rw_it) (Ne.symm n_gs_it))
                have hF : ∀ b ∈ L, b ≠ (A 0) → b ≠ (A 1) → b ≠ (A 2) → b ≠ (A 3) → b ≠ (A 4) → b ≠ (A 5) → f b = f0 b := fun b hb h0 h1 h2 h3 h4 h5 => (hfr b (hLs b hb) h0 h1 h2 h3 h4 h5).trans (hF b hb h0 h1 h2 h3 h4 h5)
                rw [hX] at hcase
                exact k_miret E hQ hlk hr hw (Nat.le_of_ble_eq_true rfl) (Nat.le_of_ble_eq_true rfl) (⟨rfl, fun b hb h => hF b hb (h 0 (by decide)) (h 1 (by decide)) (h 2 (by decide)) (h 3 (by decide)) (h 4 (by decide)) (h 5 (by decide)), by
      obtain ⟨SS2, hW2, hH⟩ := mo_hold hB hMS hMK ⟨h_o, h_ts, h_ps, h_bs, h_rw, h_gs, h_fa, h_ba, h_it⟩ hTP2 (by omega) hag hcase
      exact ⟨SS2, hW2, sp_join_ok hj hx1 hx2 hwy hH⟩⟩) dX6_join_192
              · refine lv_aload_n E.1.1 E.1.2.1 dX6_join_73 rfl (lv_at hl 1 rfl) ?_
                refine lv_iload_n E.1.1 E.1.2.1 dX6_join_74 rfl (lv_at hl 3 rfl) ?_
                refine lv_iload E.1.1 E.1.2.1 dX6_join_75 (lv_at hl 0 rfl) ?_
                refine k_ri (va_runV (As := [.int (nI x1), .int (nI u)]) (rest := []) E.1 (m_isInS l D cy L f H.size A base (max (T x1) (T x2)) (P x1 / Nat.gcd (P x1) (P x2) * P x2) ns T P B (rbx (fun n => jw wy (SS x1 n) (SS x2 n)) rr u) G hA hTP x1 (u) (SS x1) hS1 (by omega) (by omega) h_o h_ts h_ps h_bs) ⟨callB_of 2 E.1.2.2.2.2 (gd_own w3_79) rfl rfl rfl (E.1.2.2.2.2 _ w1_10) (E.1.2.2.2.2 _ w3_76) hd_X6_isIn (by rw [hR]; exact ⟨Nat.le_of_ble_eq_true rfl, Nat.le_of_ble_eq_true rfl⟩), E.1.2.2.2.2 _ w3_78, E.1.2.2.2.2 _ ws_33⟩ (pw_preV (q := (RX6, TX6, 12)) E.2 hw h_o rfl) rfl rfl hl.1 rfl (lv_room (Nat.le_of_ble_eq_true rfl)) dX6_join_77 ⟨Nat.zero_le _, Nat.zero_le _⟩) ?_
                refine lv_istore (lv' := [(6, .int (b2i (SS x1 u))), (5, .int (nI u)), (0, .ref (A 0)), (1, .int (nI j)), (2, .int (nI x1)), (3, .int (nI x2)), (4, .int (nI wy))]) E.1.1 E.1.2.1 dX6_join_80 hl (by decide) rfl (fun ls hl => ?_)
                refine lv_aload_n E.1.1 E.1.2.1 dX6_join_82 rfl (lv_at hl 2 rfl) ?_
                refine lv_iload_n E.1.1 E.1.2.1 dX6_join_83 rfl (lv_at hl 5 rfl) ?_
                refine lv_iload E.1.1 E.1.2.1 dX6_join_84 (lv_at hl 1 rfl) ?_
                refine k_ri (va_runV (As := [.int (nI x2), .int (nI u)]) (rest := []) E.1 (m_isInS l D cy L f H.size A base (max (T x1) (T x2)) (P x1 / Nat.gcd (P x1) (P x2) * P x2) ns T P B (rbx (fun n => jw wy (SS x1 n) (SS x2 n)) rr u) G hA hTP x2 (u) (SS x2) hS2 (by omega) (by omega) h_o h_ts h_ps h_bs) ⟨callB_of 2 E.1.2.2.2.2 (gd_own w3_79) rfl rfl rfl (E.1.2.2.2.2 _ w1_10) (E.1.2.2.2.2 _ w3_76) hd_X6_isIn (by rw [hR]; exact ⟨Nat.le_of_ble_eq_true rfl, Nat.le_of_ble_eq_true rfl⟩), E.1.2.2.2.2 _ w3_78, E.1.2.2.2.2 _ ws_33⟩ (pw_preV (q := (RX6, TX6, 12)) E.2 hw h_o rfl) rfl rfl hl.1 rfl (lv_room (Nat.le_of_ble_eq_true rfl)) dX6_join_86 ⟨Nat.zero_le _, Nat.zero_le _⟩) ?_
                refine lv_istore (lv' := [(7, .int (b2i (SS x2 u))), (6, .int (b2i (SS x1 u))), (5, .int (nI u)), (0, .ref (A 0)), (1, .int (nI j)), (2, .int (nI x1)), (3, .int (nI x2)), (4, .int (nI wy))]) E.1.1 E.1.2.1 dX6_join_89 hl (by decide) rfl (fun ls hl => ?_)
                refine lv_aload_n E.1.1 E.1.2.1 dX6_join_91 rfl (lv_at hl 3 rfl) ?_
                refine k_get (v := .ref (A 4)) E inlX6 rfl 4 (by decide) w2_236 rfl hw h_o rfl dX6_join_92 ?_
                refine lv_iload E.1.1 E.1.2.1 dX6_join_95 (lv_at hl 2 rfl) ?_
                refine lv_iload E.1.1 E.1.2.1 dX6_join_97 (lv_at hl 7 rfl) ?_
                refine k_z1 (tgt := 120) E dX6_join_99 (by decide) (by omega) (fun c99 => ?_) (fun c99 => ?_)
                · refine lv_iload E.1.1 E.1.2.1 dX6_join_120 (lv_at hl 7 rfl) ?_
                  refine lv_iconst (v := nI 1) E.1.1 E.1.2.1 dX6_join_122 rfl ?_
                  refine k_ne (tgt := 144) E dX6_join_123 (by decide) (by omega) (by omega) (fun c123 => ?_) (fun c123 => ?_)
                  · refine lv_iload E.1.1 E.1.2.1 dX6_join_144 (lv_at hl 7 rfl) ?_
                    refine lv_iconst (v := nI 2) E.1.1 E.1.2.1 dX6_join_146 rfl ?_
                    refine k_ne (tgt := 168) E dX6_join_147 (by decide) (by omega) (by omega) (fun c147 => ?_) (fun c147 => ?_)
                    · refine lv_iload E.1.1 E.1.2.1 dX6_join_168 (lv_at hl 1 rfl) ?_
                      refine lv_iload E.1.1 E.1.2.1 dX6_join_170 (lv_at hl 0 rfl) ?_
                      refine k_beq (tgt := 179) E dX6_join_172 (by decide) (fun c172 => ?_) (fun c172 => ?_)
                      · refine lv_iconst (v := nI 0) E.1.1 E.1.2.1 dX6_join_179 rfl ?_
                        refine W.eq (g2 := F0 m 180 ls (.int (b2i false) :: .int (nI u) :: .ref (A 4) :: [])) rfl ?_
                        refine k_zast E hw (fun k => b2i (rbx (fun n => jw wy (SS x1 n) (SS x2 n)) rr (u + 1) k)) h_rw (by omega) (by omega) (fun i _ => rbx_v (by show jw wy (SS x1 u) (SS x2 u) = _; unfold jw; simp [c172, c147, c123, c99]) i) dX6_join_180 (fun f H locs h_rw hfr hw => ?_)
                        have h_o := h_o.kp hfr n_o_rw
                        have h_ts := h_ts.kp hfr n_ts_rw
                        have h_ps := h_ps.kp hfr n_ps_rw
                        have h_bs := h_bs.kp hfr n_bs_rw
                        have h_gs := h_gs.kp hfr (Ne.symm n_rw_gs)
                        have h_fa := h_fa.kp hfr (Ne.symm n_rw_fa)
                        have h_ba := h_ba.kp hfr (Ne.symm n_rw_ba)
                        have h_it := h_it.kp hfr (Ne.symm n_rw_it)
                        have hF : ∀ b ∈ L, b ≠ (A 0) → b ≠ (A 1) → b ≠ (A 2) → b ≠ (A 3) → b ≠ (A 4) → b ≠ (A 5) → f b = f0 b := fun b hb h0 h1 h2 h3 h4 h5 => (hfr b h4).trans (hF b hb h0 h1 h2 h3 h4 h5)
                        refine lv_iinc (v := nI (u + 1)) (lv' := [(5, .int (nI (u + 1))), (7, .int (b2i (SS x2 u))), (6, .int (b2i (SS x1 u))), (0, .ref (A 0)), (1, .int (nI j)), (2, .int (nI x1)), (3, .int (nI x2)), (4, .int (nI wy))]) E.1.1 E.1.2.1 dX6_join_181 hl (k := 2) rfl (nI_1 _) (by decide) rfl (fun ls hl => ?_)
                        refine lv_goto (tgt := 59) E.1.1 E.1.2.1 dX6_join_184 (by decide) ?_
                        exact ih59  (u + 1) f H locs ls (by omega) (by omega) h_o h_ts h_ps h_bs h_rw h_gs h_fa h_ba h_it hF hw (lv_sub hl [0, 3, 4, 5, 6, 7] rfl)
                      · refine lv_iconst (v := nI 1) E.1.1 E.1.2.1 dX6_join_175 rfl ?_
                        refine lv_goto (tgt := 180) E.1.1 E.1.2.1 dX6_join_176 (by decide) ?_
                        refine W.eq (g2 := F0 m 180 ls (.int (b2i true) :: .int (nI u) :: .ref (A 4) :: [])) rfl ?_
                        refine k_zast E hw (fun k => b2i (rbx (fun n => jw wy (SS x1 n) (SS x2 n)) rr (u + 1) k)) h_rw (by omega) (by omega) (fun i _ => rbx_v (by show jw wy (SS x1 u) (SS x2 u) = _; unfold jw; simp [c172, c147, c123, c99]) i) dX6_join_180 (fun f H locs h_rw hfr hw => ?_)
                        have h_o := h_o.kp hfr n_o_rw
                        have h_ts := h_ts.kp hfr n_ts_rw
                        have h_ps := h_ps.kp hfr n_ps_rw
                        have h_bs := h_bs.kp hfr n_bs_rw
                        have h_gs := h_gs.kp hfr (Ne.symm n_rw_gs)
                        have h_fa := h_fa.kp hfr (Ne.symm n_rw_fa)
                        have h_ba := h_ba.kp hfr (Ne.symm n_rw_ba)
                        have h_it := h_it.kp hfr (Ne.symm n_rw_it)
                        have hF : ∀ b ∈ L, b ≠ (A 0) → b ≠ (A 1) → b ≠ (A 2) → b ≠ (A 3) → b ≠ (A 4) → b ≠ (A 5) → f b = f0 b := fun b hb h0 h1 h2 h3 h4 h5 => (hfr b h4).trans (hF b hb h0 h1 h2 h3 h4 h5)
                        refine lv_iinc (v := nI (u + 1)) (lv' := [(5, .int (nI (u + 1))), (7, .int (b2i (SS x2 u))), (6, .int (b2i (SS x1 u))), (0, .ref (A 0)), (1, .int (nI j)), (2, .int (nI x1)), (3, .int (nI x2)), (4, .int (nI wy))]) E.1.1 E.1.2.1 dX6_join_181 hl (k := 2) rfl (nI_1 _) (by decide) rfl (fun ls hl => ?_)
                        refine lv_goto (tgt := 59) E.1.1 E.1.2.1 dX6_join_184 (by decide) ?_
                        exact ih59  (u + 1) f H locs ls (by omega) (by omega) h_o h_ts h_ps h_bs h_rw h_gs h_fa h_ba h_it hF hw (lv_sub hl [0, 3, 4, 5, 6, 7] rfl)
                    · refine lv_iload E.1.1 E.1.2.1 dX6_join_150 (lv_at hl 1 rfl) ?_
                      refine k_if0 (tgt := 164) E dX6_join_152 (by decide) (fun c152 => ?_) (fun c152 => ?_)
                      · refine lv_iconst (v := nI 0) E.1.1 E.1.2.1 dX6_join_164 rfl ?_
                        refine lv_goto (tgt := 180) E.1.1 E.1.2.1 dX6_join_165 (by decide) ?_
                        refine W.eq (g2 := F0 m 180 ls (.int (b2i false) :: .int (nI u) :: .ref (A 4) :: [])) rfl ?_
                        refine k_zast E hw (fun k => b2i (rbx (fun n => jw wy (SS x1 n) (SS x2 n)) rr (u + 1) k)) h_rw (by omega) (by omega) (fun i _ => rbx_v (by show jw wy (SS x1 u) (SS x2 u) = _; unfold jw; simp [c152, c147, c123, c99]) i) dX6_join_180 (fun f H locs h_rw hfr hw => ?_)
                        have h_o := h_o.kp hfr n_o_rw
                        have h_ts := h_ts.kp hfr n_ts_rw
                        have h_ps := h_ps.kp hfr n_ps_rw
                        have h_bs := h_bs.kp hfr n_bs_rw
                        have h_gs := h_gs.kp hfr (Ne.symm n_rw_gs)
                        have h_fa := h_fa.kp hfr (Ne.symm n_rw_fa)
                        have h_ba := h_ba.kp hfr (Ne.symm n_rw_ba)
                        have h_it := h_it.kp hfr (Ne.symm n_rw_it)
                        have hF : ∀ b ∈ L, b ≠ (A 0) → b ≠ (A 1) → b ≠ (A 2) → b ≠ (A 3) → b ≠ (A 4) → b ≠ (A 5) → f b = f0 b := fun b hb h0 h1 h2 h3 h4 h5 => (hfr b h4).trans (hF b hb h0 h1 h2 h3 h4 h5)
                        refine lv_iinc (v := nI (u + 1)) (lv' := [(5, .int (nI (u + 1))), (7, .int (b2i (SS x2 u))), (6, .int (b2i (SS x1 u))), (0, .ref (A 0)), (1, .int (nI j)), (2, .int (nI x1)), (3, .int (nI x2)), (4, .int (nI wy))]) E.1.1 E.1.2.1 dX6_join_181 hl (k := 2) rfl (nI_1 _) (by decide) rfl (fun ls hl => ?_)
                        refine lv_goto (tgt := 59) E.1.1 E.1.2.1 dX6_join_184 (by decide) ?_
                        exact ih59  (u + 1) f H locs ls (by omega) (by omega) h_o h_ts h_ps h_bs h_rw h_gs h_fa h_ba h_it hF hw (lv_sub hl [0, 3, 4, 5, 6, 7] rfl)
                      · refine lv_iload E.1.1 E.1.2.1 dX6_join_155 (lv_at hl 0 rfl) ?_
                        refine k_if1 (tgt := 164) E dX6_join_157 (by decide) (fun c157 => ?_) (fun c157 => ?_)
                        · refine lv_iconst (v := nI 0) E.1.1 E.1.2.1 dX6_join_164 rfl ?_
                          refine lv_goto (tgt := 180) E.1.1 E.1.2.1 dX6_join_165 (by decide) ?_
                          refine W.eq (g2 := F0 m 180 ls (.int (b2i false) :: .int (nI u) :: .ref (A 4) :: [])) rfl ?_
                          refine k_zast E hw (fun k => b2i (rbx (fun n => jw wy (SS x1 n) (SS x2 n)) rr (u + 1) k)) h_rw (by omega) (by omega) (fun i _ => rbx_v (by show jw wy (SS x1 u) (SS x2 u) = _; unfold jw; simp [c157, c152, c147, c123, c99]) i) dX6_join_180 (fun f H locs h_rw hfr hw => ?_)
                          have h_o := h_o.kp hfr n_o_rw
                          have h_ts := h_ts.kp hfr n_ts_rw
                          have h_ps := h_ps.kp hfr n_ps_rw
                          have h_bs := h_bs.kp hfr n_bs_rw
                          have h_gs := h_gs.kp hfr (Ne.symm n_rw_gs)
                          have h_fa := h_fa.kp hfr (Ne.symm n_rw_fa)
                          have h_ba := h_ba.kp hfr (Ne.symm n_rw_ba)
                          have h_it := h_it.kp hfr (Ne.symm n_rw_it)
                          have hF : ∀ b ∈ L, b ≠ (A 0) → b ≠ (A 1) → b ≠ (A 2) → b ≠ (A 3) → b ≠ (A 4) → b ≠ (A 5) → f b = f0 b := fun b hb h0 h1 h2 h3 h4 h5 => (hfr b h4).trans (hF b hb h0 h1 h2 h3 h4 h5)
                          refine lv_iinc (v := nI (u + 1)) (lv' := [(5, .int (nI (u + 1))), (7, .int (b2i (SS x2 u))), (6, .int (b2i (SS x1 u))), (0, .ref (A 0)), (1, .int (nI j)), (2, .int (nI x1)), (3, .int (nI x2)), (4, .int (nI wy))]) E.1.1 E.1.2.1 dX6_join_181 hl (k := 2) rfl (nI_1 _) (by decide) rfl (fun ls hl => ?_)
                          refine lv_goto (tgt := 59) E.1.1 E.1.2.1 dX6_join_184 (by decide) ?_
                          exact ih59  (u + 1) f H locs ls (by omega) (by omega) h_o h_ts h_ps h_bs h_rw h_gs h_fa h_ba h_it hF hw (lv_sub hl [0, 3, 4, 5, 6, 7] rfl)
                        · refine lv_iconst (v := nI 1) E.1.1 E.1.2.1 dX6_join_160 rfl ?_
                          refine lv_goto (tgt := 180) E.1.1 E.1.2.1 dX6_join_161 (by decide) ?_
                          refine W.eq (g2 := F0 m 180 ls (.int (b2i true) :: .int (nI u) :: .ref (A 4) :: [])) rfl ?_
                          refine k_zast E hw (fun k => b2i (rbx (fun n => jw wy (SS x1 n) (SS x2 n)) rr (u + 1) k)) h_rw (by omega) (by omega) (fun i _ => rbx_v (by show jw wy (SS x1 u) (SS x2 u) = _; unfold jw; simp [c157, c152, c147, c123, c99]) i) dX6_join_180 (fun f H locs h_rw hfr hw => ?_)
                          have h_o := h_o.kp hfr n_o_rw
                          have h_ts := h_ts.kp hfr n_ts_rw
                          have h_ps := h_ps.kp hfr n_ps_rw
                          have h_bs := h_bs.kp hfr n_bs_rw
                          have h_gs := h_gs.kp hfr (Ne.symm n_rw_gs)
                          have h_fa := h_fa.kp hfr (Ne.symm n_rw_fa)
                          have h_ba := h_ba.kp hfr (Ne.symm n_rw_ba)
                          have h_it := h_it.kp hfr (Ne.symm n_rw_it)
                          have hF : ∀ b ∈ L, b ≠ (A 0) → b ≠ (A 1) → b ≠ (A 2) → b ≠ (A 3) → b ≠ (A 4) → b ≠ (A 5) → f b = f0 b := fun b hb h0 h1 h2 h3 h4 h5 => (hfr b h4).trans (hF b hb h0 h1 h2 h3 h4 h5)
                          refine lv_iinc (v := nI (u + 1)) (lv' := [(5, .int (nI (u + 1))), (7, .int (b2i (SS x2 u))), (6, .int (b2i (SS x1 u))), (0, .ref (A 0)), (1, .int (nI j)), (2, .int (nI x1)), (3, .int (nI x2)), (4, .int (nI wy))]) E.1.1 E.1.2.1 dX6_join_181 hl (k := 2) rfl (nI_1 _) (by decide) rfl (fun ls hl => ?_)
                          refine lv_goto (tgt := 59) E.1.1 E.1.2.1 dX6_join_184 (by decide) ?_
                          exact ih59  (u + 1) f H locs ls (by omega) (by omega) h_o h_ts h_ps h_bs h_rw h_gs h_fa h_ba h_it hF hw (lv_sub hl [0, 3, 4, 5, 6, 7] rfl)
                  · refine lv_iload E.1.1 E.1.2.1 dX6_join_126 (lv_at hl 1 rfl) ?_
                    refine k_if0 (tgt := 140) E dX6_join_128 (by decide) (fun c128 => ?_) (fun c128 => ?_)
                    · refine lv_iconst (v := nI 0) E.1.1 E.1.2.1 dX6_join_140 rfl ?_
                      refine lv_goto (tgt := 180) E.1.1 E.1.2.1 dX6_join_141 (by decide) ?_
                      refine W.eq (g2 := F0 m 180 ls (.int (b2i false) :: .int (nI u) :: .ref (A 4) :: [])) rfl ?_
                      refine k_zast E hw (fun k => b2i (rbx (fun n => jw wy (SS x1 n) (SS x2 n)) rr (u + 1) k)) h_rw (by omega) (by omega) (fun i _ => rbx_v (by show jw wy (SS x1 u) (SS x2 u) = _; unfold jw; simp [c128, c123, c99]) i) dX6_join_180 (fun f H locs h_rw hfr hw => ?_)
                      have h_o := h_o.kp hfr n_o_rw
                      have h_ts := h_ts.kp hfr n_ts_rw
                      have h_ps := h_ps.kp hfr n_ps_rw
                      have h_bs := h_bs.kp hfr n_bs_rw
                      have h_gs := h_gs.kp hfr (Ne.symm n_rw_gs)
                      have h_fa := h_fa.kp hfr (Ne.symm n_rw_fa)
                      have h_ba := h_ba.kp hfr (Ne.symm n_rw_ba)
                      have h_it := h_it.kp hfr (Ne.symm n_rw_it)
                      have hF : ∀ b ∈ L, b ≠ (A 0) → b ≠ (A 1) → b ≠ (A 2) → b ≠ (A 3) → b ≠ (A 4) → b ≠ (A 5) → f b = f0 b := fun b hb h0 h1 h2 h3 h4 h5 => (hfr b h4).trans (hF b hb h0 h1 h2 h3 h4 h5)
                      refine lv_iinc (v := nI (u + 1)) (lv' := [(5, .int (nI (u + 1))), (7, .int (b2i (SS x2 u))), (6, .int (b2i (SS x1 u))), (0, .ref (A 0)), (1, .int (nI j)), (2, .int (nI x1)), (3, .int (nI x2)), (4, .int (nI wy))]) E.1.1 E.1.2.1 dX6_join_181 hl (k := 2) rfl (nI_1 _) (by decide) rfl (fun ls hl => ?_)
                      refine lv_goto (tgt := 59) E.1.1 E.1.2.1 dX6_join_184 (by decide) ?_
                      exact ih59  (u + 1) f H locs ls (by omega) (by omega) h_o h_ts h_ps h_bs h_rw h_gs h_fa h_ba h_it hF hw (lv_sub hl [0, 3, 4, 5, 6, 7] rfl)
                    · refine lv_iload E.1.1 E.1.2.1 dX6_join_131 (lv_at hl 0 rfl) ?_
                      refine k_if0 (tgt := 140) E dX6_join_133 (by decide) (fun c133 => ?_) (fun c133 => ?_)
                      · refine lv_iconst (v := nI 0) E.1.1 E.1.2.1 dX6_join_140 rfl ?_
                        refine lv_goto (tgt := 180) E.1.1 E.1.2.1 dX6_join_141 (by decide) ?_
                        refine W.eq (g2 := F0 m 180 ls (.int (b2i false) :: .int (nI u) :: .ref (A 4) :: [])) rfl ?_
                        refine k_zast E hw (fun k => b2i (rbx (fun n => jw wy (SS x1 n) (SS x2 n)) rr (u + 1) k)) h_rw (by omega) (by omega) (fun i _ => rbx_v (by show jw wy (SS x1 u) (SS x2 u) = _; unfold jw; simp [c133, c128, c123, c99]) i) dX6_join_180 (fun f H locs h_rw hfr hw => ?_)
                        have h_o := h_o.kp hfr n_o_rw
                        have h_ts := h_ts.kp hfr n_ts_rw
                        have h_ps := h_ps.kp hfr n_ps_rw
                        have h_bs := h_bs.kp hfr n_bs_rw
                        have h_gs := h_gs.kp hfr (Ne.symm n_rw_gs)
                        have h_fa := h_fa.kp hfr (Ne.symm n_rw_fa)
                        have h_ba := h_ba.kp hfr (Ne.symm n_rw_ba)
                        have h_it := h_it.kp hfr (Ne.symm n_rw_it)
                        have hF : ∀ b ∈ L, b ≠ (A 0) → b ≠ (A 1) → b ≠ (A 2) → b ≠ (A 3) → b ≠ (A 4) → b ≠ (A 5) → f b = f0 b := fun b hb h0 h1 h2 h3 h4 h5 => (hfr b h4).trans (hF b hb h0 h1 h2 h3 h4 h5)
                        refine lv_iinc (v := nI (u + 1)) (lv' := [(5, .int (nI (u + 1))), (7, .int (b2i (SS x2 u))), (6, .int (b2i (SS x1 u))), (0, .ref (A 0)), (1, .int (nI j)), (2, .int (nI x1)), (3, .int (nI x2)), (4, .int (nI wy))]) E.1.1 E.1.2.1 dX6_join_181 hl (k := 2) rfl (nI_1 _) (by decide) rfl (fun ls hl => ?_)
                        refine lv_goto (tgt := 59) E.1.1 E.1.2.1 dX6_join_184 (by decide) ?_
                        exact ih59  (u + 1) f H locs ls (by omega) (by omega) h_o h_ts h_ps h_bs h_rw h_gs h_fa h_ba h_it hF hw (lv_sub hl [0, 3, 4, 5, 6, 7] rfl)
                      · refine lv_iconst (v := nI 1) E.1.1 E.1.2.1 dX6_join_136 rfl ?_
                        refine lv_goto (tgt := 180) E.1.1 E.1.2.1 dX6_join_137 (by decide) ?_
                        refine W.eq (g2 := F0 m 180 ls (.int (b2i true) :: .int (nI u) :: .ref (A 4) :: [])) rfl ?_
                        refine k_zast E hw (fun k => b2i (rbx (fun n => jw wy (SS x1 n) (SS x2 n)) rr (u + 1) k)) h_rw (by omega) (by omega) (fun i _ => rbx_v (by show jw wy (SS x1 u) (SS x2 u) = _; unfold jw; simp [c133, c128, c123, c99]) i) dX6_join_180 (fun f H locs h_rw hfr hw => ?_)
                        have h_o := h_o.kp hfr n_o_rw
                        have h_ts := h_ts.kp hfr n_ts_rw
                        have h_ps := h_ps.kp hfr n_ps_rw
                        have h_bs := h_bs.kp hfr n_bs_rw
                        have h_gs := h_gs.kp hfr (Ne.symm n_rw_gs)
                        have h_fa := h_fa.kp hfr (Ne.symm n_rw_fa)
                        have h_ba := h_ba.kp hfr (Ne.symm n_rw_ba)
                        have h_it := h_it.kp hfr (Ne.symm n_rw_it)
                        have hF : ∀ b ∈ L, b ≠ (A 0) → b ≠ (A 1) → b ≠ (A 2) → b ≠ (A 3) → b ≠ (A 4) → b ≠ (A 5) → f b = f0 b := fun b hb h0 h1 h2 h3 h4 h5 => (hfr b h4).trans (hF b hb h0 h1 h2 h3 h4 h5)
                        refine lv_iinc (v := nI (u + 1)) (lv' := [(5, .int (nI (u + 1))), (7, .int (b2i (SS x2 u))), (6, .int (b2i (SS x1 u))), (0, .ref (A 0)), (1, .int (nI j)), (2, .int (nI x1)), (3, .int (nI x2)), (4, .int (nI wy))]) E.1.1 E.1.2.1 dX6_join_181 hl (k := 2) rfl (nI_1 _) (by decide) rfl (fun ls hl => ?_)
                        refine lv_goto (tgt := 59) E.1.1 E.1.2.1 dX6_join_184 (by decide) ?_
                        exact ih59  (u + 1) f H locs ls (by omega) (by omega) h_o h_ts h_ps h_bs h_rw h_gs h_fa h_ba h_it hF hw (lv_sub hl [0, 3, 4, 5, 6, 7] rfl)
                · refine lv_iload E.1.1 E.1.2.1 dX6_join_102 (lv_at hl 1 rfl) ?_
                  refine k_if1 (tgt := 112) E dX6_join_104 (by decide) (fun c104 => ?_) (fun c104 => ?_)
                  · refine lv_iconst (v := nI 1) E.1.1 E.1.2.1 dX6_join_112 rfl ?_
                    refine lv_goto (tgt := 180) E.1.1 E.1.2.1 dX6_join_113 (by decide) ?_
                    refine W.eq (g2 := F0 m 180 ls (.int (b2i true) :: .int (nI u) :: .ref (A 4) :: [])) rfl ?_
                    refine k_zast E hw (fun k => b2i (rbx (fun n => jw wy (SS x1 n) (SS x2 n)) rr (u + 1) k)) h_rw (by omega) (by omega) (fun i _ => rbx_v (by show jw wy (SS x1 u) (SS x2 u) = _; unfold jw; simp [c104, c99]) i) dX6_join_180 (fun f H locs h_rw hfr hw => ?_)
                    have h_o := h_o.kp hfr n_o_rw
                    have h_ts := h_ts.kp hfr n_ts_rw
                    have h_ps := h_ps.kp hfr n_ps_rw
                    have h_bs := h_bs.kp hfr n_bs_rw
                    have h_gs := h_gs.kp hfr (Ne.symm n_rw_gs)
                    have h_fa := h_fa.kp hfr (Ne.symm n_rw_fa)
                    have h_ba := h_ba.kp hfr (Ne.symm n_rw_ba)
                    have h_it := h_it.kp hfr (Ne.symm n_rw_it)
                    have hF : ∀ b ∈ L, b ≠ (A 0) → b ≠ (A 1) → b ≠ (A 2) → b ≠ (A 3) → b ≠ (A 4) → b ≠ (A 5) → f b = f0 b := fun b hb h0 h1 h2 h3 h4 h5 => (hfr b h4).trans (hF b hb h0 h1 h2 h3 h4 h5)
                    refine lv_iinc (v := nI (u + 1)) (lv' := [(5, .int (nI (u + 1))), (7, .int (b2i (SS x2 u))), (6, .int (b2i (SS x1 u))), (0, .ref (A 0)), (1, .int (nI j)), (2, .int (nI x1)), (3, .int (nI x2)), (4, .int (nI wy))]) E.1.1 E.1.2.1 dX6_join_181 hl (k := 2) rfl (nI_1 _) (by decide) rfl (fun ls hl => ?_)
                    refine lv_goto (tgt := 59) E.1.1 E.1.2.1 dX6_join_184 (by decide) ?_
                    exact ih59  (u + 1) f H locs ls (by omega) (by omega) h_o h_ts h_ps h_bs h_rw h_gs h_fa h_ba h_it hF hw (lv_sub hl [0, 3, 4, 5, 6, 7] rfl)
                  · refine lv_iload E.1.1 E.1.2.1 dX6_join_107 (lv_at hl 0 rfl) ?_
                    refine k_if0 (tgt := 116) E dX6_join_109 (by decide) (fun c109 => ?_) (fun c109 => ?_)
                    · refine lv_iconst (v := nI 0) E.1.1 E.1.2.1 dX6_join_116 rfl ?_
                      refine lv_goto (tgt := 180) E.1.1 E.1.2.1 dX6_join_117 (by decide) ?_
                      refine W.eq (g2 := F0 m 180 ls (.int (b2i false) :: .int (nI u) :: .ref (A 4) :: [])) rfl ?_
                      refine k_zast E hw (fun k => b2i (rbx (fun n => jw wy (SS x1 n) (SS x2 n)) rr (u + 1) k)) h_rw (by omega) (by omega) (fun i _ => rbx_v (by show jw wy (SS x1 u) (SS x2 u) = _; unfold jw; simp [c109, c104, c99]) i) dX6_join_180 (fun f H locs h_rw hfr hw => ?_)
                      have h_o := h_o.kp hfr n_o_rw
                      have h_ts := h_ts.kp hfr n_ts_rw
                      have h_ps := h_ps.kp hfr n_ps_rw
                      have h_bs := h_bs.kp hfr n_bs_rw
                      have h_gs := h_gs.kp hfr (Ne.symm n_rw_gs)
                      have h_fa := h_fa.kp hfr (Ne.symm n_rw_fa)
                      have h_ba := h_ba.kp hfr (Ne.symm n_rw_ba)
                      have h_it := h_it.kp hfr (Ne.symm n_rw_it)
                      have hF : ∀ b ∈ L, b ≠ (A 0) → b ≠ (A 1) → b ≠ (A 2) → b ≠ (A 3) → b ≠ (A 4) → b ≠ (A 5) → f b = f0 b := fun b hb h0 h1 h2 h3 h4 h5 => (hfr b h4).trans (hF b hb h0 h1 h2 h3 h4 h5)
                      refine lv_iinc (v := nI (u + 1)) (lv' := [(5, .int (nI (u + 1))), (7, .int (b2i (SS x2 u))), (6, .int (b2i (SS x1 u))), (0, .ref (A 0)), (1, .int (nI j)), (2, .int (nI x1)), (3, .int (nI x2)), (4, .int (nI wy))]) E.1.1 E.1.2.1 dX6_join_181 hl (k := 2) rfl (nI_1 _) (by decide) rfl (fun ls hl => ?_)
                      refine lv_goto (tgt := 59) E.1.1 E.1.2.1 dX6_join_184 (by decide) ?_
                      exact ih59  (u + 1) f H locs ls (by omega) (by omega) h_o h_ts h_ps h_bs h_rw h_gs h_fa h_ba h_it hF hw (lv_sub hl [0, 3, 4, 5, 6, 7] rfl)
                    · refine lv_iconst (v := nI 1) E.1.1 E.1.2.1 dX6_join_112 rfl ?_
                      refine lv_goto (tgt := 180) E.1.1 E.1.2.1 dX6_join_113 (by decide) ?_
                      refine W.eq (g2 := F0 m 180 ls (.int (b2i true) :: .int (nI u) :: .ref (A 4) :: [])) rfl ?_
                      refine k_zast E hw (fun k => b2i (rbx (fun n => jw wy (SS x1 n) (SS x2 n)) rr (u + 1) k)) h_rw (by omega) (by omega) (fun i _ => rbx_v (by show jw wy (SS x1 u) (SS x2 u) = _; unfold jw; simp [c109, c104, c99]) i) dX6_join_180 (fun f H locs h_rw hfr hw => ?_)
                      have h_o := h_o.kp hfr n_o_rw
                      have h_ts := h_ts.kp hfr n_ts_rw
                      have h_ps := h_ps.kp hfr n_ps_rw
                      have h_bs := h_bs.kp hfr n_bs_rw
                      have h_gs := h_gs.kp hfr (Ne.symm n_rw_gs)
                      have h_fa := h_fa.kp hfr (Ne.symm n_rw_fa)
                      have h_ba := h_ba.kp hfr (Ne.symm n_rw_ba)
                      have h_it := h_it.kp hfr (Ne.symm n_rw_it)
                      have hF : ∀ b ∈ L, b ≠ (A 0) → b ≠ (A 1) → b ≠ (A 2) → b ≠ (A 3) → b ≠ (A 4) → b ≠ (A 5) → f b = f0 b := fun b hb h0 h1 h2 h3 h4 h5 => (hfr b h4).trans (hF b hb h0 h1 h2 h3 h4 h5)
                      refine lv_iinc (v := nI (u + 1)) (lv' := [(5, .int (nI (u + 1))), (7, .int (b2i (SS x2 u))), (6, .int (b2i (SS x1 u))), (0, .ref (A 0)), (1, .int (nI j)), (2, .int (nI x1)), (3, .int (nI x2)), (4, .int (nI wy))]) E.1.1 E.1.2.1 dX6_join_181 hl (k := 2) rfl (nI_1 _) (by decide) rfl (fun ls hl => ?_)
                      refine lv_goto (tgt := 59) E.1.1 E.1.2.1 dX6_join_184 (by decide) ?_
                      exact ih59  (u + 1) f H locs ls (by omega) (by omega) h_o h_ts h_ps h_bs h_rw h_gs h_fa h_ba h_it hF hw (lv_sub hl [0, 3, 4, 5, 6, 7] rfl)
          exact lp59 ((max (T x1) (T x2)) + (P x1 / Nat.gcd (P x1) (P x2) * P x2) - 0 + 1) 0 f H locs ls (Nat.lt_succ_self _) (by omega) h_o h_ts h_ps h_bs h_rw h_gs h_fa h_ba h_it hF hw (lv_sub hl [0, 1, 2, 3, 4, 5] rfl)
        · refine lv_bipush (v := -2) E.1.1 E.1.2.1 dX6_join_33 rfl ?_
          exact k_miret E hQ hlk hr hw (Nat.le_of_ble_eq_true rfl) (Nat.le_of_ble_eq_true rfl) (⟨rfl, fun b hb h => hF b hb (h 0 (by decide)) (h 1 (by decide)) (h 2 (by decide)) (h 3 (by decide)) (h 4 (by decide)) (h 5 (by decide)), SS, ⟨hB, _, _, _, _, _, _, _, _, _, _, ⟨h_o, h_ts, h_ps, h_bs, h_rw, h_gs, h_fa, h_ba, h_it⟩, hTP, hMS, hMK⟩, sp_join_2 hj hx1 hx2 c30⟩) dX6_join_35
      · refine lv_iconst (v := -1) E.1.1 E.1.2.1 dX6_join_21 rfl ?_
        exact k_miret E hQ hlk hr hw (Nat.le_of_ble_eq_true rfl) (Nat.le_of_ble_eq_true rfl) (⟨rfl, fun b hb h => hF b hb (h 0 (by decide)) (h 1 (by decide)) (h 2 (by decide)) (h 3 (by decide)) (h 4 (by decide)) (h 5 (by decide)), SS, ⟨hB, _, _, _, _, _, _, _, _, _, _, ⟨h_o, h_ts, h_ps, h_bs, h_rw, h_gs, h_fa, h_ba, h_it⟩, hTP, hMS, hMK⟩, sp_join_1 (Or.inr (Or.inr c18))⟩) dX6_join_22

set_option maxHeartbeats 4000000 in
set_option maxRecDepth 100000 in
theorem m_put0 (l : Launch) (D : va_G) (cy : Nat → ClassId) (L : List Nat) (f0 : Nat → va_E) (sz : Nat) (A : Nat → Nat) (base : Nat) (SS : Nat → Nat → Bool) (kp : Nat → Bool) (kb : Nat → Nat) (KS : Nat → Nat → Nat → Bool) (hA : MAd A) (hN : MoW cy L f0 A base SS kp kb KS) (to : Int32) (a m0 : Int32) : Met l yX6_put (.code yX6_put cX6_put 6 (Option.some FieldType.int) :: wsL_law) { frames := 6, cells := 0, slots := 0, locals := 136 } (va_Pc [.ref (A 0), .int to, .int (nI 0), .int a, .int m0] (PW D cy L f0 sz)) (va_Qi (fun (r : Int32) (u : List Nat × (Nat → va_E)) => L = u.1 ∧ (∀ b ∈ L, (∀ i, i < 9 → b ≠ A i) → u.2 b = f0 b) ∧ ∃ SS2, MoW cy L u.2 A base SS2 kp kb KS ∧ sp_put base SS SS2 to (nI 0) a m0 r) (PB D (AW L sz)) (AW L sz)) 0 0 (AW L sz) := by
  refine m_start (by decide) (Nat.le_of_ble_eq_true rfl) ?_
  intro p e R Q s m args below meth c ls hsz hR hQ E hr hlk hnm hw hl
  have hl : lv_has ls 6 [(0, .ref (A 0)), (1, .int to), (2, .int (nI 0)), (3, .int a), (4, .int m0)] := hl
  obtain ⟨H, hH⟩ : ∃ X, X = s.heap := ⟨_, rfl⟩
  obtain ⟨locs, hlocs⟩ : ∃ X : List Loc, X = [] := ⟨_, rfl⟩
  have hw0 := hw
  obtain ⟨hB, fr, pb, ns, T, P, B, rr, G, Fa, kb1, ⟨h_o, h_ts, h_ps, h_bs, h_rw, h_gs, h_fa, h_ba, h_it⟩, hTP, hMS, hMK⟩ := hN
  have hb2 := hB.two
  obtain ⟨f, hf0⟩ : ∃ X, X = f0 := ⟨_, rfl⟩
  rw [← hf0] at h_o h_ts h_ps h_bs h_rw h_gs h_fa h_ba h_it
  have hw : WW D (AW L sz) s.heap L f H locs := by rw [hH, hlocs, hf0]; exact hw
  have hF : ∀ b ∈ L, b ≠ (A 0) → b ≠ (A 1) → b ≠ (A 2) → b ≠ (A 3) → b ≠ (A 4) → b ≠ (A 5) → f b = f0 b := fun b hb h0 h1 h2 h3 h4 h5 => by rw [hf0]
  suffices hgo : W p l e R s m args below meth c H locs 0 0 Q (F0 m 0 ls []) by rw [hH, hlocs] at hgo; exact hgo
  clear hH hlocs hw0 hf0
  have hLs : ∀ b ∈ L, b ∈ L := fun _ h => h
  have n_o_ts : A 0 ≠ A 1 := hA.ne (by decide) (by decide) (by decide)
  have n_o_ps : A 0 ≠ A 2 := hA.ne (by decide) (by decide) (by decide)
  have n_o_bs : A 0 ≠ A 3 := hA.ne (by decide) (by decide) (by decide)
  have n_o_rw : A 0 ≠ A 4 := hA.ne (by decide) (by decide) (by decide)
  have n_o_gs : A 0 ≠ A 5 := hA.ne (by decide) (by decide) (by decide)
  have n_o_fa : A 0 ≠ A 6 := hA.ne (by decide) (by decide) (by decide)
  have n_o_ba : A 0 ≠ A 7 := hA.ne (by decide) (by decide) (by decide)
  have n_o_it : A 0 ≠ A 8 := hA.ne (by decide) (by decide) (by decide)
  have n_ts_ps : A 1 ≠ A 2 := hA.ne (by decide) (by decide) (by decide)
  have n_ts_bs : A 1 ≠ A 3 := hA.ne (by decide) (by decide) (by decide)
  have n_ts_rw : A 1 ≠ A 4 := hA.ne (by decide) (by decide) (by decide)
  have n_ts_gs : A 1 ≠ A 5 := hA.ne (by decide) (by decide) (by decide)
  have n_ts_fa : A 1 ≠ A 6 := hA.ne (by decide) (by decide) (by decide)
  have n_ts_ba : A 1 ≠ A 7 := hA.ne (by decide) (by decide) (by decide)
  have n_ts_it : A 1 ≠ A 8 := hA.ne (by decide) (by decide) (by decide)
  have n_ps_bs : A 2 ≠ A 3 := hA.ne (by decide) (by decide) (by decide)
  have n_ps_rw : A 2 ≠ A 4 := hA.ne (by decide) (by decide) (by decide)
  have n_ps_gs : A 2 ≠ A 5 := hA.ne (by decide) (by decide) (by decide)
  have n_ps_fa : A 2 ≠ A 6 := hA.ne (by decide) (by decide) (by decide)
  have n_ps_ba : A 2 ≠ A 7 := hA.ne (by decide) (by decide) (by decide)
  have n_ps_it : A 2 ≠ A 8 := hA.ne (by decide) (by decide) (by decide)
  have n_bs_rw : A 3 ≠ A 4 := hA.ne (by decide) (by decide) (by decide)
  have n_bs_gs : A 3 ≠ A 5 := hA.ne (by decide) (by decide) (by decide)
  have n_bs_fa : A 3 ≠ A 6 := hA.ne (by decide) (by decide) (by decide)
  have n_bs_ba : A 3 ≠ A 7 := hA.ne (by decide) (by decide) (by decide)
  have n_bs_it : A 3 ≠ A 8 := hA.ne (by decide) (by decide) (by decide)
  have n_rw_gs : A 4 ≠ A 5 := hA.ne (by decide) (by decide) (by decide)
  have n_rw_fa : A 4 ≠ A 6 := hA.ne (by decide) (by decide) (by decide)
  have n_rw_ba : A 4 ≠ A 7 := hA.ne (by decide) (by decide) (by decide)
  have n_rw_it : A 4 ≠ A 8 := hA.ne (by decide) (by decide) (by decide)
  have n_gs_fa : A 5 ≠ A 6 := hA.ne (by decide) (by decide) (by decide)
  have n_gs_ba : A 5 ≠ A 7 := hA.ne (by decide) (by decide) (by decide)
  have n_gs_it : A 5 ≠ A 8 := hA.ne (by decide) (by decide) (by decide)
  refine lv_iload_n E.1.1 E.1.2.1 dX6_put_0 rfl (lv_at hl 1 rfl) ?_
  refine k_ri (va_runS (As := [.int to]) (rest := []) E.1 (m_isSlot l D cy L f H.size to) ⟨callB_of 1 E.1.2.2.2.2 (gd_own w3_40) rfl rfl rfl (E.1.2.2.2.2 _ w1_10) (E.1.2.2.2.2 _ w3_38) hd_X6_isSlot (by rw [hR]; exact ⟨Nat.le_of_ble_eq_true rfl, Nat.le_of_ble_eq_true rfl⟩), E.1.2.2.2.2 _ w3_39⟩ (pw_pre E.2 hw) rfl rfl hl.1 rfl (lv_room (Nat.le_of_ble_eq_true rfl)) dX6_put_1 ⟨Nat.zero_le _, Nat.zero_le _⟩) ?_
  refine k_if1 (tgt := 9) E dX6_put_4 (by decide) (fun c4 => ?_) (fun c4 => ?_)
  · obtain ⟨j, hj, rfl⟩ := in_ex (by decide) c4
    refine lv_iload_n E.1.1 E.1.2.1 dX6_put_9 rfl (lv_at hl 2 rfl) ?_
    refine lv_iconst (v := nI 0) E.1.1 E.1.2.1 dX6_put_10 rfl ?_
    refine lv_iconst (v := nI 4) E.1.1 E.1.2.1 dX6_put_11 rfl ?_
    refine k_ri (va_runS (As := [.int (nI 0), .int (nI 0), .int (nI 4)]) (rest := []) E.1 (m_in l D cy L f H.size (nI 0) (nI 0) (nI 4)) ⟨callB_of 3 E.1.2.2.2.2 (gd_own w3_43) rfl rfl rfl (E.1.2.2.2.2 _ w1_10) (E.1.2.2.2.2 _ w3_41) hd_X6_in (by rw [hR]; exact ⟨Nat.le_of_ble_eq_true rfl, Nat.le_of_ble_eq_true rfl⟩), E.1.2.2.2.2 _ w3_42⟩ (pw_pre E.2 hw) rfl rfl hl.1 rfl (lv_room (Nat.le_of_ble_eq_true rfl)) dX6_put_12 ⟨Nat.zero_le _, Nat.zero_le _⟩) ?_
    refine k_if0 (tgt := 49) E dX6_put_15 (by decide) (fun c15 => absurd (show i32in (nI 0) 0 (nI 4) = false from c15) (by rw [in_t (by decide) (by decide)]; decide)) (fun c15 => ?_)
    refine lv_iload_n E.1.1 E.1.2.1 dX6_put_18 rfl (lv_at hl 2 rfl) ?_
    refine lv_iconst (v := nI 3) E.1.1 E.1.2.1 dX6_put_19 rfl ?_
    refine k_ge (tgt := 33) E dX6_put_20 (by decide) (by omega) (by omega) (fun c20 => absurd c20 (by decide)) (fun c20 => ?_)
    refine lv_iload_n E.1.1 E.1.2.1 dX6_put_23 rfl (lv_at hl 3 rfl) ?_
    refine lv_iconst (v := nI 0) E.1.1 E.1.2.1 dX6_put_24 rfl ?_
    refine lv_bipush (v := nI 100) E.1.1 E.1.2.1 dX6_put_25 rfl ?_
    refine k_ri (va_runS (As := [.int a, .int (nI 0), .int (nI 100)]) (rest := []) E.1 (m_in l D cy L f H.size a (nI 0) (nI 100)) ⟨callB_of 3 E.1.2.2.2.2 (gd_own w3_43) rfl rfl rfl (E.1.2.2.2.2 _ w1_10) (E.1.2.2.2.2 _ w3_41) hd_X6_in (by rw [hR]; exact ⟨Nat.le_of_ble_eq_true rfl, Nat.le_of_ble_eq_true rfl⟩), E.1.2.2.2.2 _ w3_42⟩ (pw_pre E.2 hw) rfl rfl hl.1 rfl (lv_room (Nat.le_of_ble_eq_true rfl)) dX6_put_27 ⟨Nat.zero_le _, Nat.zero_le _⟩) ?_
    refine k_if0 (tgt := 49) E dX6_put_30 (by decide) (fun c30 => ?_) (fun c30 => ?_)
    · refine lv_bipush (v := -2) E.1.1 E.1.2.1 dX6_put_49 rfl ?_
      exact k_miret E hQ hlk hr hw (Nat.le_of_ble_eq_true rfl) (Nat.le_of_ble_eq_true rfl) (⟨rfl, fun b hb h => hF b hb (h 0 (by decide)) (h 1 (by decide)) (h 2 (by decide)) (h 3 (by decide)) (h 4 (by decide)) (h 5 (by decide)), SS, ⟨hB, _, _, _, _, _, _, _, _, _, _, ⟨h_o, h_ts, h_ps, h_bs, h_rw, h_gs, h_fa, h_ba, h_it⟩, hTP, hMS, hMK⟩, sp_put_2 hj (Or.inr (Or.inl ⟨by decide, c30⟩))⟩) dX6_put_51
    · obtain ⟨a1, ha1, rfl⟩ := in_ex (by decide) c30
      refine lv_iload_n E.1.1 E.1.2.1 dX6_put_33 rfl (lv_at hl 2 rfl) ?_
      refine lv_iconst (v := nI 2) E.1.1 E.1.2.1 dX6_put_34 rfl ?_
      refine k_ne (tgt := 52) E dX6_put_35 (by decide) (by omega) (by omega) (fun c35 => ?_) (fun c35 => absurd c35 (by decide))
      refine lv_aload_n E.1.1 E.1.2.1 dX6_put_52 rfl (lv_at hl 0 rfl) ?_
      refine lv_iload_n E.1.1 E.1.2.1 dX6_put_53 rfl (lv_at hl 2 rfl) ?_
      refine k_z1 (tgt := 63) E dX6_put_54 (by decide) (by omega) (fun c54 => absurd c54 (by decide)) (fun c54 => ?_)
      refine lv_iload_n E.1.1 E.1.2.1 dX6_put_57 rfl (lv_at hl 3 rfl) ?_
      refine lv_iconst (v := nI 1) E.1.1 E.1.2.1 dX6_put_58 rfl ?_
      refine k_add E dX6_put_59 ?_
      refine lv_goto (tgt := 73) E.1.1 E.1.2.1 dX6_put_60 (by decide) ?_
      refine k_put (ty0 := tyX6) E inlX6 rfl tyX6_ok nmX6 5 (by decide) w2_237 rfl rfl hw [.int (nI base), .ref (A 1), .ref (A 2), .ref (A 3), .ref (A 4), .int (nI (a1 + 1)), .int (nI pb), .ref (A 5), .int (nI ns), .ref (A 6), .ref (A 7), .ref (A 8)] h_o (rfl) (rfl) (Nat.le_of_ble_eq_true rfl) rfl dX6_put_73 (fun f H locs h_o hfr hw => ?_)
      have h_ts := h_ts.kp hfr (Ne.symm n_o_ts)
      have h_ps := h_ps.kp hfr (Ne.symm n_o_ps)
      have h_bs := h_bs.kp hfr (Ne.symm n_o_bs)
      have h_rw := h_rw.kp hfr (Ne.symm n_o_rw)
      have h_gs := h_gs.kp hfr (Ne.symm n_o_gs)
      have h_fa := h_fa.kp hfr (Ne.symm n_o_fa)
      have h_ba := h_ba.kp hfr (Ne.symm n_o_ba)
      have h_it := h_it.kp hfr (Ne.symm n_o_it)
      have hF : ∀ b ∈ L, b ≠ (A 0) → b ≠ (A 1) → b ≠ (A 2) → b ≠ (A 3) → b ≠ (A 4) → b ≠ (A 5) → f b = f0 b := fun b hb h0 h1 h2 h3 h4 h5 => (hfr b h0).trans (hF b hb h0 h1 h2 h3 h4 h5)
      refine lv_aload_n E.1.1 E.1.2.1 dX6_put_76 rfl (lv_at hl 0 rfl) ?_
      refine lv_iload_n E.1.1 E.1.2.1 dX6_put_77 rfl (lv_at hl 2 rfl) ?_
      refine lv_iconst (v := nI 2) E.1.1 E.1.2.1 dX6_put_78 rfl ?_
      refine k_ne (tgt := 87) E dX6_put_79 (by decide) (by omega) (by omega) (fun c79 => ?_) (fun c79 => absurd c79 (by decide))
      refine lv_iconst (v := nI 1) E.1.1 E.1.2.1 dX6_put_87 rfl ?_
      refine k_put (ty0 := tyX6) E inlX6 rfl tyX6_ok nmX6 6 (by decide) w2_238 rfl rfl hw [.int (nI base), .ref (A 1), .ref (A 2), .ref (A 3), .ref (A 4), .int (nI (a1 + 1)), .int (nI 1), .ref (A 5), .int (nI ns), .ref (A 6), .ref (A 7), .ref (A 8)] h_o (rfl) (rfl) (Nat.le_of_ble_eq_true rfl) rfl dX6_put_88 (fun f H locs h_o hfr hw => ?_)
      have h_ts := h_ts.kp hfr (Ne.symm n_o_ts)
      have h_ps := h_ps.kp hfr (Ne.symm n_o_ps)
      have h_bs := h_bs.kp hfr (Ne.symm n_o_bs)
      have h_rw := h_rw.kp hfr (Ne.symm n_o_rw)
      have h_gs := h_gs.kp hfr (Ne.symm n_o_gs)
      have h_fa := h_fa.kp hfr (Ne.symm n_o_fa)
      have h_ba := h_ba.kp hfr (Ne.symm n_o_ba)
      have h_it := h_it.kp hfr (Ne.symm n_o_it)
      have hF : ∀ b ∈ L, b ≠ (A 0) → b ≠ (A 1) → b ≠ (A 2) → b ≠ (A 3) → b ≠ (A 4) → b ≠ (A 5) → f b = f0 b := fun b hb h0 h1 h2 h3 h4 h5 => (hfr b h0).trans (hF b hb h0 h1 h2 h3 h4 h5)
      have hX : den (a1 + 1) (1) (rbx (kd 0 a1 (ix m0)) rr ((a1 + 1) + 1)) = kd 0 a1 (ix m0) := den_rbx rr (by omega) (kd0_ev a1 (ix m0))
      rw [← rbx_0 (kd 0 a1 (ix m0)) rr] at h_rw
      refine lv_iconst (v := nI 0) E.1.1 E.1.2.1 dX6_put_91 rfl ?_
      refine lv_istore (lv' := [(5, .int (nI 0)), (0, .ref (A 0)), (1, .int (nI j)), (2, .int (nI 0)), (3, .int (nI a1)), (4, .int m0)]) E.1.1 E.1.2.1 dX6_put_92 hl (by decide) rfl (fun ls hl => ?_)
      have lp94 : ∀ (k : Nat) (u : Nat) (f : Nat → va_E) (H : Heap) (locs : List Loc) (ls : Array Slot), ((a1 + 1) + 1 - u < k) → (u ≤ (a1 + 1) + 1) → (cel L f (A 0) (.inr (6, [.int (nI base), .ref (A 1), .ref (A 2), .ref (A 3), .ref (A 4), .int (nI (a1 + 1)), .int (nI 1), .ref (A 5), .int (nI ns), .ref (A 6), .ref (A 7), .ref (A 8)]))) → (cel L f (A 1) (.inl (cy 0, 84, .inl (fun k => nI (T k))))) → (cel L f (A 2) (.inl (cy 0, 84, .inl (fun k => nI (P k))))) → (cel L f (A 3) (.inl (cy 1, 252, .inr (.inl (rw3 B))))) → (cel L f (A 4) (.inl (cy 2, 4096, .inl (fun k => b2i ((rbx (kd 0 a1 (ix m0)) rr u) k))))) → (cel L f (A 5) (.inl (cy 0, 325, .inl G))) → (cel L f (A 6) (.inl (cy 0, 65, .inl Fa))) → (cel L f (A 7) (.inl (cy 0, 2, .inl (fun k => nI (kb1 k))))) → (cel L f (A 8) (.inl (cy 2, 2, .inl (fun k => b2i (kp k))))) → (∀ b ∈ L, b ≠ (A 0) → b ≠ (A 1) → b ≠ (A 2) → b ≠ (A 3) → b ≠ (A 4) → b ≠ (A 5) → f b = f0 b) → (WW D (AW L sz) s.heap L f H locs) → (lv_has ls 6 [(5, .int (nI u)), (0, .ref (A 0)), (1, .int (nI j)), (2, .int (nI 0)), (3, .int (nI a1)), (4, .int m0)]) → W p l e R s m args below meth c H locs 0 0 Q (F0 m 94 ls []) := by
        intro k
        induction k with
        | zero => intro _ _ _ _ _ hk; exact absurd hk (Nat.not_lt_zero _)
        | succ k ih94 =>
          intro u f H locs ls hk hu h_o h_ts h_ps h_bs h_rw h_gs h_fa h_ba h_it hF hw hl
          refine lv_iload E.1.1 E.1.2.1 dX6_put_94 (lv_at hl 0 rfl) ?_
          refine lv_aload_n E.1.1 E.1.2.1 dX6_put_96 rfl (lv_at hl 1 rfl) ?_
          refine k_get (v := .int (nI (a1 + 1))) E inlX6 rfl 5 (by decide) w2_237 rfl hw h_o rfl dX6_put_97 ?_
          refine lv_aload_n E.1.1 E.1.2.1 dX6_put_100 rfl (lv_at hl 1 rfl) ?_
          refine k_get (v := .int (nI 1)) E inlX6 rfl 6 (by decide) w2_238 rfl hw h_o rfl dX6_put_101 ?_
          refine k_add E dX6_put_104 ?_
          refine k_ge (tgt := 193) E dX6_put_105 (by decide) (by omega) (by omega) (fun c105 => ?_) (fun c105 => ?_)
          · rw [show u = (a1 + 1) + 1 by omega] at h_rw
            refine lv_aload_n E.1.1 E.1.2.1 dX6_put_193 rfl (lv_at hl 1 rfl) ?_
            refine lv_iload_n E.1.1 E.1.2.1 dX6_put_194 rfl (lv_at hl 2 rfl) ?_
            refine k_mi hw (va_runV (As := [.int (nI j)]) (rest := []) E.1 (m_keep l D cy L f H.size A base (a1 + 1) 1 ns T P B (rbx (kd 0 a1 (ix m0)) rr ((a1 + 1) + 1)) G hA hTP j (by omega) (by omega) (by omega) (by omega) (by omega) h_o h_ts h_ps h_bs h_rw h_gs) ⟨callB_of 1 E.1.2.2.2.2 (gd_own w3_47) rfl rfl rfl (E.1.2.2.2.2 _ w1_10) (E.1.2.2.2.2 _ w3_44) hd_X6_keep (by rw [hR]; exact ⟨Nat.le_of_ble_eq_true rfl, Nat.le_of_ble_eq_true rfl⟩), E.1.2.2.2.2 _ w3_46, E.1.2.2.2.2 _ ws_25⟩ (pw_preV (q := (RX6, TX6, 12)) E.2 hw h_o rfl) rfl rfl hl.1 rfl (lv_room (Nat.le_of_ble_eq_true rfl)) dX6_put_195 (by rw [hR]; exact ⟨Nat.le_of_ble_eq_true rfl, Nat.le_of_ble_eq_true rfl⟩)) (fun r L1 f H locs hp hw => ?_)
            obtain ⟨hL1, hfr, fr2, pb2, ns2, T2, P2, B2, rr2, G2, h_o, h_ts, h_ps, h_bs, h_rw, h_gs, hTP2, hag, hcase⟩ := hp
            have hL1 : L = L1 := hL1
            subst hL1
            have h_o : cel L f (A 0) (.inr (6, [.int (nI base), .ref (A 1), .ref (A 2), .ref (A 3), .ref (A 4), .int (nI fr2), .int (nI pb2), .ref (A 5), .int (nI ns2), .ref (A 6), .ref (A 7), .ref (A 8)])) := h_o
            have h_ts : cel L f (A 1) (.inl (cy 0, 84, .inl (fun k => nI (T2 k)))) := h_ts
            have h_ps : cel L f (A 2) (.inl (cy 0, 84, .inl (fun k => nI (P2 k)))) := h_ps
            have h_bs : cel L f (A 3) (.inl (cy 1, 252, .inr (.inl (rw3 B2)))) := h_bs
            have h_rw : cel L f (A 4) (.inl (cy 2, 4096, .inl (fun k => b2i (rr2 k)))) := h_rw
            have h_gs : cel L f (A 5) (.inl (cy 0, 325, .inl G2)) := h_gs
            have h_fa := h_fa.keep (fun _ h => h) (hfr _ h_fa.1 (Ne.symm n_o_fa) (Ne.symm n_ts_fa) (Ne.symm n_ps_fa) (Ne.symm n_bs_fa) (Ne.symm n_rw_fa) (Ne.symm n_gs_fa))
            have h_ba := h_ba.keep (fun _ h => h) (hfr _ h_ba.1 (Ne.symm n_o_ba) (Ne.symm n_ts_ba) (Ne.symm n_ps_ba) (Ne.symm n_bs_ba) (Ne.symm n_rw_ba) (Ne.symm n_gs_ba))
            have h_it := h_it.keep (fun _ h => h) (hfr _ h_it.1 (Ne.symm n_o_it) (Ne.symm n_ts_it) (Ne.symm n_ps_it) (Ne.symm n_bs_it) (Ne.symm n_rw_it) (Ne.symm n_gs_it))
            have hF : ∀ b ∈ L, b ≠ (A 0) → b ≠ (A 1) → b ≠ (A 2) → b ≠ (A 3) → b ≠ (A 4) → b ≠ (A 5) → f b = f0 b := fun b hb h0 h1 h2 h3 h4 h5 => (hfr b (hLs b hb) h0 h1 h2 h3 h4 h5).trans (hF b hb h0 h1 h2 h3 h4 h5)
            rw [hX] at hcase
            exact k_miret E hQ hlk hr hw (Nat.le_of_ble_eq_true rfl) (Nat.le_of_ble_eq_true rfl) (⟨rfl, fun b hb h => hF b hb (h 0 (by decide)) (h 1 (by decide)) (h 2 (by decide)) (h 3 (by decide)) (h 4 (by decide)) (h 5 (by decide)), by
      obtain ⟨SS2, hW2, hH⟩ := mo_hold hB hMS hMK ⟨h_o, h_ts, h_ps, h_bs, h_rw, h_gs, h_fa, h_ba, h_it⟩ hTP2 (by omega) hag hcase
      exact ⟨SS2, hW2, sp_put_ok hj (by decide) (fun _ => c30) (fun h => absurd h (by decide)) (by rw [ix_nI (by omega)]; exact hH)⟩⟩) dX6_put_198
          · refine lv_aload_n E.1.1 E.1.2.1 dX6_put_108 rfl (lv_at hl 1 rfl) ?_
            refine k_get (v := .ref (A 4)) E inlX6 rfl 4 (by decide) w2_236 rfl hw h_o rfl dX6_put_109 ?_
            refine lv_iload E.1.1 E.1.2.1 dX6_put_112 (lv_at hl 0 rfl) ?_
            refine lv_iload_n E.1.1 E.1.2.1 dX6_put_114 rfl (lv_at hl 3 rfl) ?_
            refine k_z1 (tgt := 132) E dX6_put_115 (by decide) (by omega) (fun c115 => absurd c115 (by decide)) (fun c115 => ?_)
            refine lv_iload E.1.1 E.1.2.1 dX6_put_118 (lv_at hl 0 rfl) ?_
            refine lv_iload_n E.1.1 E.1.2.1 dX6_put_120 rfl (lv_at hl 4 rfl) ?_
            refine k_ne (tgt := 128) E dX6_put_121 (by decide) (by omega) (by omega) (fun c121 => ?_) (fun c121 => ?_)
            · refine lv_iconst (v := nI 0) E.1.1 E.1.2.1 dX6_put_128 rfl ?_
              refine lv_goto (tgt := 186) E.1.1 E.1.2.1 dX6_put_129 (by decide) ?_
              refine W.eq (g2 := F0 m 186 ls (.int (b2i false) :: .int (nI u) :: .ref (A 4) :: [])) rfl ?_
              refine k_zast E hw (fun k => b2i (rbx (kd 0 a1 (ix m0)) rr (u + 1) k)) h_rw (by omega) (by omega) (fun i _ => rbx_v (by simp [kd, c121]) i) dX6_put_186 (fun f H locs h_rw hfr hw => ?_)
              have h_o := h_o.kp hfr n_o_rw
              have h_ts := h_ts.kp hfr n_ts_rw
              have h_ps := h_ps.kp hfr n_ps_rw
              have h_bs := h_bs.kp hfr n_bs_rw
              have h_gs := h_gs.kp hfr (Ne.symm n_rw_gs)
              have h_fa := h_fa.kp hfr (Ne.symm n_rw_fa)
              have h_ba := h_ba.kp hfr (Ne.symm n_rw_ba)
              have h_it := h_it.kp hfr (Ne.symm n_rw_it)
              have hF : ∀ b ∈ L, b ≠ (A 0) → b ≠ (A 1) → b ≠ (A 2) → b ≠ (A 3) → b ≠ (A 4) → b ≠ (A 5) → f b = f0 b := fun b hb h0 h1 h2 h3 h4 h5 => (hfr b h4).trans (hF b hb h0 h1 h2 h3 h4 h5)
              refine lv_iinc (v := nI (u + 1)) (lv' := [(5, .int (nI (u + 1))), (0, .ref (A 0)), (1, .int (nI j)), (2, .int (nI 0)), (3, .int (nI a1)), (4, .int m0)]) E.1.1 E.1.2.1 dX6_put_187 hl (k := 0) rfl (nI_1 _) (by decide) rfl (fun ls hl => ?_)
              refine lv_goto (tgt := 94) E.1.1 E.1.2.1 dX6_put_190 (by decide) ?_
              exact ih94  (u + 1) f H locs ls (by omega) (by omega) h_o h_ts h_ps h_bs h_rw h_gs h_fa h_ba h_it hF hw (lv_sub hl [0, 1, 2, 3, 4, 5] rfl)
            · refine lv_iconst (v := nI 1) E.1.1 E.1.2.1 dX6_put_124 rfl ?_
              refine lv_goto (tgt := 186) E.1.1 E.1.2.1 dX6_put_125 (by decide) ?_
              refine W.eq (g2 := F0 m 186 ls (.int (b2i true) :: .int (nI u) :: .ref (A 4) :: [])) rfl ?_
              refine k_zast E hw (fun k => b2i (rbx (kd 0 a1 (ix m0)) rr (u + 1) k)) h_rw (by omega) (by omega) (fun i _ => rbx_v (by simp [kd, c121]) i) dX6_put_186 (fun f H locs h_rw hfr hw => ?_)
              have h_o := h_o.kp hfr n_o_rw
              have h_ts := h_ts.kp hfr n_ts_rw
              have h_ps := h_ps.kp hfr n_ps_rw
              have h_bs := h_bs.kp hfr n_bs_rw
              have h_gs := h_gs.kp hfr (Ne.symm n_rw_gs)
              have h_fa := h_fa.kp hfr (Ne.symm n_rw_fa)
              have h_ba := h_ba.kp hfr (Ne.symm n_rw_ba)
              have h_it := h_it.kp hfr (Ne.symm n_rw_it)
              have hF : ∀ b ∈ L, b ≠ (A 0) → b ≠ (A 1) → b ≠ (A 2) → b ≠ (A 3) → b ≠ (A 4) → b ≠ (A 5) → f b = f0 b := fun b hb h0 h1 h2 h3 h4 h5 => (hfr b h4).trans (hF b hb h0 h1 h2 h3 h4 h5)
              refine lv_iinc (v := nI (u + 1)) (lv' := [(5, .int (nI (u + 1))), (0, .ref (A 0)), (1, .int (nI j)), (2, .int (nI 0)), (3, .int (nI a1)), (4, .int m0)]) E.1.1 E.1.2.1 dX6_put_187 hl (k := 0) rfl (nI_1 _) (by decide) rfl (fun ls hl => ?_)
              refine lv_goto (tgt := 94) E.1.1 E.1.2.1 dX6_put_190 (by decide) ?_
              exact ih94  (u + 1) f H locs ls (by omega) (by omega) h_o h_ts h_ps h_bs h_rw h_gs h_fa h_ba h_it hF hw (lv_sub hl [0, 1, 2, 3, 4, 5] rfl)
      exact lp94 ((a1 + 1) + 1 - 0 + 1) 0 f H locs ls (Nat.lt_succ_self _) (by omega) h_o h_ts h_ps h_bs h_rw h_gs h_fa h_ba h_it hF hw (lv_sub hl [0, 1, 2, 3, 4, 5] rfl)
  · refine lv_iconst (v := -1) E.1.1 E.1.2.1 dX6_put_7 rfl ?_
    exact k_miret E hQ hlk hr hw (Nat.le_of_ble_eq_true rfl) (Nat.le_of_ble_eq_true rfl) (⟨rfl, fun b hb h => hF b hb (h 0 (by decide)) (h 1 (by decide)) (h 2 (by decide)) (h 3 (by decide)) (h 4 (by decide)) (h 5 (by decide)), SS, ⟨hB, _, _, _, _, _, _, _, _, _, _, ⟨h_o, h_ts, h_ps, h_bs, h_rw, h_gs, h_fa, h_ba, h_it⟩, hTP, hMS, hMK⟩, sp_put_1 c4⟩) dX6_put_8

set_option maxHeartbeats 4000000 in
set_option maxRecDepth 100000 in
theorem m_put1 (l : Launch) (D : va_G) (cy : Nat → ClassId) (L : List Nat) (f0 : Nat → va_E) (sz : Nat) (A : Nat → Nat) (base : Nat) (SS : Nat → Nat → Bool) (kp : Nat → Bool) (kb : Nat → Nat) (KS : Nat → Nat → Nat → Bool) (hA : MAd A) (hN : MoW cy L f0 A base SS kp kb KS) (to : Int32) (a m0 : Int32) : Met l yX6_put (.code yX6_put cX6_put 6 (Option.some FieldType.int) :: wsL_law) { frames := 6, cells := 0, slots := 0, locals := 136 } (va_Pc [.ref (A 0), .int to, .int (nI 1), .int a, .int m0] (PW D cy L f0 sz)) (va_Qi (fun (r : Int32) (u : List Nat × (Nat → va_E)) => L = u.1 ∧ (∀ b ∈ L, (∀ i, i < 9 → b ≠ A i) → u.2 b = f0 b) ∧ ∃ SS2, MoW cy L u.2 A base SS2 kp kb KS ∧ sp_put base SS SS2 to (nI 1) a m0 r) (PB D (AW L sz)) (AW L sz)) 0 0 (AW L sz) := by
  refine m_start (by decide) (Nat.le_of_ble_eq_true rfl) ?_
  intro p e R Q s m args below meth c ls hsz hR hQ E hr hlk hnm hw hl
  have hl : lv_has ls 6 [(0, .ref (A 0)), (1, .int to), (2, .int (nI 1)), (3, .int a), (4, .int m0)] := hl
  obtain ⟨H, hH⟩ : ∃ X, X = s.heap := ⟨_, rfl⟩
  obtain ⟨locs, hlocs⟩ : ∃ X : List Loc, X = [] := ⟨_, rfl⟩
  have hw0 := hw
  obtain ⟨hB, fr, pb, ns, T, P, B, rr, G, Fa, kb1, ⟨h_o, h_ts, h_ps, h_bs, h_rw, h_gs, h_fa, h_ba, h_it⟩, hTP, hMS, hMK⟩ := hN
  have hb2 := hB.two
  obtain ⟨f, hf0⟩ : ∃ X, X = f0 := ⟨_, rfl⟩
  rw [← hf0] at h_o h_ts h_ps h_bs h_rw h_gs h_fa h_ba h_it
  have hw : WW D (AW L sz) s.heap L f H locs := by rw [hH, hlocs, hf0]; exact hw
  have hF : ∀ b ∈ L, b ≠ (A 0) → b ≠ (A 1) → b ≠ (A 2) → b ≠ (A 3) → b ≠ (A 4) → b ≠ (A 5) → f b = f0 b := fun b hb h0 h1 h2 h3 h4 h5 => by rw [hf0]
  suffices hgo : W p l e R s m args below meth c H locs 0 0 Q (F0 m 0 ls []) by rw [hH, hlocs] at hgo; exact hgo
  clear hH hlocs hw0 hf0
  have hLs : ∀ b ∈ L, b ∈ L := fun _ h => h
  have n_o_ts : A 0 ≠ A 1 := hA.ne (by decide) (by decide) (by decide)
  have n_o_ps : A 0 ≠ A 2 := hA.ne (by decide) (by decide) (by decide)
  have n_o_bs : A 0 ≠ A 3 := hA.ne (by decide) (by decide) (by decide)
  have n_o_rw : A 0 ≠ A 4 := hA.ne (by decide) (by decide) (by decide)
  have n_o_gs : A 0 ≠ A 5 := hA.ne (by decide) (by decide) (by decide)
  have n_o_fa : A 0 ≠ A 6 := hA.ne (by decide) (by decide) (by decide)
  have n_o_ba : A 0 ≠ A 7 := hA.ne (by decide) (by decide) (by decide)
  have n_o_it : A 0 ≠ A 8 := hA.ne (by decide) (by decide) (by decide)
  have n_ts_ps : A 1 ≠ A 2 := hA.ne (by decide) (by decide) (by decide)
  have n_ts_bs : A 1 ≠ A 3 := hA.ne (by decide) (by decide) (by decide)
  have n_ts_rw : A 1 ≠ A 4 := hA.ne (by decide) (by decide) (by decide)
  have n_ts_gs : A 1 ≠ A 5 := hA.ne (by decide) (by decide) (by decide)
  have n_ts_fa : A 1 ≠ A 6 := hA.ne (by decide) (by decide) (by decide)
  have n_ts_ba : A 1 ≠ A 7 := hA.ne (by decide) (by decide) (by decide)
  have n_ts_it : A 1 ≠ A 8 := hA.ne (by decide) (by decide) (by decide)
  have n_ps_bs : A 2 ≠ A 3 := hA.ne (by decide) (by decide) (by decide)
  have n_ps_rw : A 2 ≠ A 4 := hA.ne (by decide) (by decide) (by decide)
  have n_ps_gs : A 2 ≠ A 5 := hA.ne (by decide) (by decide) (by decide)
  have n_ps_fa : A 2 ≠ A 6 := hA.ne (by decide) (by decide) (by decide)
  have n_ps_ba : A 2 ≠ A 7 := hA.ne (by decide) (by decide) (by decide)
  have n_ps_it : A 2 ≠ A 8 := hA.ne (by decide) (by decide) (by decide)
  have n_bs_rw : A 3 ≠ A 4 := hA.ne (by decide) (by decide) (by decide)
  have n_bs_gs : A 3 ≠ A 5 := hA.ne (by decide) (by decide) (by decide)
  have n_bs_fa : A 3 ≠ A 6 := hA.ne (by decide) (by decide) (by decide)
  have n_bs_ba : A 3 ≠ A 7 := hA.ne (by decide) (by decide) (by decide)
  have n_bs_it : A 3 ≠ A 8 := hA.ne (by decide) (by decide) (by decide)
  have n_rw_gs : A 4 ≠ A 5 := hA.ne (by decide) (by decide) (by decide)
  have n_rw_fa : A 4 ≠ A 6 := hA.ne (by decide) (by decide) (by decide)
  have n_rw_ba : A 4 ≠ A 7 := hA.ne (by decide) (by decide) (by decide)
  have n_rw_it : A 4 ≠ A 8 := hA.ne (by decide) (by decide) (by decide)
  have n_gs_fa : A 5 ≠ A 6 := hA.ne (by decide) (by decide) (by decide)
  have n_gs_ba : A 5 ≠ A 7 := hA.ne (by decide) (by decide) (by decide)
  have n_gs_it : A 5 ≠ A 8 := hA.ne (by decide) (by decide) (by decide)
  refine lv_iload_n E.1.1 E.1.2.1 dX6_put_0 rfl (lv_at hl 1 rfl) ?_
  refine k_ri (va_runS (As := [.int to]) (rest := []) E.1 (m_isSlot l D cy L f H.size to) ⟨callB_of 1 E.1.2.2.2.2 (gd_own w3_40) rfl rfl rfl (E.1.2.2.2.2 _ w1_10) (E.1.2.2.2.2 _ w3_38) hd_X6_isSlot (by rw [hR]; exact ⟨Nat.le_of_ble_eq_true rfl, Nat.le_of_ble_eq_true rfl⟩), E.1.2.2.2.2 _ w3_39⟩ (pw_pre E.2 hw) rfl rfl hl.1 rfl (lv_room (Nat.le_of_ble_eq_true rfl)) dX6_put_1 ⟨Nat.zero_le _, Nat.zero_le _⟩) ?_
  refine k_if1 (tgt := 9) E dX6_put_4 (by decide) (fun c4 => ?_) (fun c4 => ?_)
  · obtain ⟨j, hj, rfl⟩ := in_ex (by decide) c4
    refine lv_iload_n E.1.1 E.1.2.1 dX6_put_9 rfl (lv_at hl 2 rfl) ?_
    refine lv_iconst (v := nI 0) E.1.1 E.1.2.1 dX6_put_10 rfl ?_
    refine lv_iconst (v := nI 4) E.1.1 E.1.2.1 dX6_put_11 rfl ?_
    refine k_ri (va_runS (As := [.int (nI 1), .int (nI 0), .int (nI 4)]) (rest := []) E.1 (m_in l D cy L f H.size (nI 1) (nI 0) (nI 4)) ⟨callB_of 3 E.1.2.2.2.2 (gd_own w3_43) rfl rfl rfl (E.1.2.2.2.2 _ w1_10) (E.1.2.2.2.2 _ w3_41) hd_X6_in (by rw [hR]; exact ⟨Nat.le_of_ble_eq_true rfl, Nat.le_of_ble_eq_true rfl⟩), E.1.2.2.2.2 _ w3_42⟩ (pw_pre E.2 hw) rfl rfl hl.1 rfl (lv_room (Nat.le_of_ble_eq_true rfl)) dX6_put_12 ⟨Nat.zero_le _, Nat.zero_le _⟩) ?_
    refine k_if0 (tgt := 49) E dX6_put_15 (by decide) (fun c15 => absurd (show i32in (nI 1) 0 (nI 4) = false from c15) (by rw [in_t (by decide) (by decide)]; decide)) (fun c15 => ?_)
    refine lv_iload_n E.1.1 E.1.2.1 dX6_put_18 rfl (lv_at hl 2 rfl) ?_
    refine lv_iconst (v := nI 3) E.1.1 E.1.2.1 dX6_put_19 rfl ?_
    refine k_ge (tgt := 33) E dX6_put_20 (by decide) (by omega) (by omega) (fun c20 => absurd c20 (by decide)) (fun c20 => ?_)
    refine lv_iload_n E.1.1 E.1.2.1 dX6_put_23 rfl (lv_at hl 3 rfl) ?_
    refine lv_iconst (v := nI 0) E.1.1 E.1.2.1 dX6_put_24 rfl ?_
    refine lv_bipush (v := nI 100) E.1.1 E.1.2.1 dX6_put_25 rfl ?_
    refine k_ri (va_runS (As := [.int a, .int (nI 0), .int (nI 100)]) (rest := []) E.1 (m_in l D cy L f H.size a (nI 0) (nI 100)) ⟨callB_of 3 E.1.2.2.2.2 (gd_own w3_43) rfl rfl rfl (E.1.2.2.2.2 _ w1_10) (E.1.2.2.2.2 _ w3_41) hd_X6_in (by rw [hR]; exact ⟨Nat.le_of_ble_eq_true rfl, Nat.le_of_ble_eq_true rfl⟩), E.1.2.2.2.2 _ w3_42⟩ (pw_pre E.2 hw) rfl rfl hl.1 rfl (lv_room (Nat.le_of_ble_eq_true rfl)) dX6_put_27 ⟨Nat.zero_le _, Nat.zero_le _⟩) ?_
    refine k_if0 (tgt := 49) E dX6_put_30 (by decide) (fun c30 => ?_) (fun c30 => ?_)
    · refine lv_bipush (v := -2) E.1.1 E.1.2.1 dX6_put_49 rfl ?_
      exact k_miret E hQ hlk hr hw (Nat.le_of_ble_eq_true rfl) (Nat.le_of_ble_eq_true rfl) (⟨rfl, fun b hb h => hF b hb (h 0 (by decide)) (h 1 (by decide)) (h 2 (by decide)) (h 3 (by decide)) (h 4 (by decide)) (h 5 (by decide)), SS, ⟨hB, _, _, _, _, _, _, _, _, _, _, ⟨h_o, h_ts, h_ps, h_bs, h_rw, h_gs, h_fa, h_ba, h_it⟩, hTP, hMS, hMK⟩, sp_put_2 hj (Or.inr (Or.inl ⟨by decide, c30⟩))⟩) dX6_put_51
    · obtain ⟨a1, ha1, rfl⟩ := in_ex (by decide) c30
      refine lv_iload_n E.1.1 E.1.2.1 dX6_put_33 rfl (lv_at hl 2 rfl) ?_
      refine lv_iconst (v := nI 2) E.1.1 E.1.2.1 dX6_put_34 rfl ?_
      refine k_ne (tgt := 52) E dX6_put_35 (by decide) (by omega) (by omega) (fun c35 => ?_) (fun c35 => absurd c35 (by decide))
      refine lv_aload_n E.1.1 E.1.2.1 dX6_put_52 rfl (lv_at hl 0 rfl) ?_
      refine lv_iload_n E.1.1 E.1.2.1 dX6_put_53 rfl (lv_at hl 2 rfl) ?_
      refine k_z1 (tgt := 63) E dX6_put_54 (by decide) (by omega) (fun c54 => ?_) (fun c54 => absurd c54 (by decide))
      refine lv_iload_n E.1.1 E.1.2.1 dX6_put_63 rfl (lv_at hl 2 rfl) ?_
      refine lv_iconst (v := nI 1) E.1.1 E.1.2.1 dX6_put_64 rfl ?_
      refine k_ne (tgt := 72) E dX6_put_65 (by decide) (by omega) (by omega) (fun c65 => absurd c65 (by decide)) (fun c65 => ?_)
      refine lv_iload_n E.1.1 E.1.2.1 dX6_put_68 rfl (lv_at hl 3 rfl) ?_
      refine lv_goto (tgt := 73) E.1.1 E.1.2.1 dX6_put_69 (by decide) ?_
      refine k_put (ty0 := tyX6) E inlX6 rfl tyX6_ok nmX6 5 (by decide) w2_237 rfl rfl hw [.int (nI base), .ref (A 1), .ref (A 2), .ref (A 3), .ref (A 4), .int (nI a1), .int (nI pb), .ref (A 5), .int (nI ns), .ref (A 6), .ref (A 7), .ref (A 8)] h_o (rfl) (rfl) (Nat.le_of_ble_eq_true rfl) rfl dX6_put_73 (fun f H locs h_o hfr hw => ?_)
      have h_ts := h_ts.kp hfr (Ne.symm n_o_ts)
      have h_ps := h_ps.kp hfr (Ne.symm n_o_ps)
      have h_bs := h_bs.kp hfr (Ne.symm n_o_bs)
      have h_rw := h_rw.kp hfr (Ne.symm n_o_rw)
      have h_gs := h_gs.kp hfr (Ne.symm n_o_gs)
      have h_fa := h_fa.kp hfr (Ne.symm n_o_fa)
      have h_ba := h_ba.kp hfr (Ne.symm n_o_ba)
      have h_it := h_it.kp hfr (Ne.symm n_o_it)
      have hF : ∀ b ∈ L, b ≠ (A 0) → b ≠ (A 1) → b ≠ (A 2) → b ≠ (A 3) → b ≠ (A 4) → b ≠ (A 5) → f b = f0 b := fun b hb h0 h1 h2 h3 h4 h5 => (hfr b h0).trans (hF b hb h0 h1 h2 h3 h4 h5)
      refine lv_aload_n E.1.1 E.1.2.1 dX6_put_76 rfl (lv_at hl 0 rfl) ?_
      refine lv_iload_n E.1.1 E.1.2.1 dX6_put_77 rfl (lv_at hl 2 rfl) ?_
      refine lv_iconst (v := nI 2) E.1.1 E.1.2.1 dX6_put_78 rfl ?_
      refine k_ne (tgt := 87) E dX6_put_79 (by decide) (by omega) (by omega) (fun c79 => ?_) (fun c79 => absurd c79 (by decide))
      refine lv_iconst (v := nI 1) E.1.1 E.1.2.1 dX6_put_87 rfl ?_
      refine k_put (ty0 := tyX6) E inlX6 rfl tyX6_ok nmX6 6 (by decide) w2_238 rfl rfl hw [.int (nI base), .ref (A 1), .ref (A 2), .ref (A 3), .ref (A 4), .int (nI a1), .int (nI 1), .ref (A 5), .int (nI ns), .ref (A 6), .ref (A 7), .ref (A 8)] h_o (rfl) (rfl) (Nat.le_of_ble_eq_true rfl) rfl dX6_put_88 (fun f H locs h_o hfr hw => ?_)
      have h_ts := h_ts.kp hfr (Ne.symm n_o_ts)
      have h_ps := h_ps.kp hfr (Ne.symm n_o_ps)
      have h_bs := h_bs.kp hfr (Ne.symm n_o_bs)
      have h_rw := h_rw.kp hfr (Ne.symm n_o_rw)
      have h_gs := h_gs.kp hfr (Ne.symm n_o_gs)
      have h_fa := h_fa.kp hfr (Ne.symm n_o_fa)
      have h_ba := h_ba.kp hfr (Ne.symm n_o_ba)
      have h_it := h_it.kp hfr (Ne.symm n_o_it)
      have hF : ∀ b ∈ L, b ≠ (A 0) → b ≠ (A 1) → b ≠ (A 2) → b ≠ (A 3) → b ≠ (A 4) → b ≠ (A 5) → f b = f0 b := fun b hb h0 h1 h2 h3 h4 h5 => (hfr b h0).trans (hF b hb h0 h1 h2 h3 h4 h5)
      have hX : den (a1) (1) (rbx (kd 1 a1 (ix m0)) rr (a1 + 1)) = kd 1 a1 (ix m0) := den_rbx rr (by omega) (kd1_ev a1 (ix m0))
      rw [← rbx_0 (kd 1 a1 (ix m0)) rr] at h_rw
      refine lv_iconst (v := nI 0) E.1.1 E.1.2.1 dX6_put_91 rfl ?_
      refine lv_istore (lv' := [(5, .int (nI 0)), (0, .ref (A 0)), (1, .int (nI j)), (2, .int (nI 1)), (3, .int (nI a1)), (4, .int m0)]) E.1.1 E.1.2.1 dX6_put_92 hl (by decide) rfl (fun ls hl => ?_)
      have lp94 : ∀ (k : Nat) (u : Nat) (f : Nat → va_E) (H : Heap) (locs : List Loc) (ls : Array Slot), (a1 + 1 - u < k) → (u ≤ a1 + 1) → (cel L f (A 0) (.inr (6, [.int (nI base), .ref (A 1), .ref (A 2), .ref (A 3), .ref (A 4), .int (nI a1), .int (nI 1), .ref (A 5), .int (nI ns), .ref (A 6), .ref (A 7), .ref (A 8)]))) → (cel L f (A 1) (.inl (cy 0, 84, .inl (fun k => nI (T k))))) → (cel L f (A 2) (.inl (cy 0, 84, .inl (fun k => nI (P k))))) → (cel L f (A 3) (.inl (cy 1, 252, .inr (.inl (rw3 B))))) → (cel L f (A 4) (.inl (cy 2, 4096, .inl (fun k => b2i ((rbx (kd 1 a1 (ix m0)) rr u) k))))) → (cel L f (A 5) (.inl (cy 0, 325, .inl G))) → (cel L f (A 6) (.inl (cy 0, 65, .inl Fa))) → (cel L f (A 7) (.inl (cy 0, 2, .inl (fun k => nI (kb1 k))))) → (cel L f (A 8) (.inl (cy 2, 2, .inl (fun k => b2i (kp k))))) → (∀ b ∈ L, b ≠ (A 0) → b ≠ (A 1) → b ≠ (A 2) → b ≠ (A 3) → b ≠ (A 4) → b ≠ (A 5) → f b = f0 b) → (WW D (AW L sz) s.heap L f H locs) → (lv_has ls 6 [(5, .int (nI u)), (0, .ref (A 0)), (1, .int (nI j)), (2, .int (nI 1)), (3, .int (nI a1)), (4, .int m0)]) → W p l e R s m args below meth c H locs 0 0 Q (F0 m 94 ls []) := by
        intro k
        induction k with
        | zero => intro _ _ _ _ _ hk; exact absurd hk (Nat.not_lt_zero _)
        | succ k ih94 =>
          intro u f H locs ls hk hu h_o h_ts h_ps h_bs h_rw h_gs h_fa h_ba h_it hF hw hl
          refine lv_iload E.1.1 E.1.2.1 dX6_put_94 (lv_at hl 0 rfl) ?_
          refine lv_aload_n E.1.1 E.1.2.1 dX6_put_96 rfl (lv_at hl 1 rfl) ?_
          refine k_get (v := .int (nI a1)) E inlX6 rfl 5 (by decide) w2_237 rfl hw h_o rfl dX6_put_97 ?_
          refine lv_aload_n E.1.1 E.1.2.1 dX6_put_100 rfl (lv_at hl 1 rfl) ?_
          refine k_get (v := .int (nI 1)) E inlX6 rfl 6 (by decide) w2_238 rfl hw h_o rfl dX6_put_101 ?_
          refine k_add E dX6_put_104 ?_
          refine k_ge (tgt := 193) E dX6_put_105 (by decide) (by omega) (by omega) (fun c105 => ?_) (fun c105 => ?_)
          · rw [show u = a1 + 1 by omega] at h_rw
            refine lv_aload_n E.1.1 E.1.2.1 dX6_put_193 rfl (lv_at hl 1 rfl) ?_
            refine lv_iload_n E.1.1 E.1.2.1 dX6_put_194 rfl (lv_at hl 2 rfl) ?_
            refine k_mi hw (va_runV (As := [.int (nI j)]) (rest := []) E.1 (m_keep l D cy L f H.size A base a1 1 ns T P B (rbx (kd 1 a1 (ix m0)) rr (a1 + 1)) G hA hTP j (by omega) (by omega) (by omega) (by omega) (by omega) h_o h_ts h_ps h_bs h_rw h_gs) ⟨callB_of 1 E.1.2.2.2.2 (gd_own w3_47) rfl rfl rfl (E.1.2.2.2.2 _ w1_10) (E.1.2.2.2.2 _ w3_44) hd_X6_keep (by rw [hR]; exact ⟨Nat.le_of_ble_eq_true rfl, Nat.le_of_ble_eq_true rfl⟩), E.1.2.2.2.2 _ w3_46, E.1.2.2.2.2 _ ws_25⟩ (pw_preV (q := (RX6, TX6, 12)) E.2 hw h_o rfl) rfl rfl hl.1 rfl (lv_room (Nat.le_of_ble_eq_true rfl)) dX6_put_195 (by rw [hR]; exact ⟨Nat.le_of_ble_eq_true rfl, Nat.le_of_ble_eq_true rfl⟩)) (fun r L1 f H locs hp hw => ?_)
            obtain ⟨hL1, hfr, fr2, pb2, ns2, T2, P2, B2, rr2, G2, h_o, h_ts, h_ps, h_bs, h_rw, h_gs, hTP2, hag, hcase⟩ := hp
            have hL1 : L = L1 := hL1
            subst hL1
            have h_o : cel L f (A 0) (.inr (6, [.int (nI base), .ref (A 1), .ref (A 2), .ref (A 3), .ref (A 4), .int (nI fr2), .int (nI pb2), .ref (A 5), .int (nI ns2), .ref (A 6), .ref (A 7), .ref (A 8)])) := h_o
            have h_ts : cel L f (A 1) (.inl (cy 0, 84, .inl (fun k => nI (T2 k)))) := h_ts
            have h_ps : cel L f (A 2) (.inl (cy 0, 84, .inl (fun k => nI (P2 k)))) := h_ps
            have h_bs : cel L f (A 3) (.inl (cy 1, 252, .inr (.inl (rw3 B2)))) := h_bs
            have h_rw : cel L f (A 4) (.inl (cy 2, 4096, .inl (fun k => b2i (rr2 k)))) := h_rw
            have h_gs : cel L f (A 5) (.inl (cy 0, 325, .inl G2)) := h_gs
            have h_fa := h_fa.keep (fun _ h => h) (hfr _ h_fa.1 (Ne.symm n_o_fa) (Ne.symm n_ts_fa) (Ne.symm n_ps_fa) (Ne.symm n_bs_fa) (Ne.symm n_rw_fa) (Ne.symm n_gs_fa))
            have h_ba := h_ba.keep (fun _ h => h) (hfr _ h_ba.1 (Ne.symm n_o_ba) (Ne.symm n_ts_ba) (Ne.symm n_ps_ba) (Ne.symm n_bs_ba) (Ne.symm n_rw_ba) (Ne.symm n_gs_ba))
            have h_it := h_it.keep (fun _ h => h) (hfr _ h_it.1 (Ne.symm n_o_it) (Ne.symm n_ts_it) (Ne.symm n_ps_it) (Ne.symm n_bs_it) (Ne.symm n_rw_it) (Ne.symm n_gs_it))
            have hF : ∀ b ∈ L, b ≠ (A 0) → b ≠ (A 1) → b ≠ (A 2) → b ≠ (A 3) → b ≠ (A 4) → b ≠ (A 5) → f b = f0 b := fun b hb h0 h1 h2 h3 h4 h5 => (hfr b (hLs b hb) h0 h1 h2 h3 h4 h5).trans (hF b hb h0 h1 h2 h3 h4 h5)
            rw [hX] at hcase
            exact k_miret E hQ hlk hr hw (Nat.le_of_ble_eq_true rfl) (Nat.le_of_ble_eq_true rfl) (⟨rfl, fun b hb h => hF b hb (h 0 (by decide)) (h 1 (by decide)) (h 2 (by decide)) (h 3 (by decide)) (h 4 (by decide)) (h 5 (by decide)), by
      obtain ⟨SS2, hW2, hH⟩ := mo_hold hB hMS hMK ⟨h_o, h_ts, h_ps, h_bs, h_rw, h_gs, h_fa, h_ba, h_it⟩ hTP2 (by omega) hag hcase
      exact ⟨SS2, hW2, sp_put_ok hj (by decide) (fun _ => c30) (fun h => absurd h (by decide)) (by rw [ix_nI (by omega)]; exact hH)⟩⟩) dX6_put_198
          · refine lv_aload_n E.1.1 E.1.2.1 dX6_put_108 rfl (lv_at hl 1 rfl) ?_
            refine k_get (v := .ref (A 4)) E inlX6 rfl 4 (by decide) w2_236 rfl hw h_o rfl dX6_put_109 ?_
            refine lv_iload E.1.1 E.1.2.1 dX6_put_112 (lv_at hl 0 rfl) ?_
            refine lv_iload_n E.1.1 E.1.2.1 dX6_put_114 rfl (lv_at hl 3 rfl) ?_
            refine k_z1 (tgt := 132) E dX6_put_115 (by decide) (by omega) (fun c115 => ?_) (fun c115 => absurd c115 (by decide))
            refine lv_iload_n E.1.1 E.1.2.1 dX6_put_132 rfl (lv_at hl 3 rfl) ?_
            refine lv_iconst (v := nI 1) E.1.1 E.1.2.1 dX6_put_133 rfl ?_
            refine k_ne (tgt := 151) E dX6_put_134 (by decide) (by omega) (by omega) (fun c134 => absurd c134 (by decide)) (fun c134 => ?_)
            refine lv_iload E.1.1 E.1.2.1 dX6_put_137 (lv_at hl 0 rfl) ?_
            refine lv_iload_n E.1.1 E.1.2.1 dX6_put_139 rfl (lv_at hl 4 rfl) ?_
            refine k_lt (tgt := 147) E dX6_put_140 (by decide) (by omega) (by omega) (fun c140 => ?_) (fun c140 => ?_)
            · refine lv_iconst (v := nI 0) E.1.1 E.1.2.1 dX6_put_147 rfl ?_
              refine lv_goto (tgt := 186) E.1.1 E.1.2.1 dX6_put_148 (by decide) ?_
              refine W.eq (g2 := F0 m 186 ls (.int (b2i false) :: .int (nI u) :: .ref (A 4) :: [])) rfl ?_
              refine k_zast E hw (fun k => b2i (rbx (kd 1 a1 (ix m0)) rr (u + 1) k)) h_rw (by omega) (by omega) (fun i _ => rbx_v (by simp [kd]; omega) i) dX6_put_186 (fun f H locs h_rw hfr hw => ?_)
              have h_o := h_o.kp hfr n_o_rw
              have h_ts := h_ts.kp hfr n_ts_rw
              have h_ps := h_ps.kp hfr n_ps_rw
              have h_bs := h_bs.kp hfr n_bs_rw
              have h_gs := h_gs.kp hfr (Ne.symm n_rw_gs)
              have h_fa := h_fa.kp hfr (Ne.symm n_rw_fa)
              have h_ba := h_ba.kp hfr (Ne.symm n_rw_ba)
              have h_it := h_it.kp hfr (Ne.symm n_rw_it)
              have hF : ∀ b ∈ L, b ≠ (A 0) → b ≠ (A 1) → b ≠ (A 2) → b ≠ (A 3) → b ≠ (A 4) → b ≠ (A 5) → f b = f0 b := fun b hb h0 h1 h2 h3 h4 h5 => (hfr b h4).trans (hF b hb h0 h1 h2 h3 h4 h5)
              refine lv_iinc (v := nI (u + 1)) (lv' := [(5, .int (nI (u + 1))), (0, .ref (A 0)), (1, .int (nI j)), (2, .int (nI 1)), (3, .int (nI a1)), (4, .int m0)]) E.1.1 E.1.2.1 dX6_put_187 hl (k := 0) rfl (nI_1 _) (by decide) rfl (fun ls hl => ?_)
              refine lv_goto (tgt := 94) E.1.1 E.1.2.1 dX6_put_190 (by decide) ?_
              exact ih94  (u + 1) f H locs ls (by omega) (by omega) h_o h_ts h_ps h_bs h_rw h_gs h_fa h_ba h_it hF hw (lv_sub hl [0, 1, 2, 3, 4, 5] rfl)
            · refine lv_iconst (v := nI 1) E.1.1 E.1.2.1 dX6_put_143 rfl ?_
              refine lv_goto (tgt := 186) E.1.1 E.1.2.1 dX6_put_144 (by decide) ?_
              refine W.eq (g2 := F0 m 186 ls (.int (b2i true) :: .int (nI u) :: .ref (A 4) :: [])) rfl ?_
              refine k_zast E hw (fun k => b2i (rbx (kd 1 a1 (ix m0)) rr (u + 1) k)) h_rw (by omega) (by omega) (fun i _ => rbx_v (by simp [kd]; omega) i) dX6_put_186 (fun f H locs h_rw hfr hw => ?_)
              have h_o := h_o.kp hfr n_o_rw
              have h_ts := h_ts.kp hfr n_ts_rw
              have h_ps := h_ps.kp hfr n_ps_rw
              have h_bs := h_bs.kp hfr n_bs_rw
              have h_gs := h_gs.kp hfr (Ne.symm n_rw_gs)
              have h_fa := h_fa.kp hfr (Ne.symm n_rw_fa)
              have h_ba := h_ba.kp hfr (Ne.symm n_rw_ba)
              have h_it := h_it.kp hfr (Ne.symm n_rw_it)
              have hF : ∀ b ∈ L, b ≠ (A 0) → b ≠ (A 1) → b ≠ (A 2) → b ≠ (A 3) → b ≠ (A 4) → b ≠ (A 5) → f b = f0 b := fun b hb h0 h1 h2 h3 h4 h5 => (hfr b h4).trans (hF b hb h0 h1 h2 h3 h4 h5)
              refine lv_iinc (v := nI (u + 1)) (lv' := [(5, .int (nI (u + 1))), (0, .ref (A 0)), (1, .int (nI j)), (2, .int (nI 1)), (3, .int (nI a1)), (4, .int m0)]) E.1.1 E.1.2.1 dX6_put_187 hl (k := 0) rfl (nI_1 _) (by decide) rfl (fun ls hl => ?_)
              refine lv_goto (tgt := 94) E.1.1 E.1.2.1 dX6_put_190 (by decide) ?_
              exact ih94  (u + 1) f H locs ls (by omega) (by omega) h_o h_ts h_ps h_bs h_rw h_gs h_fa h_ba h_it hF hw (lv_sub hl [0, 1, 2, 3, 4, 5] rfl)
      exact lp94 (a1 + 1 - 0 + 1) 0 f H locs ls (Nat.lt_succ_self _) (by omega) h_o h_ts h_ps h_bs h_rw h_gs h_fa h_ba h_it hF hw (lv_sub hl [0, 1, 2, 3, 4, 5] rfl)
  · refine lv_iconst (v := -1) E.1.1 E.1.2.1 dX6_put_7 rfl ?_
    exact k_miret E hQ hlk hr hw (Nat.le_of_ble_eq_true rfl) (Nat.le_of_ble_eq_true rfl) (⟨rfl, fun b hb h => hF b hb (h 0 (by decide)) (h 1 (by decide)) (h 2 (by decide)) (h 3 (by decide)) (h 4 (by decide)) (h 5 (by decide)), SS, ⟨hB, _, _, _, _, _, _, _, _, _, _, ⟨h_o, h_ts, h_ps, h_bs, h_rw, h_gs, h_fa, h_ba, h_it⟩, hTP, hMS, hMK⟩, sp_put_1 c4⟩) dX6_put_8

set_option maxHeartbeats 4000000 in
set_option maxRecDepth 100000 in
theorem m_put2 (l : Launch) (D : va_G) (cy : Nat → ClassId) (L : List Nat) (f0 : Nat → va_E) (sz : Nat) (A : Nat → Nat) (base : Nat) (SS : Nat → Nat → Bool) (kp : Nat → Bool) (kb : Nat → Nat) (KS : Nat → Nat → Nat → Bool) (hA : MAd A) (hN : MoW cy L f0 A base SS kp kb KS) (to : Int32) (a m0 : Int32) : Met l yX6_put (.code yX6_put cX6_put 6 (Option.some FieldType.int) :: wsL_law) { frames := 6, cells := 0, slots := 0, locals := 136 } (va_Pc [.ref (A 0), .int to, .int (nI 2), .int a, .int m0] (PW D cy L f0 sz)) (va_Qi (fun (r : Int32) (u : List Nat × (Nat → va_E)) => L = u.1 ∧ (∀ b ∈ L, (∀ i, i < 9 → b ≠ A i) → u.2 b = f0 b) ∧ ∃ SS2, MoW cy L u.2 A base SS2 kp kb KS ∧ sp_put base SS SS2 to (nI 2) a m0 r) (PB D (AW L sz)) (AW L sz)) 0 0 (AW L sz) := by
  refine m_start (by decide) (Nat.le_of_ble_eq_true rfl) ?_
  intro p e R Q s m args below meth c ls hsz hR hQ E hr hlk hnm hw hl
  have hl : lv_has ls 6 [(0, .ref (A 0)), (1, .int to), (2, .int (nI 2)), (3, .int a), (4, .int m0)] := hl
  obtain ⟨H, hH⟩ : ∃ X, X = s.heap := ⟨_, rfl⟩
  obtain ⟨locs, hlocs⟩ : ∃ X : List Loc, X = [] := ⟨_, rfl⟩
  have hw0 := hw
  obtain ⟨hB, fr, pb, ns, T, P, B, rr, G, Fa, kb1, ⟨h_o, h_ts, h_ps, h_bs, h_rw, h_gs, h_fa, h_ba, h_it⟩, hTP, hMS, hMK⟩ := hN
  have hb2 := hB.two
  obtain ⟨f, hf0⟩ : ∃ X, X = f0 := ⟨_, rfl⟩
  rw [← hf0] at h_o h_ts h_ps h_bs h_rw h_gs h_fa h_ba h_it
  have hw : WW D (AW L sz) s.heap L f H locs := by rw [hH, hlocs, hf0]; exact hw
  have hF : ∀ b ∈ L, b ≠ (A 0) → b ≠ (A 1) → b ≠ (A 2) → b ≠ (A 3) → b ≠ (A 4) → b ≠ (A 5) → f b = f0 b := fun b hb h0 h1 h2 h3 h4 h5 => by rw [hf0]
  suffices hgo : W p l e R s m args below meth c H locs 0 0 Q (F0 m 0 ls []) by rw [hH, hlocs] at hgo; exact hgo
  clear hH hlocs hw0 hf0
  have hLs : ∀ b ∈ L, b ∈ L := fun _ h => h
  have n_o_ts : A 0 ≠ A 1 := hA.ne (by decide) (by decide) (by decide)
  have n_o_ps : A 0 ≠ A 2 := hA.ne (by decide) (by decide) (by decide)
  have n_o_bs : A 0 ≠ A 3 := hA.ne (by decide) (by decide) (by decide)
  have n_o_rw : A 0 ≠ A 4 := hA.ne (by decide) (by decide) (by decide)
  have n_o_gs : A 0 ≠ A 5 := hA.ne (by decide) (by decide) (by decide)
  have n_o_fa : A 0 ≠ A 6 := hA.ne (by decide) (by decide) (by decide)
  have n_o_ba : A 0 ≠ A 7 := hA.ne (by decide) (by decide) (by decide)
  have n_o_it : A 0 ≠ A 8 := hA.ne (by decide) (by decide) (by decide)
  have n_ts_ps : A 1 ≠ A 2 := hA.ne (by decide) (by decide) (by decide)
  have n_ts_bs : A 1 ≠ A 3 := hA.ne (by decide) (by decide) (by decide)
  have n_ts_rw : A 1 ≠ A 4 := hA.ne (by decide) (by decide) (by decide)
  have n_ts_gs : A 1 ≠ A 5 := hA.ne (by decide) (by decide) (by decide)
  have n_ts_fa : A 1 ≠ A 6 := hA.ne (by decide) (by decide) (by decide)
  have n_ts_ba : A 1 ≠ A 7 := hA.ne (by decide) (by decide) (by decide)
  have n_ts_it : A 1 ≠ A 8 := hA.ne (by decide) (by decide) (by decide)
  have n_ps_bs : A 2 ≠ A 3 := hA.ne (by decide) (by decide) (by decide)
  have n_ps_rw : A 2 ≠ A 4 := hA.ne (by decide) (by decide) (by decide)
  have n_ps_gs : A 2 ≠ A 5 := hA.ne (by decide) (by decide) (by decide)
  have n_ps_fa : A 2 ≠ A 6 := hA.ne (by decide) (by decide) (by decide)
  have n_ps_ba : A 2 ≠ A 7 := hA.ne (by decide) (by decide) (by decide)
  have n_ps_it : A 2 ≠ A 8 := hA.ne (by decide) (by decide) (by decide)
  have n_bs_rw : A 3 ≠ A 4 := hA.ne (by decide) (by decide) (by decide)
  have n_bs_gs : A 3 ≠ A 5 := hA.ne (by decide) (by decide) (by decide)
  have n_bs_fa : A 3 ≠ A 6 := hA.ne (by decide) (by decide) (by decide)
  have n_bs_ba : A 3 ≠ A 7 := hA.ne (by decide) (by decide) (by decide)
  have n_bs_it : A 3 ≠ A 8 := hA.ne (by decide) (by decide) (by decide)
  have n_rw_gs : A 4 ≠ A 5 := hA.ne (by decide) (by decide) (by decide)
  have n_rw_fa : A 4 ≠ A 6 := hA.ne (by decide) (by decide) (by decide)
  have n_rw_ba : A 4 ≠ A 7 := hA.ne (by decide) (by decide) (by decide)
  have n_rw_it : A 4 ≠ A 8 := hA.ne (by decide) (by decide) (by decide)
  have n_gs_fa : A 5 ≠ A 6 := hA.ne (by decide) (by decide) (by decide)
  have n_gs_ba : A 5 ≠ A 7 := hA.ne (by decide) (by decide) (by decide)
  have n_gs_it : A 5 ≠ A 8 := hA.ne (by decide) (by decide) (by decide)
  refine lv_iload_n E.1.1 E.1.2.1 dX6_put_0 rfl (lv_at hl 1 rfl) ?_
  refine k_ri (va_runS (As := [.int to]) (rest := []) E.1 (m_isSlot l D cy L f H.size to) ⟨callB_of 1 E.1.2.2.2.2 (gd_own w3_40) rfl rfl rfl (E.1.2.2.2.2 _ w1_10) (E.1.2.2.2.2 _ w3_38) hd_X6_isSlot (by rw [hR]; exact ⟨Nat.le_of_ble_eq_true rfl, Nat.le_of_ble_eq_true rfl⟩), E.1.2.2.2.2 _ w3_39⟩ (pw_pre E.2 hw) rfl rfl hl.1 rfl (lv_room (Nat.le_of_ble_eq_true rfl)) dX6_put_1 ⟨Nat.zero_le _, Nat.zero_le _⟩) ?_
  refine k_if1 (tgt := 9) E dX6_put_4 (by decide) (fun c4 => ?_) (fun c4 => ?_)
  · obtain ⟨j, hj, rfl⟩ := in_ex (by decide) c4
    refine lv_iload_n E.1.1 E.1.2.1 dX6_put_9 rfl (lv_at hl 2 rfl) ?_
    refine lv_iconst (v := nI 0) E.1.1 E.1.2.1 dX6_put_10 rfl ?_
    refine lv_iconst (v := nI 4) E.1.1 E.1.2.1 dX6_put_11 rfl ?_
    refine k_ri (va_runS (As := [.int (nI 2), .int (nI 0), .int (nI 4)]) (rest := []) E.1 (m_in l D cy L f H.size (nI 2) (nI 0) (nI 4)) ⟨callB_of 3 E.1.2.2.2.2 (gd_own w3_43) rfl rfl rfl (E.1.2.2.2.2 _ w1_10) (E.1.2.2.2.2 _ w3_41) hd_X6_in (by rw [hR]; exact ⟨Nat.le_of_ble_eq_true rfl, Nat.le_of_ble_eq_true rfl⟩), E.1.2.2.2.2 _ w3_42⟩ (pw_pre E.2 hw) rfl rfl hl.1 rfl (lv_room (Nat.le_of_ble_eq_true rfl)) dX6_put_12 ⟨Nat.zero_le _, Nat.zero_le _⟩) ?_
    refine k_if0 (tgt := 49) E dX6_put_15 (by decide) (fun c15 => absurd (show i32in (nI 2) 0 (nI 4) = false from c15) (by rw [in_t (by decide) (by decide)]; decide)) (fun c15 => ?_)
    refine lv_iload_n E.1.1 E.1.2.1 dX6_put_18 rfl (lv_at hl 2 rfl) ?_
    refine lv_iconst (v := nI 3) E.1.1 E.1.2.1 dX6_put_19 rfl ?_
    refine k_ge (tgt := 33) E dX6_put_20 (by decide) (by omega) (by omega) (fun c20 => absurd c20 (by decide)) (fun c20 => ?_)
    refine lv_iload_n E.1.1 E.1.2.1 dX6_put_23 rfl (lv_at hl 3 rfl) ?_
    refine lv_iconst (v := nI 0) E.1.1 E.1.2.1 dX6_put_24 rfl ?_
    refine lv_bipush (v := nI 100) E.1.1 E.1.2.1 dX6_put_25 rfl ?_
    refine k_ri (va_runS (As := [.int a, .int (nI 0), .int (nI 100)]) (rest := []) E.1 (m_in l D cy L f H.size a (nI 0) (nI 100)) ⟨callB_of 3 E.1.2.2.2.2 (gd_own w3_43) rfl rfl rfl (E.1.2.2.2.2 _ w1_10) (E.1.2.2.2.2 _ w3_41) hd_X6_in (by rw [hR]; exact ⟨Nat.le_of_ble_eq_true rfl, Nat.le_of_ble_eq_true rfl⟩), E.1.2.2.2.2 _ w3_42⟩ (pw_pre E.2 hw) rfl rfl hl.1 rfl (lv_room (Nat.le_of_ble_eq_true rfl)) dX6_put_27 ⟨Nat.zero_le _, Nat.zero_le _⟩) ?_
    refine k_if0 (tgt := 49) E dX6_put_30 (by decide) (fun c30 => ?_) (fun c30 => ?_)
    · refine lv_bipush (v := -2) E.1.1 E.1.2.1 dX6_put_49 rfl ?_
      exact k_miret E hQ hlk hr hw (Nat.le_of_ble_eq_true rfl) (Nat.le_of_ble_eq_true rfl) (⟨rfl, fun b hb h => hF b hb (h 0 (by decide)) (h 1 (by decide)) (h 2 (by decide)) (h 3 (by decide)) (h 4 (by decide)) (h 5 (by decide)), SS, ⟨hB, _, _, _, _, _, _, _, _, _, _, ⟨h_o, h_ts, h_ps, h_bs, h_rw, h_gs, h_fa, h_ba, h_it⟩, hTP, hMS, hMK⟩, sp_put_2 hj (Or.inr (Or.inl ⟨by decide, c30⟩))⟩) dX6_put_51
    · obtain ⟨a1, ha1, rfl⟩ := in_ex (by decide) c30
      refine lv_iload_n E.1.1 E.1.2.1 dX6_put_33 rfl (lv_at hl 2 rfl) ?_
      refine lv_iconst (v := nI 2) E.1.1 E.1.2.1 dX6_put_34 rfl ?_
      refine k_ne (tgt := 52) E dX6_put_35 (by decide) (by omega) (by omega) (fun c35 => absurd c35 (by decide)) (fun c35 => ?_)
      refine lv_iload E.1.1 E.1.2.1 dX6_put_38 (lv_at hl 4 rfl) ?_
      refine lv_iconst (v := nI 1) E.1.1 E.1.2.1 dX6_put_40 rfl ?_
      refine lv_bipush (v := nI 60) E.1.1 E.1.2.1 dX6_put_41 rfl ?_
      refine k_ri (va_runS (As := [.int m0, .int (nI 1), .int (nI 60)]) (rest := []) E.1 (m_in l D cy L f H.size m0 (nI 1) (nI 60)) ⟨callB_of 3 E.1.2.2.2.2 (gd_own w3_43) rfl rfl rfl (E.1.2.2.2.2 _ w1_10) (E.1.2.2.2.2 _ w3_41) hd_X6_in (by rw [hR]; exact ⟨Nat.le_of_ble_eq_true rfl, Nat.le_of_ble_eq_true rfl⟩), E.1.2.2.2.2 _ w3_42⟩ (pw_pre E.2 hw) rfl rfl hl.1 rfl (lv_room (Nat.le_of_ble_eq_true rfl)) dX6_put_43 ⟨Nat.zero_le _, Nat.zero_le _⟩) ?_
      refine k_if1 (tgt := 52) E dX6_put_46 (by decide) (fun c46 => ?_) (fun c46 => ?_)
      · obtain ⟨w1, hw1, hw2, rfl⟩ := in_ex1 (by decide) c46 (by decide)
        refine lv_aload_n E.1.1 E.1.2.1 dX6_put_52 rfl (lv_at hl 0 rfl) ?_
        refine lv_iload_n E.1.1 E.1.2.1 dX6_put_53 rfl (lv_at hl 2 rfl) ?_
        refine k_z1 (tgt := 63) E dX6_put_54 (by decide) (by omega) (fun c54 => ?_) (fun c54 => absurd c54 (by decide))
        refine lv_iload_n E.1.1 E.1.2.1 dX6_put_63 rfl (lv_at hl 2 rfl) ?_
        refine lv_iconst (v := nI 1) E.1.1 E.1.2.1 dX6_put_64 rfl ?_
        refine k_ne (tgt := 72) E dX6_put_65 (by decide) (by omega) (by omega) (fun c65 => ?_) (fun c65 => absurd c65 (by decide))
        refine lv_iconst (v := nI 0) E.1.1 E.1.2.1 dX6_put_72 rfl ?_
        refine k_put (ty0 := tyX6) E inlX6 rfl tyX6_ok nmX6 5 (by decide) w2_237 rfl rfl hw [.int (nI base), .ref (A 1), .ref (A 2), .ref (A 3), .ref (A 4), .int (nI 0), .int (nI pb), .ref (A 5), .int (nI ns), .ref (A 6), .ref (A 7), .ref (A 8)] h_o (rfl) (rfl) (Nat.le_of_ble_eq_true rfl) rfl dX6_put_73 (fun f H locs h_o hfr hw => ?_)
        have h_ts := h_ts.kp hfr (Ne.symm n_o_ts)
        have h_ps := h_ps.kp hfr (Ne.symm n_o_ps)
        have h_bs := h_bs.kp hfr (Ne.symm n_o_bs)
        have h_rw := h_rw.kp hfr (Ne.symm n_o_rw)
        have h_gs := h_gs.kp hfr (Ne.symm n_o_gs)
        have h_fa := h_fa.kp hfr (Ne.symm n_o_fa)
        have h_ba := h_ba.kp hfr (Ne.symm n_o_ba)
        have h_it := h_it.kp hfr (Ne.symm n_o_it)
        have hF : ∀ b ∈ L, b ≠ (A 0) → b ≠ (A 1) → b ≠ (A 2) → b ≠ (A 3) → b ≠ (A 4) → b ≠ (A 5) → f b = f0 b := fun b hb h0 h1 h2 h3 h4 h5 => (hfr b h0).trans (hF b hb h0 h1 h2 h3 h4 h5)
        refine lv_aload_n E.1.1 E.1.2.1 dX6_put_76 rfl (lv_at hl 0 rfl) ?_
        refine lv_iload_n E.1.1 E.1.2.1 dX6_put_77 rfl (lv_at hl 2 rfl) ?_
        refine lv_iconst (v := nI 2) E.1.1 E.1.2.1 dX6_put_78 rfl ?_
        refine k_ne (tgt := 87) E dX6_put_79 (by decide) (by omega) (by omega) (fun c79 => absurd c79 (by decide)) (fun c79 => ?_)
        refine lv_iload E.1.1 E.1.2.1 dX6_put_82 (lv_at hl 4 rfl) ?_
        refine lv_goto (tgt := 88) E.1.1 E.1.2.1 dX6_put_84 (by decide) ?_
        refine k_put (ty0 := tyX6) E inlX6 rfl tyX6_ok nmX6 6 (by decide) w2_238 rfl rfl hw [.int (nI base), .ref (A 1), .ref (A 2), .ref (A 3), .ref (A 4), .int (nI 0), .int (nI w1), .ref (A 5), .int (nI ns), .ref (A 6), .ref (A 7), .ref (A 8)] h_o (rfl) (rfl) (Nat.le_of_ble_eq_true rfl) rfl dX6_put_88 (fun f H locs h_o hfr hw => ?_)
        have h_ts := h_ts.kp hfr (Ne.symm n_o_ts)
        have h_ps := h_ps.kp hfr (Ne.symm n_o_ps)
        have h_bs := h_bs.kp hfr (Ne.symm n_o_bs)
        have h_rw := h_rw.kp hfr (Ne.symm n_o_rw)
        have h_gs := h_gs.kp hfr (Ne.symm n_o_gs)
        have h_fa := h_fa.kp hfr (Ne.symm n_o_fa)
        have h_ba := h_ba.kp hfr (Ne.symm n_o_ba)
        have h_it := h_it.kp hfr (Ne.symm n_o_it)
        have hF : ∀ b ∈ L, b ≠ (A 0) → b ≠ (A 1) → b ≠ (A 2) → b ≠ (A 3) → b ≠ (A 4) → b ≠ (A 5) → f b = f0 b := fun b hb h0 h1 h2 h3 h4 h5 => (hfr b h0).trans (hF b hb h0 h1 h2 h3 h4 h5)
        have hX : den (0) (w1) (rbx (kd 2 a1 w1) rr (0 + w1)) = kd 2 a1 w1 := den_rbx rr (by omega) (kd2_ev a1 w1)
        rw [← rbx_0 (kd 2 a1 w1) rr] at h_rw
        refine lv_iconst (v := nI 0) E.1.1 E.1.2.1 dX6_put_91 rfl ?_
        refine lv_istore (lv' := [(5, .int (nI 0)), (0, .ref (A 0)), (1, .int (nI j)), (2, .int (nI 2)), (3, .int (nI a1)), (4, .int (nI w1))]) E.1.1 E.1.2.1 dX6_put_92 hl (by decide) rfl (fun ls hl => ?_)
        have lp94 : ∀ (k : Nat) (u : Nat) (f : Nat → va_E) (H : Heap) (locs : List Loc) (ls : Array Slot), (0 + w1 - u < k) → (u ≤ 0 + w1) → (cel L f (A 0) (.inr (6, [.int (nI base), .ref (A 1), .ref (A 2), .ref (A 3), .ref (A 4), .int (nI 0), .int (nI w1), .ref (A 5), .int (nI ns), .ref (A 6), .ref (A 7), .ref (A 8)]))) → (cel L f (A 1) (.inl (cy 0, 84, .inl (fun k => nI (T k))))) → (cel L f (A 2) (.inl (cy 0, 84, .inl (fun k => nI (P k))))) → (cel L f (A 3) (.inl (cy 1, 252, .inr (.inl (rw3 B))))) → (cel L f (A 4) (.inl (cy 2, 4096, .inl (fun k => b2i ((rbx (kd 2 a1 w1) rr u) k))))) → (cel L f (A 5) (.inl (cy 0, 325, .inl G))) → (cel L f (A 6) (.inl (cy 0, 65, .inl Fa))) → (cel L f (A 7) (.inl (cy 0, 2, .inl (fun k => nI (kb1 k))))) → (cel L f (A 8) (.inl (cy 2, 2, .inl (fun k => b2i (kp k))))) → (∀ b ∈ L, b ≠ (A 0) → b ≠ (A 1) → b ≠ (A 2) → b ≠ (A 3) → b ≠ (A 4) → b ≠ (A 5) → f b = f0 b) → (WW D (AW L sz) s.heap L f H locs) → (lv_has ls 6 [(5, .int (nI u)), (0, .ref (A 0)), (1, .int (nI j)), (2, .int (nI 2)), (3, .int (nI a1)), (4, .int (nI w1))]) → W p l e R s m args below meth c H locs 0 0 Q (F0 m 94 ls []) := by
          intro k
          induction k with
          | zero => intro _ _ _ _ _ hk; exact absurd hk (Nat.not_lt_zero _)
          | succ k ih94 =>
            intro u f H locs ls hk hu h_o h_ts h_ps h_bs h_rw h_gs h_fa h_ba h_it hF hw hl
            refine lv_iload E.1.1 E.1.2.1 dX6_put_94 (lv_at hl 0 rfl) ?_
            refine lv_aload_n E.1.1 E.1.2.1 dX6_put_96 rfl (lv_at hl 1 rfl) ?_
            refine k_get (v := .int (nI 0)) E inlX6 rfl 5 (by decide) w2_237 rfl hw h_o rfl dX6_put_97 ?_
            refine lv_aload_n E.1.1 E.1.2.1 dX6_put_100 rfl (lv_at hl 1 rfl) ?_
            refine k_get (v := .int (nI w1)) E inlX6 rfl 6 (by decide) w2_238 rfl hw h_o rfl dX6_put_101 ?_
            refine k_add E dX6_put_104 ?_
            refine k_ge (tgt := 193) E dX6_put_105 (by decide) (by omega) (by omega) (fun c105 => ?_) (fun c105 => ?_)
            · rw [show u = 0 + w1 by omega] at h_rw
              refine lv_aload_n E.1.1 E.1.2.1 dX6_put_193 rfl (lv_at hl 1 rfl) ?_
              refine lv_iload_n E.1.1 E.1.2.1 dX6_put_194 rfl (lv_at hl 2 rfl) ?_
              refine k_mi hw (va_runV (As := [.int (nI j)]) (rest := []) E.1 (m_keep l D cy L f H.size A base 0 w1 ns T P B (rbx (kd 2 a1 w1) rr (0 + w1)) G hA hTP j (by omega) (by omega) (by omega) (by omega) (by omega) h_o h_ts h_ps h_bs h_rw h_gs) ⟨callB_of 1 E.1.2.2.2.2 (gd_own w3_47) rfl rfl rfl (E.1.2.2.2.2 _ w1_10) (E.1.2.2.2.2 _ w3_44) hd_X6_keep (by rw [hR]; exact ⟨Nat.le_of_ble_eq_true rfl, Nat.le_of_ble_eq_true rfl⟩), E.1.2.2.2.2 _ w3_46, E.1.2.2.2.2 _ ws_25⟩ (pw_preV (q := (RX6, TX6, 12)) E.2 hw h_o rfl) rfl rfl hl.1 rfl (lv_room (Nat.le_of_ble_eq_true rfl)) dX6_put_195 (by rw [hR]; exact ⟨Nat.le_of_ble_eq_true rfl, Nat.le_of_ble_eq_true rfl⟩)) (fun r L1 f H locs hp hw => ?_)
              obtain ⟨hL1, hfr, fr2, pb2, ns2, T2, P2, B2, rr2, G2, h_o, h_ts, h_ps, h_bs, h_rw, h_gs, hTP2, hag, hcase⟩ := hp
              have hL1 : L = L1 := hL1
              subst hL1
              have h_o : cel L f (A 0) (.inr (6, [.int (nI base), .ref (A 1), .ref (A 2), .ref (A 3), .ref (A 4), .int (nI fr2), .int (nI pb2), .ref (A 5), .int (nI ns2), .ref (A 6), .ref (A 7), .ref (A 8)])) := h_o
              have h_ts : cel L f (A 1) (.inl (cy 0, 84, .inl (fun k => nI (T2 k)))) := h_ts
              have h_ps : cel L f (A 2) (.inl (cy 0, 84, .inl (fun k => nI (P2 k)))) := h_ps
              have h_bs : cel L f (A 3) (.inl (cy 1, 252, .inr (.inl (rw3 B2)))) := h_bs
              have h_rw : cel L f (A 4) (.inl (cy 2, 4096, .inl (fun k => b2i (rr2 k)))) := h_rw
              have h_gs : cel L f (A 5) (.inl (cy 0, 325, .inl G2)) := h_gs
              have h_fa := h_fa.keep (fun _ h => h) (hfr _ h_fa.1 (Ne.symm n_o_fa) (Ne.symm n_ts_fa) (Ne.symm n_ps_fa) (Ne.symm n_bs_fa) (Ne.symm n_rw_fa) (Ne.symm n_gs_fa))
              have h_ba := h_ba.keep (fun _ h => h) (hfr _ h_ba.1 (Ne.symm n_o_ba) (Ne.symm n_ts_ba) (Ne.symm n_ps_ba) (Ne.symm n_bs_ba) (Ne.symm n_rw_ba) (Ne.symm n_gs_ba))
              have h_it := h_it.keep (fun _ h => h) (hfr _ h_it.1 (Ne.symm n_o_it) (Ne.symm n_ts_it) (Ne.symm n_ps_it) (Ne.symm n_bs_it) (Ne.symm n_rw_it) (Ne.symm n_gs_it))
              have hF : ∀ b ∈ L, b ≠ (A 0) → b ≠ (A 1) → b ≠ (A 2) → b ≠ (A 3) → b ≠ (A 4) → b ≠ (A 5) → f b = f0 b := fun b hb h0 h1 h2 h3 h4 h5 => (hfr b (hLs b hb) h0 h1 h2 h3 h4 h5).trans (hF b hb h0 h1 h2 h3 h4 h5)
              rw [hX] at hcase
              exact k_miret E hQ hlk hr hw (Nat.le_of_ble_eq_true rfl) (Nat.le_of_ble_eq_true rfl) (⟨rfl, fun b hb h => hF b hb (h 0 (by decide)) (h 1 (by decide)) (h 2 (by decide)) (h 3 (by decide)) (h 4 (by decide)) (h 5 (by decide)), by
      obtain ⟨SS2, hW2, hH⟩ := mo_hold hB hMS hMK ⟨h_o, h_ts, h_ps, h_bs, h_rw, h_gs, h_fa, h_ba, h_it⟩ hTP2 (by omega) hag hcase
      exact ⟨SS2, hW2, sp_put_ok hj (by decide) (fun _ => c30) (fun _ => c46) (by rw [ix_nI (by omega), ix_nI (by omega)]; exact hH)⟩⟩) dX6_put_198
            · refine lv_aload_n E.1.1 E.1.2.1 dX6_put_108 rfl (lv_at hl 1 rfl) ?_
              refine k_get (v := .ref (A 4)) E inlX6 rfl 4 (by decide) w2_236 rfl hw h_o rfl dX6_put_109 ?_
              refine lv_iload E.1.1 E.1.2.1 dX6_put_112 (lv_at hl 0 rfl) ?_
              refine lv_iload_n E.1.1 E.1.2.1 dX6_put_114 rfl (lv_at hl 3 rfl) ?_
              refine k_z1 (tgt := 132) E dX6_put_115 (by decide) (by omega) (fun c115 => ?_) (fun c115 => absurd c115 (by decide))
              refine lv_iload_n E.1.1 E.1.2.1 dX6_put_132 rfl (lv_at hl 3 rfl) ?_
              refine lv_iconst (v := nI 1) E.1.1 E.1.2.1 dX6_put_133 rfl ?_
              refine k_ne (tgt := 151) E dX6_put_134 (by decide) (by omega) (by omega) (fun c134 => ?_) (fun c134 => absurd c134 (by decide))
              refine lv_iload_n E.1.1 E.1.2.1 dX6_put_151 rfl (lv_at hl 3 rfl) ?_
              refine lv_iconst (v := nI 2) E.1.1 E.1.2.1 dX6_put_152 rfl ?_
              refine k_ne (tgt := 176) E dX6_put_153 (by decide) (by omega) (by omega) (fun c153 => absurd c153 (by decide)) (fun c153 => ?_)
              have hm1 := Nat.mod_lt u (show 0 < w1 by omega)
              have hm2 := Nat.mod_lt a1 (show 0 < w1 by omega)
              refine lv_iload E.1.1 E.1.2.1 dX6_put_156 (lv_at hl 0 rfl) ?_
              refine lv_iload E.1.1 E.1.2.1 dX6_put_158 (lv_at hl 5 rfl) ?_
              refine k_rem E dX6_put_160 (by omega) (by omega) (by omega) ?_
              refine lv_iload_n E.1.1 E.1.2.1 dX6_put_161 rfl (lv_at hl 4 rfl) ?_
              refine lv_iload E.1.1 E.1.2.1 dX6_put_162 (lv_at hl 5 rfl) ?_
              refine k_rem E dX6_put_164 (by omega) (by omega) (by omega) ?_
              refine k_ne (tgt := 172) E dX6_put_165 (by decide) (by omega) (by omega) (fun c165 => ?_) (fun c165 => ?_)
              · refine lv_iconst (v := nI 0) E.1.1 E.1.2.1 dX6_put_172 rfl ?_
                refine lv_goto (tgt := 186) E.1.1 E.1.2.1 dX6_put_173 (by decide) ?_
                refine W.eq (g2 := F0 m 186 ls (.int (b2i false) :: .int (nI u) :: .ref (A 4) :: [])) rfl ?_
                refine k_zast E hw (fun k => b2i (rbx (kd 2 a1 w1) rr (u + 1) k)) h_rw (by omega) (by omega) (fun i _ => rbx_v (by simp [kd, c165]) i) dX6_put_186 (fun f H locs h_rw hfr hw => ?_)
                have h_o := h_o.kp hfr n_o_rw
                have h_ts := h_ts.kp hfr n_ts_rw
                have h_ps := h_ps.kp hfr n_ps_rw
                have h_bs := h_bs.kp hfr n_bs_rw
                have h_gs := h_gs.kp hfr (Ne.symm n_rw_gs)
                have h_fa := h_fa.kp hfr (Ne.symm n_rw_fa)
                have h_ba := h_ba.kp hfr (Ne.symm n_rw_ba)
                have h_it := h_it.kp hfr (Ne.symm n_rw_it)
                have hF : ∀ b ∈ L, b ≠ (A 0) → b ≠ (A 1) → b ≠ (A 2) → b ≠ (A 3) → b ≠ (A 4) → b ≠ (A 5) → f b = f0 b := fun b hb h0 h1 h2 h3 h4 h5 => (hfr b h4).trans (hF b hb h0 h1 h2 h3 h4 h5)
                refine lv_iinc (v := nI (u + 1)) (lv' := [(5, .int (nI (u + 1))), (0, .ref (A 0)), (1, .int (nI j)), (2, .int (nI 2)), (3, .int (nI a1)), (4, .int (nI w1))]) E.1.1 E.1.2.1 dX6_put_187 hl (k := 0) rfl (nI_1 _) (by decide) rfl (fun ls hl => ?_)
                refine lv_goto (tgt := 94) E.1.1 E.1.2.1 dX6_put_190 (by decide) ?_
                exact ih94  (u + 1) f H locs ls (by omega) (by omega) h_o h_ts h_ps h_bs h_rw h_gs h_fa h_ba h_it hF hw (lv_sub hl [0, 1, 2, 3, 4, 5] rfl)
              · refine lv_iconst (v := nI 1) E.1.1 E.1.2.1 dX6_put_168 rfl ?_
                refine lv_goto (tgt := 186) E.1.1 E.1.2.1 dX6_put_169 (by decide) ?_
                refine W.eq (g2 := F0 m 186 ls (.int (b2i true) :: .int (nI u) :: .ref (A 4) :: [])) rfl ?_
                refine k_zast E hw (fun k => b2i (rbx (kd 2 a1 w1) rr (u + 1) k)) h_rw (by omega) (by omega) (fun i _ => rbx_v (by simp [kd, c165]) i) dX6_put_186 (fun f H locs h_rw hfr hw => ?_)
                have h_o := h_o.kp hfr n_o_rw
                have h_ts := h_ts.kp hfr n_ts_rw
                have h_ps := h_ps.kp hfr n_ps_rw
                have h_bs := h_bs.kp hfr n_bs_rw
                have h_gs := h_gs.kp hfr (Ne.symm n_rw_gs)
                have h_fa := h_fa.kp hfr (Ne.symm n_rw_fa)
                have h_ba := h_ba.kp hfr (Ne.symm n_rw_ba)
                have h_it := h_it.kp hfr (Ne.symm n_rw_it)
                have hF : ∀ b ∈ L, b ≠ (A 0) → b ≠ (A 1) → b ≠ (A 2) → b ≠ (A 3) → b ≠ (A 4) → b ≠ (A 5) → f b = f0 b := fun b hb h0 h1 h2 h3 h4 h5 => (hfr b h4).trans (hF b hb h0 h1 h2 h3 h4 h5)
                refine lv_iinc (v := nI (u + 1)) (lv' := [(5, .int (nI (u + 1))), (0, .ref (A 0)), (1, .int (nI j)), (2, .int (nI 2)), (3, .int (nI a1)), (4, .int (nI w1))]) E.1.1 E.1.2.1 dX6_put_187 hl (k := 0) rfl (nI_1 _) (by decide) rfl (fun ls hl => ?_)
                refine lv_goto (tgt := 94) E.1.1 E.1.2.1 dX6_put_190 (by decide) ?_
                exact ih94  (u + 1) f H locs ls (by omega) (by omega) h_o h_ts h_ps h_bs h_rw h_gs h_fa h_ba h_it hF hw (lv_sub hl [0, 1, 2, 3, 4, 5] rfl)
        exact lp94 (0 + w1 - 0 + 1) 0 f H locs ls (Nat.lt_succ_self _) (by omega) h_o h_ts h_ps h_bs h_rw h_gs h_fa h_ba h_it hF hw (lv_sub hl [0, 1, 2, 3, 4, 5] rfl)
      · refine lv_bipush (v := -2) E.1.1 E.1.2.1 dX6_put_49 rfl ?_
        exact k_miret E hQ hlk hr hw (Nat.le_of_ble_eq_true rfl) (Nat.le_of_ble_eq_true rfl) (⟨rfl, fun b hb h => hF b hb (h 0 (by decide)) (h 1 (by decide)) (h 2 (by decide)) (h 3 (by decide)) (h 4 (by decide)) (h 5 (by decide)), SS, ⟨hB, _, _, _, _, _, _, _, _, _, _, ⟨h_o, h_ts, h_ps, h_bs, h_rw, h_gs, h_fa, h_ba, h_it⟩, hTP, hMS, hMK⟩, sp_put_2 hj (Or.inr (Or.inr ⟨rfl, c46⟩))⟩) dX6_put_51
  · refine lv_iconst (v := -1) E.1.1 E.1.2.1 dX6_put_7 rfl ?_
    exact k_miret E hQ hlk hr hw (Nat.le_of_ble_eq_true rfl) (Nat.le_of_ble_eq_true rfl) (⟨rfl, fun b hb h => hF b hb (h 0 (by decide)) (h 1 (by decide)) (h 2 (by decide)) (h 3 (by decide)) (h 4 (by decide)) (h 5 (by decide)), SS, ⟨hB, _, _, _, _, _, _, _, _, _, _, ⟨h_o, h_ts, h_ps, h_bs, h_rw, h_gs, h_fa, h_ba, h_it⟩, hTP, hMS, hMK⟩, sp_put_1 c4⟩) dX6_put_8

set_option maxHeartbeats 4000000 in
set_option maxRecDepth 100000 in
theorem m_put3 (l : Launch) (D : va_G) (cy : Nat → ClassId) (L : List Nat) (f0 : Nat → va_E) (sz : Nat) (A : Nat → Nat) (base : Nat) (SS : Nat → Nat → Bool) (kp : Nat → Bool) (kb : Nat → Nat) (KS : Nat → Nat → Nat → Bool) (hA : MAd A) (hN : MoW cy L f0 A base SS kp kb KS) (to : Int32) (a m0 : Int32) : Met l yX6_put (.code yX6_put cX6_put 6 (Option.some FieldType.int) :: wsL_law) { frames := 6, cells := 0, slots := 0, locals := 136 } (va_Pc [.ref (A 0), .int to, .int (nI 3), .int a, .int m0] (PW D cy L f0 sz)) (va_Qi (fun (r : Int32) (u : List Nat × (Nat → va_E)) => L = u.1 ∧ (∀ b ∈ L, (∀ i, i < 9 → b ≠ A i) → u.2 b = f0 b) ∧ ∃ SS2, MoW cy L u.2 A base SS2 kp kb KS ∧ sp_put base SS SS2 to (nI 3) a m0 r) (PB D (AW L sz)) (AW L sz)) 0 0 (AW L sz) := by
  refine m_start (by decide) (Nat.le_of_ble_eq_true rfl) ?_
  intro p e R Q s m args below meth c ls hsz hR hQ E hr hlk hnm hw hl
  have hl : lv_has ls 6 [(0, .ref (A 0)), (1, .int to), (2, .int (nI 3)), (3, .int a), (4, .int m0)] := hl
  obtain ⟨H, hH⟩ : ∃ X, X = s.heap := ⟨_, rfl⟩
  obtain ⟨locs, hlocs⟩ : ∃ X : List Loc, X = [] := ⟨_, rfl⟩
  have hw0 := hw
  obtain ⟨hB, fr, pb, ns, T, P, B, rr, G, Fa, kb1, ⟨h_o, h_ts, h_ps, h_bs, h_rw, h_gs, h_fa, h_ba, h_it⟩, hTP, hMS, hMK⟩ := hN
  have hb2 := hB.two
  obtain ⟨f, hf0⟩ : ∃ X, X = f0 := ⟨_, rfl⟩
  rw [← hf0] at h_o h_ts h_ps h_bs h_rw h_gs h_fa h_ba h_it
  have hw : WW D (AW L sz) s.heap L f H locs := by rw [hH, hlocs, hf0]; exact hw
  have hF : ∀ b ∈ L, b ≠ (A 0) → b ≠ (A 1) → b ≠ (A 2) → b ≠ (A 3) → b ≠ (A 4) → b ≠ (A 5) → f b = f0 b := fun b hb h0 h1 h2 h3 h4 h5 => by rw [hf0]
  suffices hgo : W p l e R s m args below meth c H locs 0 0 Q (F0 m 0 ls []) by rw [hH, hlocs] at hgo; exact hgo
  clear hH hlocs hw0 hf0
  have hLs : ∀ b ∈ L, b ∈ L := fun _ h => h
  have n_o_ts : A 0 ≠ A 1 := hA.ne (by decide) (by decide) (by decide)
  have n_o_ps : A 0 ≠ A 2 := hA.ne (by decide) (by decide) (by decide)
  have n_o_bs : A 0 ≠ A 3 := hA.ne (by decide) (by decide) (by decide)
  have n_o_rw : A 0 ≠ A 4 := hA.ne (by decide) (by decide) (by decide)
  have n_o_gs : A 0 ≠ A 5 := hA.ne (by decide) (by decide) (by decide)
  have n_o_fa : A 0 ≠ A 6 := hA.ne (by decide) (by decide) (by decide)
  have n_o_ba : A 0 ≠ A 7 := hA.ne (by decide) (by decide) (by decide)
  have n_o_it : A 0 ≠ A 8 := hA.ne (by decide) (by decide) (by decide)
  have n_ts_ps : A 1 ≠ A 2 := hA.ne (by decide) (by decide) (by decide)
  have n_ts_bs : A 1 ≠ A 3 := hA.ne (by decide) (by decide) (by decide)
  have n_ts_rw : A 1 ≠ A 4 := hA.ne (by decide) (by decide) (by decide)
  have n_ts_gs : A 1 ≠ A 5 := hA.ne (by decide) (by decide) (by decide)
  have n_ts_fa : A 1 ≠ A 6 := hA.ne (by decide) (by decide) (by decide)
  have n_ts_ba : A 1 ≠ A 7 := hA.ne (by decide) (by decide) (by decide)
  have n_ts_it : A 1 ≠ A 8 := hA.ne (by decide) (by decide) (by decide)
  have n_ps_bs : A 2 ≠ A 3 := hA.ne (by decide) (by decide) (by decide)
  have n_ps_rw : A 2 ≠ A 4 := hA.ne (by decide) (by decide) (by decide)
  have n_ps_gs : A 2 ≠ A 5 := hA.ne (by decide) (by decide) (by decide)
  have n_ps_fa : A 2 ≠ A 6 := hA.ne (by decide) (by decide) (by decide)
  have n_ps_ba : A 2 ≠ A 7 := hA.ne (by decide) (by decide) (by decide)
  have n_ps_it : A 2 ≠ A 8 := hA.ne (by decide) (by decide) (by decide)
  have n_bs_rw : A 3 ≠ A 4 := hA.ne (by decide) (by decide) (by decide)
  have n_bs_gs : A 3 ≠ A 5 := hA.ne (by decide) (by decide) (by decide)
  have n_bs_fa : A 3 ≠ A 6 := hA.ne (by decide) (by decide) (by decide)
  have n_bs_ba : A 3 ≠ A 7 := hA.ne (by decide) (by decide) (by decide)
  have n_bs_it : A 3 ≠ A 8 := hA.ne (by decide) (by decide) (by decide)
  have n_rw_gs : A 4 ≠ A 5 := hA.ne (by decide) (by decide) (by decide)
  have n_rw_fa : A 4 ≠ A 6 := hA.ne (by decide) (by decide) (by decide)
  have n_rw_ba : A 4 ≠ A 7 := hA.ne (by decide) (by decide) (by decide)
  have n_rw_it : A 4 ≠ A 8 := hA.ne (by decide) (by decide) (by decide)
  have n_gs_fa : A 5 ≠ A 6 := hA.ne (by decide) (by decide) (by decide)
  have n_gs_ba : A 5 ≠ A 7 := hA.ne (by decide) (by decide) (by decide)
  have n_gs_it : A 5 ≠ A 8 := hA.ne (by decide) (by decide) (by decide)
  refine lv_iload_n E.1.1 E.1.2.1 dX6_put_0 rfl (lv_at hl 1 rfl) ?_
  refine k_ri (va_runS (As := [.int to]) (rest := []) E.1 (m_isSlot l D cy L f H.size to) ⟨callB_of 1 E.1.2.2.2.2 (gd_own w3_40) rfl rfl rfl (E.1.2.2.2.2 _ w1_10) (E.1.2.2.2.2 _ w3_38) hd_X6_isSlot (by rw [hR]; exact ⟨Nat.le_of_ble_eq_true rfl, Nat.le_of_ble_eq_true rfl⟩), E.1.2.2.2.2 _ w3_39⟩ (pw_pre E.2 hw) rfl rfl hl.1 rfl (lv_room (Nat.le_of_ble_eq_true rfl)) dX6_put_1 ⟨Nat.zero_le _, Nat.zero_le _⟩) ?_
  refine k_if1 (tgt := 9) E dX6_put_4 (by decide) (fun c4 => ?_) (fun c4 => ?_)
  · obtain ⟨j, hj, rfl⟩ := in_ex (by decide) c4
    refine lv_iload_n E.1.1 E.1.2.1 dX6_put_9 rfl (lv_at hl 2 rfl) ?_
    refine lv_iconst (v := nI 0) E.1.1 E.1.2.1 dX6_put_10 rfl ?_
    refine lv_iconst (v := nI 4) E.1.1 E.1.2.1 dX6_put_11 rfl ?_
    refine k_ri (va_runS (As := [.int (nI 3), .int (nI 0), .int (nI 4)]) (rest := []) E.1 (m_in l D cy L f H.size (nI 3) (nI 0) (nI 4)) ⟨callB_of 3 E.1.2.2.2.2 (gd_own w3_43) rfl rfl rfl (E.1.2.2.2.2 _ w1_10) (E.1.2.2.2.2 _ w3_41) hd_X6_in (by rw [hR]; exact ⟨Nat.le_of_ble_eq_true rfl, Nat.le_of_ble_eq_true rfl⟩), E.1.2.2.2.2 _ w3_42⟩ (pw_pre E.2 hw) rfl rfl hl.1 rfl (lv_room (Nat.le_of_ble_eq_true rfl)) dX6_put_12 ⟨Nat.zero_le _, Nat.zero_le _⟩) ?_
    refine k_if0 (tgt := 49) E dX6_put_15 (by decide) (fun c15 => absurd (show i32in (nI 3) 0 (nI 4) = false from c15) (by rw [in_t (by decide) (by decide)]; decide)) (fun c15 => ?_)
    refine lv_iload_n E.1.1 E.1.2.1 dX6_put_18 rfl (lv_at hl 2 rfl) ?_
    refine lv_iconst (v := nI 3) E.1.1 E.1.2.1 dX6_put_19 rfl ?_
    refine k_ge (tgt := 33) E dX6_put_20 (by decide) (by omega) (by omega) (fun c20 => ?_) (fun c20 => absurd c20 (by decide))
    refine lv_iload_n E.1.1 E.1.2.1 dX6_put_33 rfl (lv_at hl 2 rfl) ?_
    refine lv_iconst (v := nI 2) E.1.1 E.1.2.1 dX6_put_34 rfl ?_
    refine k_ne (tgt := 52) E dX6_put_35 (by decide) (by omega) (by omega) (fun c35 => ?_) (fun c35 => absurd c35 (by decide))
    refine lv_aload_n E.1.1 E.1.2.1 dX6_put_52 rfl (lv_at hl 0 rfl) ?_
    refine lv_iload_n E.1.1 E.1.2.1 dX6_put_53 rfl (lv_at hl 2 rfl) ?_
    refine k_z1 (tgt := 63) E dX6_put_54 (by decide) (by omega) (fun c54 => ?_) (fun c54 => absurd c54 (by decide))
    refine lv_iload_n E.1.1 E.1.2.1 dX6_put_63 rfl (lv_at hl 2 rfl) ?_
    refine lv_iconst (v := nI 1) E.1.1 E.1.2.1 dX6_put_64 rfl ?_
    refine k_ne (tgt := 72) E dX6_put_65 (by decide) (by omega) (by omega) (fun c65 => ?_) (fun c65 => absurd c65 (by decide))
    refine lv_iconst (v := nI 0) E.1.1 E.1.2.1 dX6_put_72 rfl ?_
    refine k_put (ty0 := tyX6) E inlX6 rfl tyX6_ok nmX6 5 (by decide) w2_237 rfl rfl hw [.int (nI base), .ref (A 1), .ref (A 2), .ref (A 3), .ref (A 4), .int (nI 0), .int (nI pb), .ref (A 5), .int (nI ns), .ref (A 6), .ref (A 7), .ref (A 8)] h_o (rfl) (rfl) (Nat.le_of_ble_eq_true rfl) rfl dX6_put_73 (fun f H locs h_o hfr hw => ?_)
    have h_ts := h_ts.kp hfr (Ne.symm n_o_ts)
    have h_ps := h_ps.kp hfr (Ne.symm n_o_ps)
    have h_bs := h_bs.kp hfr (Ne.symm n_o_bs)
    have h_rw := h_rw.kp hfr (Ne.symm n_o_rw)
    have h_gs := h_gs.kp hfr (Ne.symm n_o_gs)
    have h_fa := h_fa.kp hfr (Ne.symm n_o_fa)
    have h_ba := h_ba.kp hfr (Ne.symm n_o_ba)
    have h_it := h_it.kp hfr (Ne.symm n_o_it)
    have hF : ∀ b ∈ L, b ≠ (A 0) → b ≠ (A 1) → b ≠ (A 2) → b ≠ (A 3) → b ≠ (A 4) → b ≠ (A 5) → f b = f0 b := fun b hb h0 h1 h2 h3 h4 h5 => (hfr b h0).trans (hF b hb h0 h1 h2 h3 h4 h5)
    refine lv_aload_n E.1.1 E.1.2.1 dX6_put_76 rfl (lv_at hl 0 rfl) ?_
    refine lv_iload_n E.1.1 E.1.2.1 dX6_put_77 rfl (lv_at hl 2 rfl) ?_
    refine lv_iconst (v := nI 2) E.1.1 E.1.2.1 dX6_put_78 rfl ?_
    refine k_ne (tgt := 87) E dX6_put_79 (by decide) (by omega) (by omega) (fun c79 => ?_) (fun c79 => absurd c79 (by decide))
    refine lv_iconst (v := nI 1) E.1.1 E.1.2.1 dX6_put_87 rfl ?_
    refine k_put (ty0 := tyX6) E inlX6 rfl tyX6_ok nmX6 6 (by decide) w2_238 rfl rfl hw [.int (nI base), .ref (A 1), .ref (A 2), .ref (A 3), .ref (A 4), .int (nI 0), .int (nI 1), .ref (A 5), .int (nI ns), .ref (A 6), .ref (A 7), .ref (A 8)] h_o (rfl) (rfl) (Nat.le_of_ble_eq_true rfl) rfl dX6_put_88 (fun f H locs h_o hfr hw => ?_)
    have h_ts := h_ts.kp hfr (Ne.symm n_o_ts)
    have h_ps := h_ps.kp hfr (Ne.symm n_o_ps)
    have h_bs := h_bs.kp hfr (Ne.symm n_o_bs)
    have h_rw := h_rw.kp hfr (Ne.symm n_o_rw)
    have h_gs := h_gs.kp hfr (Ne.symm n_o_gs)
    have h_fa := h_fa.kp hfr (Ne.symm n_o_fa)
    have h_ba := h_ba.kp hfr (Ne.symm n_o_ba)
    have h_it := h_it.kp hfr (Ne.symm n_o_it)
    have hF : ∀ b ∈ L, b ≠ (A 0) → b ≠ (A 1) → b ≠ (A 2) → b ≠ (A 3) → b ≠ (A 4) → b ≠ (A 5) → f b = f0 b := fun b hb h0 h1 h2 h3 h4 h5 => (hfr b h0).trans (hF b hb h0 h1 h2 h3 h4 h5)
    have hX : den (0) (1) (rbx (kd 3 (ix a) (ix m0)) rr (0 + 1)) = kd 3 (ix a) (ix m0) := den_rbx rr (by omega) (kd34_ev (by decide) (ix a) (ix m0))
    rw [← rbx_0 (kd 3 (ix a) (ix m0)) rr] at h_rw
    refine lv_iconst (v := nI 0) E.1.1 E.1.2.1 dX6_put_91 rfl ?_
    refine lv_istore (lv' := [(5, .int (nI 0)), (0, .ref (A 0)), (1, .int (nI j)), (2, .int (nI 3)), (3, .int a), (4, .int m0)]) E.1.1 E.1.2.1 dX6_put_92 hl (by decide) rfl (fun ls hl => ?_)
    have lp94 : ∀ (k : Nat) (u : Nat) (f : Nat → va_E) (H : Heap) (locs : List Loc) (ls : Array Slot), (0 + 1 - u < k) → (u ≤ 0 + 1) → (cel L f (A 0) (.inr (6, [.int (nI base), .ref (A 1), .ref (A 2), .ref (A 3), .ref (A 4), .int (nI 0), .int (nI 1), .ref (A 5), .int (nI ns), .ref (A 6), .ref (A 7), .ref (A 8)]))) → (cel L f (A 1) (.inl (cy 0, 84, .inl (fun k => nI (T k))))) → (cel L f (A 2) (.inl (cy 0, 84, .inl (fun k => nI (P k))))) → (cel L f (A 3) (.inl (cy 1, 252, .inr (.inl (rw3 B))))) → (cel L f (A 4) (.inl (cy 2, 4096, .inl (fun k => b2i ((rbx (kd 3 (ix a) (ix m0)) rr u) k))))) → (cel L f (A 5) (.inl (cy 0, 325, .inl G))) → (cel L f (A 6) (.inl (cy 0, 65, .inl Fa))) → (cel L f (A 7) (.inl (cy 0, 2, .inl (fun k => nI (kb1 k))))) → (cel L f (A 8) (.inl (cy 2, 2, .inl (fun k => b2i (kp k))))) → (∀ b ∈ L, b ≠ (A 0) → b ≠ (A 1) → b ≠ (A 2) → b ≠ (A 3) → b ≠ (A 4) → b ≠ (A 5) → f b = f0 b) → (WW D (AW L sz) s.heap L f H locs) → (lv_has ls 6 [(5, .int (nI u)), (0, .ref (A 0)), (1, .int (nI j)), (2, .int (nI 3)), (3, .int a), (4, .int m0)]) → W p l e R s m args below meth c H locs 0 0 Q (F0 m 94 ls []) := by
      intro k
      induction k with
      | zero => intro _ _ _ _ _ hk; exact absurd hk (Nat.not_lt_zero _)
      | succ k ih94 =>
        intro u f H locs ls hk hu h_o h_ts h_ps h_bs h_rw h_gs h_fa h_ba h_it hF hw hl
        refine lv_iload E.1.1 E.1.2.1 dX6_put_94 (lv_at hl 0 rfl) ?_
        refine lv_aload_n E.1.1 E.1.2.1 dX6_put_96 rfl (lv_at hl 1 rfl) ?_
        refine k_get (v := .int (nI 0)) E inlX6 rfl 5 (by decide) w2_237 rfl hw h_o rfl dX6_put_97 ?_
        refine lv_aload_n E.1.1 E.1.2.1 dX6_put_100 rfl (lv_at hl 1 rfl) ?_
        refine k_get (v := .int (nI 1)) E inlX6 rfl 6 (by decide) w2_238 rfl hw h_o rfl dX6_put_101 ?_
        refine k_add E dX6_put_104 ?_
        refine k_ge (tgt := 193) E dX6_put_105 (by decide) (by omega) (by omega) (fun c105 => ?_) (fun c105 => ?_)
        · rw [show u = 0 + 1 by omega] at h_rw
          refine lv_aload_n E.1.1 E.1.2.1 dX6_put_193 rfl (lv_at hl 1 rfl) ?_
          refine lv_iload_n E.1.1 E.1.2.1 dX6_put_194 rfl (lv_at hl 2 rfl) ?_
          refine k_mi hw (va_runV (As := [.int (nI j)]) (rest := []) E.1 (m_keep l D cy L f H.size A base 0 1 ns T P B (rbx (kd 3 (ix a) (ix m0)) rr (0 + 1)) G hA hTP j (by omega) (by omega) (by omega) (by omega) (by omega) h_o h_ts h_ps h_bs h_rw h_gs) ⟨callB_of 1 E.1.2.2.2.2 (gd_own w3_47) rfl rfl rfl (E.1.2.2.2.2 _ w1_10) (E.1.2.2.2.2 _ w3_44) hd_X6_keep (by rw [hR]; exact ⟨Nat.le_of_ble_eq_true rfl, Nat.le_of_ble_eq_true rfl⟩), E.1.2.2.2.2 _ w3_46, E.1.2.2.2.2 _ ws_25⟩ (pw_preV (q := (RX6, TX6, 12)) E.2 hw h_o rfl) rfl rfl hl.1 rfl (lv_room (Nat.le_of_ble_eq_true rfl)) dX6_put_195 (by rw [hR]; exact ⟨Nat.le_of_ble_eq_true rfl, Nat.le_of_ble_eq_true rfl⟩)) (fun r L1 f H locs hp hw => ?_)
          obtain ⟨hL1, hfr, fr2, pb2, ns2, T2, P2, B2, rr2, G2, h_o, h_ts, h_ps, h_bs, h_rw, h_gs, hTP2, hag, hcase⟩ := hp
          have hL1 : L = L1 := hL1
          subst hL1
          have h_o : cel L f (A 0) (.inr (6, [.int (nI base), .ref (A 1), .ref (A 2), .ref (A 3), .ref (A 4), .int (nI fr2), .int (nI pb2), .ref (A 5), .int (nI ns2), .ref (A 6), .ref (A 7), .ref (A 8)])) := h_o
          have h_ts : cel L f (A 1) (.inl (cy 0, 84, .inl (fun k => nI (T2 k)))) := h_ts
          have h_ps : cel L f (A 2) (.inl (cy 0, 84, .inl (fun k => nI (P2 k)))) := h_ps
          have h_bs : cel L f (A 3) (.inl (cy 1, 252, .inr (.inl (rw3 B2)))) := h_bs
          have h_rw : cel L f (A 4) (.inl (cy 2, 4096, .inl (fun k => b2i (rr2 k)))) := h_rw
          have h_gs : cel L f (A 5) (.inl (cy 0, 325, .inl G2)) := h_gs
          have h_fa := h_fa.keep (fun _ h => h) (hfr _ h_fa.1 (Ne.symm n_o_fa) (Ne.symm n_ts_fa) (Ne.symm n_ps_fa) (Ne.symm n_bs_fa) (Ne.symm n_rw_fa) (Ne.symm n_gs_fa))
          have h_ba := h_ba.keep (fun _ h => h) (hfr _ h_ba.1 (Ne.symm n_o_ba) (Ne.symm n_ts_ba) (Ne.symm n_ps_ba) (Ne.symm n_bs_ba) (Ne.symm n_rw_ba) (Ne.symm n_gs_ba))
          have h_it := h_it.keep (fun _ h => h) (hfr _ h_it.1 (Ne.symm n_o_it) (Ne.symm n_ts_it) (Ne.symm n_ps_it) (Ne.symm n_bs_it) (Ne.symm n_rw_it) (Ne.symm n_gs_it))
          have hF : ∀ b ∈ L, b ≠ (A 0) → b ≠ (A 1) → b ≠ (A 2) → b ≠ (A 3) → b ≠ (A 4) → b ≠ (A 5) → f b = f0 b := fun b hb h0 h1 h2 h3 h4 h5 => (hfr b (hLs b hb) h0 h1 h2 h3 h4 h5).trans (hF b hb h0 h1 h2 h3 h4 h5)
          rw [hX] at hcase
          exact k_miret E hQ hlk hr hw (Nat.le_of_ble_eq_true rfl) (Nat.le_of_ble_eq_true rfl) (⟨rfl, fun b hb h => hF b hb (h 0 (by decide)) (h 1 (by decide)) (h 2 (by decide)) (h 3 (by decide)) (h 4 (by decide)) (h 5 (by decide)), by
      obtain ⟨SS2, hW2, hH⟩ := mo_hold hB hMS hMK ⟨h_o, h_ts, h_ps, h_bs, h_rw, h_gs, h_fa, h_ba, h_it⟩ hTP2 (by omega) hag hcase
      exact ⟨SS2, hW2, sp_put_ok hj (by decide) (fun h => absurd h (by decide)) (fun h => absurd h (by decide)) hH⟩⟩) dX6_put_198
        · refine lv_aload_n E.1.1 E.1.2.1 dX6_put_108 rfl (lv_at hl 1 rfl) ?_
          refine k_get (v := .ref (A 4)) E inlX6 rfl 4 (by decide) w2_236 rfl hw h_o rfl dX6_put_109 ?_
          refine lv_iload E.1.1 E.1.2.1 dX6_put_112 (lv_at hl 0 rfl) ?_
          refine lv_iload_n E.1.1 E.1.2.1 dX6_put_114 rfl (lv_at hl 3 rfl) ?_
          refine k_z1 (tgt := 132) E dX6_put_115 (by decide) (by omega) (fun c115 => ?_) (fun c115 => absurd c115 (by decide))
          refine lv_iload_n E.1.1 E.1.2.1 dX6_put_132 rfl (lv_at hl 3 rfl) ?_
          refine lv_iconst (v := nI 1) E.1.1 E.1.2.1 dX6_put_133 rfl ?_
          refine k_ne (tgt := 151) E dX6_put_134 (by decide) (by omega) (by omega) (fun c134 => ?_) (fun c134 => absurd c134 (by decide))
          refine lv_iload_n E.1.1 E.1.2.1 dX6_put_151 rfl (lv_at hl 3 rfl) ?_
          refine lv_iconst (v := nI 2) E.1.1 E.1.2.1 dX6_put_152 rfl ?_
          refine k_ne (tgt := 176) E dX6_put_153 (by decide) (by omega) (by omega) (fun c153 => ?_) (fun c153 => absurd c153 (by decide))
          refine lv_iload_n E.1.1 E.1.2.1 dX6_put_176 rfl (lv_at hl 3 rfl) ?_
          refine lv_iconst (v := nI 4) E.1.1 E.1.2.1 dX6_put_177 rfl ?_
          refine k_ne (tgt := 185) E dX6_put_178 (by decide) (by omega) (by omega) (fun c178 => ?_) (fun c178 => absurd c178 (by decide))
          refine lv_iconst (v := nI 0) E.1.1 E.1.2.1 dX6_put_185 rfl ?_
          refine W.eq (g2 := F0 m 186 ls (.int (b2i false) :: .int (nI u) :: .ref (A 4) :: [])) rfl ?_
          refine k_zast E hw (fun k => b2i (rbx (kd 3 (ix a) (ix m0)) rr (u + 1) k)) h_rw (by omega) (by omega) (fun i _ => rbx_v (by simp [kd]) i) dX6_put_186 (fun f H locs h_rw hfr hw => ?_)
          have h_o := h_o.kp hfr n_o_rw
          have h_ts := h_ts.kp hfr n_ts_rw
          have h_ps := h_ps.kp hfr n_ps_rw
          have h_bs := h_bs.kp hfr n_bs_rw
          have h_gs := h_gs.kp hfr (Ne.symm n_rw_gs)
          have h_fa := h_fa.kp hfr (Ne.symm n_rw_fa)
          have h_ba := h_ba.kp hfr (Ne.symm n_rw_ba)
          have h_it := h_it.kp hfr (Ne.symm n_rw_it)
          have hF : ∀ b ∈ L, b ≠ (A 0) → b ≠ (A 1) → b ≠ (A 2) → b ≠ (A 3) → b ≠ (A 4) → b ≠ (A 5) → f b = f0 b := fun b hb h0 h1 h2 h3 h4 h5 => (hfr b h4).trans (hF b hb h0 h1 h2 h3 h4 h5)
          refine lv_iinc (v := nI (u + 1)) (lv' := [(5, .int (nI (u + 1))), (0, .ref (A 0)), (1, .int (nI j)), (2, .int (nI 3)), (3, .int a), (4, .int m0)]) E.1.1 E.1.2.1 dX6_put_187 hl (k := 0) rfl (nI_1 _) (by decide) rfl (fun ls hl => ?_)
          refine lv_goto (tgt := 94) E.1.1 E.1.2.1 dX6_put_190 (by decide) ?_
          exact ih94  (u + 1) f H locs ls (by omega) (by omega) h_o h_ts h_ps h_bs h_rw h_gs h_fa h_ba h_it hF hw (lv_sub hl [0, 1, 2, 3, 4, 5] rfl)
    exact lp94 (0 + 1 - 0 + 1) 0 f H locs ls (Nat.lt_succ_self _) (by omega) h_o h_ts h_ps h_bs h_rw h_gs h_fa h_ba h_it hF hw (lv_sub hl [0, 1, 2, 3, 4, 5] rfl)
  · refine lv_iconst (v := -1) E.1.1 E.1.2.1 dX6_put_7 rfl ?_
    exact k_miret E hQ hlk hr hw (Nat.le_of_ble_eq_true rfl) (Nat.le_of_ble_eq_true rfl) (⟨rfl, fun b hb h => hF b hb (h 0 (by decide)) (h 1 (by decide)) (h 2 (by decide)) (h 3 (by decide)) (h 4 (by decide)) (h 5 (by decide)), SS, ⟨hB, _, _, _, _, _, _, _, _, _, _, ⟨h_o, h_ts, h_ps, h_bs, h_rw, h_gs, h_fa, h_ba, h_it⟩, hTP, hMS, hMK⟩, sp_put_1 c4⟩) dX6_put_8

set_option maxHeartbeats 4000000 in
set_option maxRecDepth 100000 in
theorem m_put4 (l : Launch) (D : va_G) (cy : Nat → ClassId) (L : List Nat) (f0 : Nat → va_E) (sz : Nat) (A : Nat → Nat) (base : Nat) (SS : Nat → Nat → Bool) (kp : Nat → Bool) (kb : Nat → Nat) (KS : Nat → Nat → Nat → Bool) (hA : MAd A) (hN : MoW cy L f0 A base SS kp kb KS) (to : Int32) (a m0 : Int32) : Met l yX6_put (.code yX6_put cX6_put 6 (Option.some FieldType.int) :: wsL_law) { frames := 6, cells := 0, slots := 0, locals := 136 } (va_Pc [.ref (A 0), .int to, .int (nI 4), .int a, .int m0] (PW D cy L f0 sz)) (va_Qi (fun (r : Int32) (u : List Nat × (Nat → va_E)) => L = u.1 ∧ (∀ b ∈ L, (∀ i, i < 9 → b ≠ A i) → u.2 b = f0 b) ∧ ∃ SS2, MoW cy L u.2 A base SS2 kp kb KS ∧ sp_put base SS SS2 to (nI 4) a m0 r) (PB D (AW L sz)) (AW L sz)) 0 0 (AW L sz) := by
  refine m_start (by decide) (Nat.le_of_ble_eq_true rfl) ?_
  intro p e R Q s m args below meth c ls hsz hR hQ E hr hlk hnm hw hl
  have hl : lv_has ls 6 [(0, .ref (A 0)), (1, .int to), (2, .int (nI 4)), (3, .int a), (4, .int m0)] := hl
  obtain ⟨H, hH⟩ : ∃ X, X = s.heap := ⟨_, rfl⟩
  obtain ⟨locs, hlocs⟩ : ∃ X : List Loc, X = [] := ⟨_, rfl⟩
  have hw0 := hw
  obtain ⟨hB, fr, pb, ns, T, P, B, rr, G, Fa, kb1, ⟨h_o, h_ts, h_ps, h_bs, h_rw, h_gs, h_fa, h_ba, h_it⟩, hTP, hMS, hMK⟩ := hN
  have hb2 := hB.two
  obtain ⟨f, hf0⟩ : ∃ X, X = f0 := ⟨_, rfl⟩
  rw [← hf0] at h_o h_ts h_ps h_bs h_rw h_gs h_fa h_ba h_it
  have hw : WW D (AW L sz) s.heap L f H locs := by rw [hH, hlocs, hf0]; exact hw
  have hF : ∀ b ∈ L, b ≠ (A 0) → b ≠ (A 1) → b ≠ (A 2) → b ≠ (A 3) → b ≠ (A 4) → b ≠ (A 5) → f b = f0 b := fun b hb h0 h1 h2 h3 h4 h5 => by rw [hf0]
  suffices hgo : W p l e R s m args below meth c H locs 0 0 Q (F0 m 0 ls []) by rw [hH, hlocs] at hgo; exact hgo
  clear hH hlocs hw0 hf0
  have hLs : ∀ b ∈ L, b ∈ L := fun _ h => h
  have n_o_ts : A 0 ≠ A 1 := hA.ne (by decide) (by decide) (by decide)
  have n_o_ps : A 0 ≠ A 2 := hA.ne (by decide) (by decide) (by decide)
  have n_o_bs : A 0 ≠ A 3 := hA.ne (by decide) (by decide) (by decide)
  have n_o_rw : A 0 ≠ A 4 := hA.ne (by decide) (by decide) (by decide)
  have n_o_gs : A 0 ≠ A 5 := hA.ne (by decide) (by decide) (by decide)
  have n_o_fa : A 0 ≠ A 6 := hA.ne (by decide) (by decide) (by decide)
  have n_o_ba : A 0 ≠ A 7 := hA.ne (by decide) (by decide) (by decide)
  have n_o_it : A 0 ≠ A 8 := hA.ne (by decide) (by decide) (by decide)
  have n_ts_ps : A 1 ≠ A 2 := hA.ne (by decide) (by decide) (by decide)
  have n_ts_bs : A 1 ≠ A 3 := hA.ne (by decide) (by decide) (by decide)
  have n_ts_rw : A 1 ≠ A 4 := hA.ne (by decide) (by decide) (by decide)
  have n_ts_gs : A 1 ≠ A 5 := hA.ne (by decide) (by decide) (by decide)
  have n_ts_fa : A 1 ≠ A 6 := hA.ne (by decide) (by decide) (by decide)
  have n_ts_ba : A 1 ≠ A 7 := hA.ne (by decide) (by decide) (by decide)
  have n_ts_it : A 1 ≠ A 8 := hA.ne (by decide) (by decide) (by decide)
  have n_ps_bs : A 2 ≠ A 3 := hA.ne (by decide) (by decide) (by decide)
  have n_ps_rw : A 2 ≠ A 4 := hA.ne (by decide) (by decide) (by decide)
  have n_ps_gs : A 2 ≠ A 5 := hA.ne (by decide) (by decide) (by decide)
  have n_ps_fa : A 2 ≠ A 6 := hA.ne (by decide) (by decide) (by decide)
  have n_ps_ba : A 2 ≠ A 7 := hA.ne (by decide) (by decide) (by decide)
  have n_ps_it : A 2 ≠ A 8 := hA.ne (by decide) (by decide) (by decide)
  have n_bs_rw : A 3 ≠ A 4 := hA.ne (by decide) (by decide) (by decide)
  have n_bs_gs : A 3 ≠ A 5 := hA.ne (by decide) (by decide) (by decide)
  have n_bs_fa : A 3 ≠ A 6 := hA.ne (by decide) (by decide) (by decide)
  have n_bs_ba : A 3 ≠ A 7 := hA.ne (by decide) (by decide) (by decide)
  have n_bs_it : A 3 ≠ A 8 := hA.ne (by decide) (by decide) (by decide)
  have n_rw_gs : A 4 ≠ A 5 := hA.ne (by decide) (by decide) (by decide)
  have n_rw_fa : A 4 ≠ A 6 := hA.ne (by decide) (by decide) (by decide)
  have n_rw_ba : A 4 ≠ A 7 := hA.ne (by decide) (by decide) (by decide)
  have n_rw_it : A 4 ≠ A 8 := hA.ne (by decide) (by decide) (by decide)
  have n_gs_fa : A 5 ≠ A 6 := hA.ne (by decide) (by decide) (by decide)
  have n_gs_ba : A 5 ≠ A 7 := hA.ne (by decide) (by decide) (by decide)
  have n_gs_it : A 5 ≠ A 8 := hA.ne (by decide) (by decide) (by decide)
  refine lv_iload_n E.1.1 E.1.2.1 dX6_put_0 rfl (lv_at hl 1 rfl) ?_
  refine k_ri (va_runS (As := [.int to]) (rest := []) E.1 (m_isSlot l D cy L f H.size to) ⟨callB_of 1 E.1.2.2.2.2 (gd_own w3_40) rfl rfl rfl (E.1.2.2.2.2 _ w1_10) (E.1.2.2.2.2 _ w3_38) hd_X6_isSlot (by rw [hR]; exact ⟨Nat.le_of_ble_eq_true rfl, Nat.le_of_ble_eq_true rfl⟩), E.1.2.2.2.2 _ w3_39⟩ (pw_pre E.2 hw) rfl rfl hl.1 rfl (lv_room (Nat.le_of_ble_eq_true rfl)) dX6_put_1 ⟨Nat.zero_le _, Nat.zero_le _⟩) ?_
  refine k_if1 (tgt := 9) E dX6_put_4 (by decide) (fun c4 => ?_) (fun c4 => ?_)
  · obtain ⟨j, hj, rfl⟩ := in_ex (by decide) c4
    refine lv_iload_n E.1.1 E.1.2.1 dX6_put_9 rfl (lv_at hl 2 rfl) ?_
    refine lv_iconst (v := nI 0) E.1.1 E.1.2.1 dX6_put_10 rfl ?_
    refine lv_iconst (v := nI 4) E.1.1 E.1.2.1 dX6_put_11 rfl ?_
    refine k_ri (va_runS (As := [.int (nI 4), .int (nI 0), .int (nI 4)]) (rest := []) E.1 (m_in l D cy L f H.size (nI 4) (nI 0) (nI 4)) ⟨callB_of 3 E.1.2.2.2.2 (gd_own w3_43) rfl rfl rfl (E.1.2.2.2.2 _ w1_10) (E.1.2.2.2.2 _ w3_41) hd_X6_in (by rw [hR]; exact ⟨Nat.le_of_ble_eq_true rfl, Nat.le_of_ble_eq_true rfl⟩), E.1.2.2.2.2 _ w3_42⟩ (pw_pre E.2 hw) rfl rfl hl.1 rfl (lv_room (Nat.le_of_ble_eq_true rfl)) dX6_put_12 ⟨Nat.zero_le _, Nat.zero_le _⟩) ?_
    refine k_if0 (tgt := 49) E dX6_put_15 (by decide) (fun c15 => absurd (show i32in (nI 4) 0 (nI 4) = false from c15) (by rw [in_t (by decide) (by decide)]; decide)) (fun c15 => ?_)
    refine lv_iload_n E.1.1 E.1.2.1 dX6_put_18 rfl (lv_at hl 2 rfl) ?_
    refine lv_iconst (v := nI 3) E.1.1 E.1.2.1 dX6_put_19 rfl ?_
    refine k_ge (tgt := 33) E dX6_put_20 (by decide) (by omega) (by omega) (fun c20 => ?_) (fun c20 => absurd c20 (by decide))
    refine lv_iload_n E.1.1 E.1.2.1 dX6_put_33 rfl (lv_at hl 2 rfl) ?_
    refine lv_iconst (v := nI 2) E.1.1 E.1.2.1 dX6_put_34 rfl ?_
    refine k_ne (tgt := 52) E dX6_put_35 (by decide) (by omega) (by omega) (fun c35 => ?_) (fun c35 => absurd c35 (by decide))
    refine lv_aload_n E.1.1 E.1.2.1 dX6_put_52 rfl (lv_at hl 0 rfl) ?_
    refine lv_iload_n E.1.1 E.1.2.1 dX6_put_53 rfl (lv_at hl 2 rfl) ?_
    refine k_z1 (tgt := 63) E dX6_put_54 (by decide) (by omega) (fun c54 => ?_) (fun c54 => absurd c54 (by decide))
    refine lv_iload_n E.1.1 E.1.2.1 dX6_put_63 rfl (lv_at hl 2 rfl) ?_
    refine lv_iconst (v := nI 1) E.1.1 E.1.2.1 dX6_put_64 rfl ?_
    refine k_ne (tgt := 72) E dX6_put_65 (by decide) (by omega) (by omega) (fun c65 => ?_) (fun c65 => absurd c65 (by decide))
    refine lv_iconst (v := nI 0) E.1.1 E.1.2.1 dX6_put_72 rfl ?_
    refine k_put (ty0 := tyX6) E inlX6 rfl tyX6_ok nmX6 5 (by decide) w2_237 rfl rfl hw [.int (nI base), .ref (A 1), .ref (A 2), .ref (A 3), .ref (A 4), .int (nI 0), .int (nI pb), .ref (A 5), .int (nI ns), .ref (A 6), .ref (A 7), .ref (A 8)] h_o (rfl) (rfl) (Nat.le_of_ble_eq_true rfl) rfl dX6_put_73 (fun f H locs h_o hfr hw => ?_)
    have h_ts := h_ts.kp hfr (Ne.symm n_o_ts)
    have h_ps := h_ps.kp hfr (Ne.symm n_o_ps)
    have h_bs := h_bs.kp hfr (Ne.symm n_o_bs)
    have h_rw := h_rw.kp hfr (Ne.symm n_o_rw)
    have h_gs := h_gs.kp hfr (Ne.symm n_o_gs)
    have h_fa := h_fa.kp hfr (Ne.symm n_o_fa)
    have h_ba := h_ba.kp hfr (Ne.symm n_o_ba)
    have h_it := h_it.kp hfr (Ne.symm n_o_it)
    have hF : ∀ b ∈ L, b ≠ (A 0) → b ≠ (A 1) → b ≠ (A 2) → b ≠ (A 3) → b ≠ (A 4) → b ≠ (A 5) → f b = f0 b := fun b hb h0 h1 h2 h3 h4 h5 => (hfr b h0).trans (hF b hb h0 h1 h2 h3 h4 h5)
    refine lv_aload_n E.1.1 E.1.2.1 dX6_put_76 rfl (lv_at hl 0 rfl) ?_
    refine lv_iload_n E.1.1 E.1.2.1 dX6_put_77 rfl (lv_at hl 2 rfl) ?_
    refine lv_iconst (v := nI 2) E.1.1 E.1.2.1 dX6_put_78 rfl ?_
    refine k_ne (tgt := 87) E dX6_put_79 (by decide) (by omega) (by omega) (fun c79 => ?_) (fun c79 => absurd c79 (by decide))
    refine lv_iconst (v := nI 1) E.1.1 E.1.2.1 dX6_put_87 rfl ?_
    refine k_put (ty0 := tyX6) E inlX6 rfl tyX6_ok nmX6 6 (by decide) w2_238 rfl rfl hw [.int (nI base), .ref (A 1), .ref (A 2), .ref (A 3), .ref (A 4), .int (nI 0), .int (nI 1), .ref (A 5), .int (nI ns), .ref (A 6), .ref (A 7), .ref (A 8)] h_o (rfl) (rfl) (Nat.le_of_ble_eq_true rfl) rfl dX6_put_88 (fun f H locs h_o hfr hw => ?_)
    have h_ts := h_ts.kp hfr (Ne.symm n_o_ts)
    have h_ps := h_ps.kp hfr (Ne.symm n_o_ps)
    have h_bs := h_bs.kp hfr (Ne.symm n_o_bs)
    have h_rw := h_rw.kp hfr (Ne.symm n_o_rw)
    have h_gs := h_gs.kp hfr (Ne.symm n_o_gs)
    have h_fa := h_fa.kp hfr (Ne.symm n_o_fa)
    have h_ba := h_ba.kp hfr (Ne.symm n_o_ba)
    have h_it := h_it.kp hfr (Ne.symm n_o_it)
    have hF : ∀ b ∈ L, b ≠ (A 0) → b ≠ (A 1) → b ≠ (A 2) → b ≠ (A 3) → b ≠ (A 4) → b ≠ (A 5) → f b = f0 b := fun b hb h0 h1 h2 h3 h4 h5 => (hfr b h0).trans (hF b hb h0 h1 h2 h3 h4 h5)
    have hX : den (0) (1) (rbx (kd 4 (ix a) (ix m0)) rr (0 + 1)) = kd 4 (ix a) (ix m0) := den_rbx rr (by omega) (kd34_ev (by decide) (ix a) (ix m0))
    rw [← rbx_0 (kd 4 (ix a) (ix m0)) rr] at h_rw
    refine lv_iconst (v := nI 0) E.1.1 E.1.2.1 dX6_put_91 rfl ?_
    refine lv_istore (lv' := [(5, .int (nI 0)), (0, .ref (A 0)), (1, .int (nI j)), (2, .int (nI 4)), (3, .int a), (4, .int m0)]) E.1.1 E.1.2.1 dX6_put_92 hl (by decide) rfl (fun ls hl => ?_)
    have lp94 : ∀ (k : Nat) (u : Nat) (f : Nat → va_E) (H : Heap) (locs : List Loc) (ls : Array Slot), (0 + 1 - u < k) → (u ≤ 0 + 1) → (cel L f (A 0) (.inr (6, [.int (nI base), .ref (A 1), .ref (A 2), .ref (A 3), .ref (A 4), .int (nI 0), .int (nI 1), .ref (A 5), .int (nI ns), .ref (A 6), .ref (A 7), .ref (A 8)]))) → (cel L f (A 1) (.inl (cy 0, 84, .inl (fun k => nI (T k))))) → (cel L f (A 2) (.inl (cy 0, 84, .inl (fun k => nI (P k))))) → (cel L f (A 3) (.inl (cy 1, 252, .inr (.inl (rw3 B))))) → (cel L f (A 4) (.inl (cy 2, 4096, .inl (fun k => b2i ((rbx (kd 4 (ix a) (ix m0)) rr u) k))))) → (cel L f (A 5) (.inl (cy 0, 325, .inl G))) → (cel L f (A 6) (.inl (cy 0, 65, .inl Fa))) → (cel L f (A 7) (.inl (cy 0, 2, .inl (fun k => nI (kb1 k))))) → (cel L f (A 8) (.inl (cy 2, 2, .inl (fun k => b2i (kp k))))) → (∀ b ∈ L, b ≠ (A 0) → b ≠ (A 1) → b ≠ (A 2) → b ≠ (A 3) → b ≠ (A 4) → b ≠ (A 5) → f b = f0 b) → (WW D (AW L sz) s.heap L f H locs) → (lv_has ls 6 [(5, .int (nI u)), (0, .ref (A 0)), (1, .int (nI j)), (2, .int (nI 4)), (3, .int a), (4, .int m0)]) → W p l e R s m args below meth c H locs 0 0 Q (F0 m 94 ls []) := by
      intro k
      induction k with
      | zero => intro _ _ _ _ _ hk; exact absurd hk (Nat.not_lt_zero _)
      | succ k ih94 =>
        intro u f H locs ls hk hu h_o h_ts h_ps h_bs h_rw h_gs h_fa h_ba h_it hF hw hl
        refine lv_iload E.1.1 E.1.2.1 dX6_put_94 (lv_at hl 0 rfl) ?_
        refine lv_aload_n E.1.1 E.1.2.1 dX6_put_96 rfl (lv_at hl 1 rfl) ?_
        refine k_get (v := .int (nI 0)) E inlX6 rfl 5 (by decide) w2_237 rfl hw h_o rfl dX6_put_97 ?_
        refine lv_aload_n E.1.1 E.1.2.1 dX6_put_100 rfl (lv_at hl 1 rfl) ?_
        refine k_get (v := .int (nI 1)) E inlX6 rfl 6 (by decide) w2_238 rfl hw h_o rfl dX6_put_101 ?_
        refine k_add E dX6_put_104 ?_
        refine k_ge (tgt := 193) E dX6_put_105 (by decide) (by omega) (by omega) (fun c105 => ?_) (fun c105 => ?_)
        · rw [show u = 0 + 1 by omega] at h_rw
          refine lv_aload_n E.1.1 E.1.2.1 dX6_put_193 rfl (lv_at hl 1 rfl) ?_
          refine lv_iload_n E.1.1 E.1.2.1 dX6_put_194 rfl (lv_at hl 2 rfl) ?_
          refine k_mi hw (va_runV (As := [.int (nI j)]) (rest := []) E.1 (m_keep l D cy L f H.size A base 0 1 ns T P B (rbx (kd 4 (ix a) (ix m0)) rr (0 + 1)) G hA hTP j (by omega) (by omega) (by omega) (by omega) (by omega) h_o h_ts h_ps h_bs h_rw h_gs) ⟨callB_of 1 E.1.2.2.2.2 (gd_own w3_47) rfl rfl rfl (E.1.2.2.2.2 _ w1_10) (E.1.2.2.2.2 _ w3_44) hd_X6_keep (by rw [hR]; exact ⟨Nat.le_of_ble_eq_true rfl, Nat.le_of_ble_eq_true rfl⟩), E.1.2.2.2.2 _ w3_46, E.1.2.2.2.2 _ ws_25⟩ (pw_preV (q := (RX6, TX6, 12)) E.2 hw h_o rfl) rfl rfl hl.1 rfl (lv_room (Nat.le_of_ble_eq_true rfl)) dX6_put_195 (by rw [hR]; exact ⟨Nat.le_of_ble_eq_true rfl, Nat.le_of_ble_eq_true rfl⟩)) (fun r L1 f H locs hp hw => ?_)
          obtain ⟨hL1, hfr, fr2, pb2, ns2, T2, P2, B2, rr2, G2, h_o, h_ts, h_ps, h_bs, h_rw, h_gs, hTP2, hag, hcase⟩ := hp
          have hL1 : L = L1 := hL1
          subst hL1
          have h_o : cel L f (A 0) (.inr (6, [.int (nI base), .ref (A 1), .ref (A 2), .ref (A 3), .ref (A 4), .int (nI fr2), .int (nI pb2), .ref (A 5), .int (nI ns2), .ref (A 6), .ref (A 7), .ref (A 8)])) := h_o
          have h_ts : cel L f (A 1) (.inl (cy 0, 84, .inl (fun k => nI (T2 k)))) := h_ts
          have h_ps : cel L f (A 2) (.inl (cy 0, 84, .inl (fun k => nI (P2 k)))) := h_ps
          have h_bs : cel L f (A 3) (.inl (cy 1, 252, .inr (.inl (rw3 B2)))) := h_bs
          have h_rw : cel L f (A 4) (.inl (cy 2, 4096, .inl (fun k => b2i (rr2 k)))) := h_rw
          have h_gs : cel L f (A 5) (.inl (cy 0, 325, .inl G2)) := h_gs
          have h_fa := h_fa.keep (fun _ h => h) (hfr _ h_fa.1 (Ne.symm n_o_fa) (Ne.symm n_ts_fa) (Ne.symm n_ps_fa) (Ne.symm n_bs_fa) (Ne.symm n_rw_fa) (Ne.symm n_gs_fa))
          have h_ba := h_ba.keep (fun _ h => h) (hfr _ h_ba.1 (Ne.symm n_o_ba) (Ne.symm n_ts_ba) (Ne.symm n_ps_ba) (Ne.symm n_bs_ba) (Ne.symm n_rw_ba) (Ne.symm n_gs_ba))
          have h_it := h_it.keep (fun _ h => h) (hfr _ h_it.1 (Ne.symm n_o_it) (Ne.symm n_ts_it) (Ne.symm n_ps_it) (Ne.symm n_bs_it) (Ne.symm n_rw_it) (Ne.symm n_gs_it))
          have hF : ∀ b ∈ L, b ≠ (A 0) → b ≠ (A 1) → b ≠ (A 2) → b ≠ (A 3) → b ≠ (A 4) → b ≠ (A 5) → f b = f0 b := fun b hb h0 h1 h2 h3 h4 h5 => (hfr b (hLs b hb) h0 h1 h2 h3 h4 h5).trans (hF b hb h0 h1 h2 h3 h4 h5)
          rw [hX] at hcase
          exact k_miret E hQ hlk hr hw (Nat.le_of_ble_eq_true rfl) (Nat.le_of_ble_eq_true rfl) (⟨rfl, fun b hb h => hF b hb (h 0 (by decide)) (h 1 (by decide)) (h 2 (by decide)) (h 3 (by decide)) (h 4 (by decide)) (h 5 (by decide)), by
      obtain ⟨SS2, hW2, hH⟩ := mo_hold hB hMS hMK ⟨h_o, h_ts, h_ps, h_bs, h_rw, h_gs, h_fa, h_ba, h_it⟩ hTP2 (by omega) hag hcase
      exact ⟨SS2, hW2, sp_put_ok hj (by decide) (fun h => absurd h (by decide)) (fun h => absurd h (by decide)) hH⟩⟩) dX6_put_198
        · refine lv_aload_n E.1.1 E.1.2.1 dX6_put_108 rfl (lv_at hl 1 rfl) ?_
          refine k_get (v := .ref (A 4)) E inlX6 rfl 4 (by decide) w2_236 rfl hw h_o rfl dX6_put_109 ?_
          refine lv_iload E.1.1 E.1.2.1 dX6_put_112 (lv_at hl 0 rfl) ?_
          refine lv_iload_n E.1.1 E.1.2.1 dX6_put_114 rfl (lv_at hl 3 rfl) ?_
          refine k_z1 (tgt := 132) E dX6_put_115 (by decide) (by omega) (fun c115 => ?_) (fun c115 => absurd c115 (by decide))
          refine lv_iload_n E.1.1 E.1.2.1 dX6_put_132 rfl (lv_at hl 3 rfl) ?_
          refine lv_iconst (v := nI 1) E.1.1 E.1.2.1 dX6_put_133 rfl ?_
          refine k_ne (tgt := 151) E dX6_put_134 (by decide) (by omega) (by omega) (fun c134 => ?_) (fun c134 => absurd c134 (by decide))
          refine lv_iload_n E.1.1 E.1.2.1 dX6_put_151 rfl (lv_at hl 3 rfl) ?_
          refine lv_iconst (v := nI 2) E.1.1 E.1.2.1 dX6_put_152 rfl ?_
          refine k_ne (tgt := 176) E dX6_put_153 (by decide) (by omega) (by omega) (fun c153 => ?_) (fun c153 => absurd c153 (by decide))
          refine lv_iload_n E.1.1 E.1.2.1 dX6_put_176 rfl (lv_at hl 3 rfl) ?_
          refine lv_iconst (v := nI 4) E.1.1 E.1.2.1 dX6_put_177 rfl ?_
          refine k_ne (tgt := 185) E dX6_put_178 (by decide) (by omega) (by omega) (fun c178 => absurd c178 (by decide)) (fun c178 => ?_)
          refine lv_iconst (v := nI 1) E.1.1 E.1.2.1 dX6_put_181 rfl ?_
          refine lv_goto (tgt := 186) E.1.1 E.1.2.1 dX6_put_182 (by decide) ?_
          refine W.eq (g2 := F0 m 186 ls (.int (b2i true) :: .int (nI u) :: .ref (A 4) :: [])) rfl ?_
          refine k_zast E hw (fun k => b2i (rbx (kd 4 (ix a) (ix m0)) rr (u + 1) k)) h_rw (by omega) (by omega) (fun i _ => rbx_v (by simp [kd]) i) dX6_put_186 (fun f H locs h_rw hfr hw => ?_)
          have h_o := h_o.kp hfr n_o_rw
          have h_ts := h_ts.kp hfr n_ts_rw
          have h_ps := h_ps.kp hfr n_ps_rw
          have h_bs := h_bs.kp hfr n_bs_rw
          have h_gs := h_gs.kp hfr (Ne.symm n_rw_gs)
          have h_fa := h_fa.kp hfr (Ne.symm n_rw_fa)
          have h_ba := h_ba.kp hfr (Ne.symm n_rw_ba)
          have h_it := h_it.kp hfr (Ne.symm n_rw_it)
          have hF : ∀ b ∈ L, b ≠ (A 0) → b ≠ (A 1) → b ≠ (A 2) → b ≠ (A 3) → b ≠ (A 4) → b ≠ (A 5) → f b = f0 b := fun b hb h0 h1 h2 h3 h4 h5 => (hfr b h4).trans (hF b hb h0 h1 h2 h3 h4 h5)
          refine lv_iinc (v := nI (u + 1)) (lv' := [(5, .int (nI (u + 1))), (0, .ref (A 0)), (1, .int (nI j)), (2, .int (nI 4)), (3, .int a), (4, .int m0)]) E.1.1 E.1.2.1 dX6_put_187 hl (k := 0) rfl (nI_1 _) (by decide) rfl (fun ls hl => ?_)
          refine lv_goto (tgt := 94) E.1.1 E.1.2.1 dX6_put_190 (by decide) ?_
          exact ih94  (u + 1) f H locs ls (by omega) (by omega) h_o h_ts h_ps h_bs h_rw h_gs h_fa h_ba h_it hF hw (lv_sub hl [0, 1, 2, 3, 4, 5] rfl)
    exact lp94 (0 + 1 - 0 + 1) 0 f H locs ls (Nat.lt_succ_self _) (by omega) h_o h_ts h_ps h_bs h_rw h_gs h_fa h_ba h_it hF hw (lv_sub hl [0, 1, 2, 3, 4, 5] rfl)
  · refine lv_iconst (v := -1) E.1.1 E.1.2.1 dX6_put_7 rfl ?_
    exact k_miret E hQ hlk hr hw (Nat.le_of_ble_eq_true rfl) (Nat.le_of_ble_eq_true rfl) (⟨rfl, fun b hb h => hF b hb (h 0 (by decide)) (h 1 (by decide)) (h 2 (by decide)) (h 3 (by decide)) (h 4 (by decide)) (h 5 (by decide)), SS, ⟨hB, _, _, _, _, _, _, _, _, _, _, ⟨h_o, h_ts, h_ps, h_bs, h_rw, h_gs, h_fa, h_ba, h_it⟩, hTP, hMS, hMK⟩, sp_put_1 c4⟩) dX6_put_8

set_option maxHeartbeats 4000000 in
set_option maxRecDepth 100000 in
theorem m_putx (l : Launch) (D : va_G) (cy : Nat → ClassId) (L : List Nat) (f0 : Nat → va_E) (sz : Nat) (A : Nat → Nat) (base : Nat) (SS : Nat → Nat → Bool) (kp : Nat → Bool) (kb : Nat → Nat) (KS : Nat → Nat → Nat → Bool) (hA : MAd A) (hN : MoW cy L f0 A base SS kp kb KS) (to kind a m0 : Int32) (hin : i32in kind 0 (nI 4) = false) : Met l yX6_put (.code yX6_put cX6_put 6 (Option.some FieldType.int) :: wsL_law) { frames := 2, cells := 0, slots := 0, locals := 42 } (va_Pc [.ref (A 0), .int to, .int kind, .int a, .int m0] (PW D cy L f0 sz)) (va_Qi (fun (r : Int32) (u : List Nat × (Nat → va_E)) => L = u.1 ∧ (∀ b ∈ L, (∀ i, i < 9 → b ≠ A i) → u.2 b = f0 b) ∧ ∃ SS2, MoW cy L u.2 A base SS2 kp kb KS ∧ sp_put base SS SS2 to kind a m0 r) (PB D (AW L sz)) (AW L sz)) 0 0 (AW L sz) := by
  refine m_start (by decide) (Nat.le_of_ble_eq_true rfl) ?_
  intro p e R Q s m args below meth c ls hsz hR hQ E hr hlk hnm hw hl
  have hl : lv_has ls 6 [(0, .ref (A 0)), (1, .int to), (2, .int kind), (3, .int a), (4, .int m0)] := hl
  obtain ⟨H, hH⟩ : ∃ X, X = s.heap := ⟨_, rfl⟩
  obtain ⟨locs, hlocs⟩ : ∃ X : List Loc, X = [] := ⟨_, rfl⟩
  have hw0 := hw
  obtain ⟨hB, fr, pb, ns, T, P, B, rr, G, Fa, kb1, ⟨h_o, h_ts, h_ps, h_bs, h_rw, h_gs, h_fa, h_ba, h_it⟩, hTP, hMS, hMK⟩ := hN
  have hb2 := hB.two
  obtain ⟨f, hf0⟩ : ∃ X, X = f0 := ⟨_, rfl⟩
  rw [← hf0] at h_o h_ts h_ps h_bs h_rw h_gs h_fa h_ba h_it
  have hw : WW D (AW L sz) s.heap L f H locs := by rw [hH, hlocs, hf0]; exact hw
  have hF : ∀ b ∈ L, b ≠ (A 0) → b ≠ (A 1) → b ≠ (A 2) → b ≠ (A 3) → b ≠ (A 4) → b ≠ (A 5) → f b = f0 b := fun b hb h0 h1 h2 h3 h4 h5 => by rw [hf0]
  suffices hgo : W p l e R s m args below meth c H locs 0 0 Q (F0 m 0 ls []) by rw [hH, hlocs] at hgo; exact hgo
  clear hH hlocs hw0 hf0
  have hLs : ∀ b ∈ L, b ∈ L := fun _ h => h
  have n_o_ts : A 0 ≠ A 1 := hA.ne (by decide) (by decide) (by decide)
  have n_o_ps : A 0 ≠ A 2 := hA.ne (by decide) (by decide) (by decide)
  have n_o_bs : A 0 ≠ A 3 := hA.ne (by decide) (by decide) (by decide)
  have n_o_rw : A 0 ≠ A 4 := hA.ne (by decide) (by decide) (by decide)
  have n_o_gs : A 0 ≠ A 5 := hA.ne (by decide) (by decide) (by decide)
  have n_o_fa : A 0 ≠ A 6 := hA.ne (by decide) (by decide) (by decide)
  have n_o_ba : A 0 ≠ A 7 := hA.ne (by decide) (by decide) (by decide)
  have n_o_it : A 0 ≠ A 8 := hA.ne (by decide) (by decide) (by decide)
  have n_ts_ps : A 1 ≠ A 2 := hA.ne (by decide) (by decide) (by decide)
  have n_ts_bs : A 1 ≠ A 3 := hA.ne (by decide) (by decide) (by decide)
  have n_ts_rw : A 1 ≠ A 4 := hA.ne (by decide) (by decide) (by decide)
  have n_ts_gs : A 1 ≠ A 5 := hA.ne (by decide) (by decide) (by decide)
  have n_ts_fa : A 1 ≠ A 6 := hA.ne (by decide) (by decide) (by decide)
  have n_ts_ba : A 1 ≠ A 7 := hA.ne (by decide) (by decide) (by decide)
  have n_ts_it : A 1 ≠ A 8 := hA.ne (by decide) (by decide) (by decide)
  have n_ps_bs : A 2 ≠ A 3 := hA.ne (by decide) (by decide) (by decide)
  have n_ps_rw : A 2 ≠ A 4 := hA.ne (by decide) (by decide) (by decide)
  have n_ps_gs : A 2 ≠ A 5 := hA.ne (by decide) (by decide) (by decide)
  have n_ps_fa : A 2 ≠ A 6 := hA.ne (by decide) (by decide) (by decide)
  have n_ps_ba : A 2 ≠ A 7 := hA.ne (by decide) (by decide) (by decide)
  have n_ps_it : A 2 ≠ A 8 := hA.ne (by decide) (by decide) (by decide)
  have n_bs_rw : A 3 ≠ A 4 := hA.ne (by decide) (by decide) (by decide)
  have n_bs_gs : A 3 ≠ A 5 := hA.ne (by decide) (by decide) (by decide)
  have n_bs_fa : A 3 ≠ A 6 := hA.ne (by decide) (by decide) (by decide)
  have n_bs_ba : A 3 ≠ A 7 := hA.ne (by decide) (by decide) (by decide)
  have n_bs_it : A 3 ≠ A 8 := hA.ne (by decide) (by decide) (by decide)
  have n_rw_gs : A 4 ≠ A 5 := hA.ne (by decide) (by decide) (by decide)
  have n_rw_fa : A 4 ≠ A 6 := hA.ne (by decide) (by decide) (by decide)
  have n_rw_ba : A 4 ≠ A 7 := hA.ne (by decide) (by decide) (by decide)
  have n_rw_it : A 4 ≠ A 8 := hA.ne (by decide) (by decide) (by decide)
  have n_gs_fa : A 5 ≠ A 6 := hA.ne (by decide) (by decide) (by decide)
  have n_gs_ba : A 5 ≠ A 7 := hA.ne (by decide) (by decide) (by decide)
  have n_gs_it : A 5 ≠ A 8 := hA.ne (by decide) (by decide) (by decide)
  refine lv_iload_n E.1.1 E.1.2.1 dX6_put_0 rfl (lv_at hl 1 rfl) ?_
  refine k_ri (va_runS (As := [.int to]) (rest := []) E.1 (m_isSlot l D cy L f H.size to) ⟨callB_of 1 E.1.2.2.2.2 (gd_own w3_40) rfl rfl rfl (E.1.2.2.2.2 _ w1_10) (E.1.2.2.2.2 _ w3_38) hd_X6_isSlot (by rw [hR]; exact ⟨Nat.le_of_ble_eq_true rfl, Nat.le_of_ble_eq_true rfl⟩), E.1.2.2.2.2 _ w3_39⟩ (pw_pre E.2 hw) rfl rfl hl.1 rfl (lv_room (Nat.le_of_ble_eq_true rfl)) dX6_put_1 ⟨Nat.zero_le _, Nat.zero_le _⟩) ?_
  refine k_if1 (tgt := 9) E dX6_put_4 (by decide) (fun c4 => ?_) (fun c4 => ?_)
  · obtain ⟨j, hj, rfl⟩ := in_ex (by decide) c4
    refine lv_iload_n E.1.1 E.1.2.1 dX6_put_9 rfl (lv_at hl 2 rfl) ?_
    refine lv_iconst (v := nI 0) E.1.1 E.1.2.1 dX6_put_10 rfl ?_
    refine lv_iconst (v := nI 4) E.1.1 E.1.2.1 dX6_put_11 rfl ?_
    refine k_ri (va_runS (As := [.int kind, .int (nI 0), .int (nI 4)]) (rest := []) E.1 (m_in l D cy L f H.size kind (nI 0) (nI 4)) ⟨callB_of 3 E.1.2.2.2.2 (gd_own w3_43) rfl rfl rfl (E.1.2.2.2.2 _ w1_10) (E.1.2.2.2.2 _ w3_41) hd_X6_in (by rw [hR]; exact ⟨Nat.le_of_ble_eq_true rfl, Nat.le_of_ble_eq_true rfl⟩), E.1.2.2.2.2 _ w3_42⟩ (pw_pre E.2 hw) rfl rfl hl.1 rfl (lv_room (Nat.le_of_ble_eq_true rfl)) dX6_put_12 ⟨Nat.zero_le _, Nat.zero_le _⟩) ?_
    refine k_if0 (tgt := 49) E dX6_put_15 (by decide) (fun c15 => ?_) (fun c15 => absurd (show i32in kind 0 (nI 4) = true from c15) (by rw [hin]; decide))
    refine lv_bipush (v := -2) E.1.1 E.1.2.1 dX6_put_49 rfl ?_
    exact k_miret E hQ hlk hr hw (Nat.le_of_ble_eq_true rfl) (Nat.le_of_ble_eq_true rfl) (⟨rfl, fun b hb h => hF b hb (h 0 (by decide)) (h 1 (by decide)) (h 2 (by decide)) (h 3 (by decide)) (h 4 (by decide)) (h 5 (by decide)), SS, ⟨hB, _, _, _, _, _, _, _, _, _, _, ⟨h_o, h_ts, h_ps, h_bs, h_rw, h_gs, h_fa, h_ba, h_it⟩, hTP, hMS, hMK⟩, sp_put_2 hj (Or.inl hin)⟩) dX6_put_51
  · refine lv_iconst (v := -1) E.1.1 E.1.2.1 dX6_put_7 rfl ?_
    exact k_miret E hQ hlk hr hw (Nat.le_of_ble_eq_true rfl) (Nat.le_of_ble_eq_true rfl) (⟨rfl, fun b hb h => hF b hb (h 0 (by decide)) (h 1 (by decide)) (h 2 (by decide)) (h 3 (by decide)) (h 4 (by decide)) (h 5 (by decide)), SS, ⟨hB, _, _, _, _, _, _, _, _, _, _, ⟨h_o, h_ts, h_ps, h_bs, h_rw, h_gs, h_fa, h_ba, h_it⟩, hTP, hMS, hMK⟩, sp_put_1 c4⟩) dX6_put_8
