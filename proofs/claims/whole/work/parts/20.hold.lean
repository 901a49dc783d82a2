theorem trn_none (base : Nat) : ∀ K, (trn (fun _ => false) base K).1 = 1 ∧ (trn (fun _ => false) base K).2.1 = fun _ _ => false
  | 0 => ⟨rfl, rfl⟩
  | K + 1 => by
    obtain ⟨h1, h2⟩ := trn_none base K
    have hf : fa_first (fun i => dB ((trn (fun _ => false) base K).2.1 i = fun u => (trn (fun _ => false) base K).2.1 (K / base) (base * u + K % base))) (trn (fun _ => false) base K).1 = 0 := by
      rw [h1]
      exact first_is (by omega) (fun i hi => absurd hi (by omega)) (Or.inr (dB_t (by rw [h2])))
    constructor
    · rw [trn_1, hf, h1]; rfl
    · rw [trn_2, h1, h2]
      funext x
      by_cases h : x = 1
      · rw [h, va_up_self]
      · rw [va_up_ne _ _ h]
theorem none_fits : Fits (fun _ => false) := ⟨0, 1, ⟨by decide, fun _ _ => rfl, fun q' t' h _ => h, fun _ _ => Nat.zero_le _⟩, by decide, by decide⟩
theorem none_small (base : Nat) : ¬ Large (fun _ => false) base := by
  rintro (h | ⟨K, h1, h2⟩)
  · exact h none_fits
  · rw [(trn_none base K).1] at h2; omega
theorem MchOf.uni {S : Nat → Bool} {base n n' : Nat} (hb : 0 < base) (h : MchOf S base n) (h' : MchOf S base n') : n = n' := Nat.eq_of_mul_eq_mul_right hb (h.1.uni h'.1)
theorem MchOf.small {S : Nat → Bool} {base n : Nat} (h : MchOf S base n) (hf : Fits S) : ¬ Large S base := by
  rintro (h1 | ⟨K, h1, h2⟩)
  · exact h1 hf
  · rw [← h.1.uni h1, ← h.2.1] at h2
    have := h.2.2
    omega
/-- what a SLOT holds behind a call that makes a SET -/
def HoldR (X : Nat → Bool) (base j : Nat) (SS SS' : Nat → Nat → Bool) (r : Int32) : Prop := (r = -4 ∧ Large X base ∧ SS' = SS) ∨ ∃ n, r = nI n ∧ MchOf X base n ∧ Fits X ∧ SS' = va_up SS j X
theorem HoldR.uni {X : Nat → Bool} {base j : Nat} {SS S1 S2 : Nat → Nat → Bool} {r1 r2 : Int32} (hb : 0 < base) (h1 : HoldR X base j SS S1 r1) (h2 : HoldR X base j SS S2 r2) : r1 = r2 ∧ S1 = S2 := by
  rcases h1 with ⟨a1, a2, a3⟩ | ⟨n, a1, a2, a3, a4⟩ <;> rcases h2 with ⟨b1, b2, b3⟩ | ⟨n', b1, b2, b3, b4⟩
  · exact ⟨by rw [a1, b1], by rw [a3, b3]⟩
  · exact absurd a2 (b2.small b3)
  · exact absurd b2 (a2.small a3)
  · exact ⟨by rw [a1, b1, a2.uni hb b2], by rw [a4, b4]⟩
def Img (cy : Nat → ClassId) (L : List Nat) (f : Nat → va_E) (M : List Nat) (g s : Nat) (kp : Bool) (kb : Nat) (KS : Nat → Nat → Bool) : Prop := ∃ ia : Nat → Option Nat, cel L f g (.inr (1, [.ref s, .int (nI kb), .int (b2i kp)])) ∧ cel L f s (.inl (cy 4, 6, .inr (.inr (.inr (.inr ia))))) ∧ (kp = true → (kb = 2 ∨ kb = 3 ∨ kb = 5) ∧ ∃ ga : Nat → Nat, ia = (fun k => some (ga k)) ∧ ∀ j, j < 6 → Rnd cy L f M (ga j) (KS j) kb)
theorem Img.keep {cy : Nat → ClassId} {L L1 : List Nat} {f f1 : Nat → va_E} {M : List Nat} {g s : Nat} {kp : Bool} {kb : Nat} {KS : Nat → Nat → Bool} (h : Img cy L f M g s kp kb KS) (hL : ∀ b ∈ L, b ∈ L1) (hg : f1 g = f g) (hs : f1 s = f s) (hf : ∀ b ∈ L, b ∉ M → f1 b = f b) : Img cy L1 f1 M g s kp kb KS := by
  obtain ⟨ia, h1, h2, h3⟩ := h
  refine ⟨ia, h1.keep hL hg, h2.keep hL hs, fun hk => ⟨(h3 hk).1, ?_⟩⟩
  obtain ⟨ga, e, hq⟩ := (h3 hk).2
  exact ⟨ga, e, fun j hj => (hq j hj).keep hL hf⟩
def AdOK (L M : List Nat) (A : Nat → Nat) : Prop := (∀ i, i < 12 → A i ∈ M) ∧ (∀ i j, i < 12 → j < 12 → A i = A j → i = j) ∧ ∀ x ∈ M, x ∈ L
theorem AdOK.ne {L M : List Nat} {A : Nat → Nat} (h : AdOK L M A) {i j : Nat} (hi : i < 12) (hj : j < 12) (hn : i ≠ j) : A i ≠ A j := fun e => hn (h.2.1 i j hi hj e)
theorem AdOK.out {L M : List Nat} {A : Nat → Nat} (h : AdOK L M A) {b : Nat} (hb : b ∉ M) {i : Nat} (hi : i < 12) : b ≠ A i := fun e => hb (e ▸ h.1 i hi)
/-- the images, and the row that holds them -/
def NmR (cy : Nat → ClassId) (L : List Nat) (f : Nat → va_E) (M : List Nat) (A : Nat → Nat) (kp : Nat → Bool) (kb : Nat → Nat) (KS : Nat → Nat → Nat → Bool) : Prop := cel L f (A 2) (.inl (cy 3, 2, .inr (.inr (.inr (.inr (fun k => some (A (8 + k)))))))) ∧ Img cy L f M (A 8) (A 10) (kp 0) (kb 0) (KS 0) ∧ Img cy L f M (A 9) (A 11) (kp 1) (kb 1) (KS 1)
theorem NmR.keep {cy : Nat → ClassId} {L L1 : List Nat} {f f1 : Nat → va_E} {M : List Nat} {A : Nat → Nat} {kp : Nat → Bool} {kb : Nat → Nat} {KS : Nat → Nat → Nat → Bool} (hA : AdOK L M A) (h : NmR cy L f M A kp kb KS) (hL : ∀ b ∈ L, b ∈ L1) (hf : ∀ b ∈ L, b ≠ A 0 → b ≠ A 1 → b ≠ A 3 → b ≠ A 4 → b ≠ A 5 → b ≠ A 6 → b ≠ A 7 → f1 b = f b) : NmR cy L1 f1 M A kp kb KS := by
  have hk : ∀ i, i < 12 → (i = 2 ∨ 8 ≤ i) → f1 (A i) = f (A i) := fun i hi h2 => hf (A i) (hA.2.2 _ (hA.1 i hi)) (hA.ne hi (by decide) (by omega)) (hA.ne hi (by decide) (by omega)) (hA.ne hi (by decide) (by omega)) (hA.ne hi (by decide) (by omega)) (hA.ne hi (by decide) (by omega)) (hA.ne hi (by decide) (by omega)) (hA.ne hi (by decide) (by omega))
  have hm : ∀ b ∈ L, b ∉ M → f1 b = f b := fun b hb hn => hf b hb (hA.out hn (by decide)) (hA.out hn (by decide)) (hA.out hn (by decide)) (hA.out hn (by decide)) (hA.out hn (by decide)) (hA.out hn (by decide)) (hA.out hn (by decide))
  exact ⟨h.1.keep hL (hk 2 (by decide) (by decide)), h.2.1.keep hL (hk 8 (by decide) (by decide)) (hk 10 (by decide) (by decide)) hm, h.2.2.keep hL (hk 9 (by decide) (by decide)) (hk 11 (by decide) (by decide)) hm⟩
def B235 (b : Nat) : Prop := b = 2 ∨ b = 3 ∨ b = 5
def NmW (cy : Nat → ClassId) (L : List Nat) (f : Nat → va_E) (M : List Nat) (A : Nat → Nat) (base : Nat) (SS : Nat → Nat → Bool) (kp : Nat → Bool) (kb : Nat → Nat) (KS : Nat → Nat → Nat → Bool) : Prop := B235 base ∧ cel L f (A 0) (.inr (5, [.ref (A 1), .ref (A 2), .ref (A 3), .ref (A 5), .int (nI base)])) ∧ (∃ sa : Nat → Nat, cel L f (A 1) (.inl (cy 4, 6, .inr (.inr (.inr (.inr (fun k => some (sa k))))))) ∧ ∀ j, j < 6 → Rnd cy L f M (sa j) (SS j) base) ∧ Scr cy L f (A 3) (A 4) (A 5) (A 6) (A 7) ∧ NmR cy L f M A kp kb KS
set_option maxHeartbeats 4000000 in
set_option maxRecDepth 100000 in
theorem c_hold (l : Launch) (D : va_G) (cy : Nat → ClassId) (L : List Nat) (f0 : Nat → va_E) (sz : Nat) (nm sl im d r0 tr ro go base t per j : Nat) (M : List Nat) (j1 j2 j3 j4 : Int32) (b : Nat → Bool) (B0 : Nat → Nat → Bool) (G0 : Nat → Int32) (sa : Nat → Nat) (hbase : 0 < base) (hbase5 : base ≤ 5) (hb1 : t + per ≤ 3776) (hper : 0 < per) (hM : ∀ x ∈ M, x ∈ L) (hj : j < 6) (hin_sl : sl ∈ M) (h_nm : cel L f0 nm (.inr (5, [.ref sl, .ref im, .ref d, .ref tr, .int (nI base)]))) (h_sl : cel L f0 sl (.inl (cy 4, 6, .inr (.inr (.inr (.inr (fun k => some (sa k)))))))) (h_d : cel L f0 d (.inr (0, [.ref r0, .int (nI t), .int (nI per)]))) (h_row : cel L f0 r0 (.inl (cy 1, 59, .inr (.inl (wd b))))) (h_tr : cel L f0 tr (.inr (4, [.ref ro, .ref go, .int j1, .int j2, .int j3, .int j4]))) (h_rows : cel L f0 ro (.inl (cy 1, 195, .inr (.inl (rw3 B0))))) (h_goes : cel L f0 go (.inl (cy 0, 320, .inl G0))) : Met l yX5_hold (.code yX5_hold cX5_hold 3 (Option.some FieldType.int) :: wsL_law) { frames := 5, cells := 4, slots := 331, locals := 106 } (va_Pc [.ref nm, .int (nI j)] (PW D cy L f0 sz)) (va_Qi (fun (r : Int32) (u : List Nat × (Nat → va_E)) => (∀ b ∈ L, b ∈ u.1) ∧ (∀ b ∈ L, b ≠ sl → b ≠ d → b ≠ r0 → b ≠ tr → b ≠ ro → b ≠ go → u.2 b = f0 b) ∧ Scr cy u.1 u.2 d r0 tr ro go ∧ ((r = -4 ∧ Large (den t per b) base ∧ cel u.1 u.2 sl (.inl (cy 4, 6, .inr (.inr (.inr (.inr (fun k => some (sa k)))))))) ∨ ∃ q n, r = nI n ∧ MchOf (den t per b) base n ∧ Rnd cy u.1 u.2 M q (den t per b) base ∧ cel u.1 u.2 sl (.inl (cy 4, 6, .inr (.inr (.inr (.inr (fun k => some (if k = j then q else sa k))))))))) (PB D (AW L sz)) (AW L sz)) 4 331 (AW L sz) := by
  refine m_start (by decide) (Nat.le_of_ble_eq_true rfl) ?_
  intro p e R Q s m args below meth c ls hsz hR hQ E hr hlk hnm hw hl
  have hl : lv_has ls 3 [(0, .ref nm), (1, .int (nI j))] := hl
  obtain ⟨H, hH⟩ : ∃ X, X = s.heap := ⟨_, rfl⟩
  obtain ⟨locs, hlocs⟩ : ∃ X : List Loc, X = [] := ⟨_, rfl⟩
  have hw0 := hw
  obtain ⟨f, hf0⟩ : ∃ X, X = f0 := ⟨_, rfl⟩
  rw [← hf0] at h_nm h_sl h_d h_row h_tr h_rows h_goes
  have hw : WW D (AW L sz) s.heap L f H locs := by rw [hH, hlocs, hf0]; exact hw
  have hF : ∀ b ∈ L, b ≠ sl → b ≠ d → b ≠ r0 → b ≠ tr → b ≠ ro → b ≠ go → f b = f0 b := fun b hb h0 h1 h2 h3 h4 h5 => by rw [hf0]
  suffices hgo : W p l e R s m args below meth c H locs 0 0 Q (F0 m 0 ls []) by rw [hH, hlocs] at hgo; exact hgo
  clear hH hlocs hw0 hf0
  have hLs : ∀ b ∈ L, b ∈ L := fun _ h => h
  have n_nm_sl : nm ≠ sl := h_nm.ne h_sl (by simp)
  have n_nm_d : nm ≠ d := h_nm.ne h_d (by simp)
  have n_nm_row : nm ≠ r0 := h_nm.ne h_row (by simp)
  have n_nm_tr : nm ≠ tr := h_nm.ne h_tr (by simp)
  have n_nm_rows : nm ≠ ro := h_nm.ne h_rows (by simp)
  have n_nm_goes : nm ≠ go := h_nm.ne h_goes (by simp)
  have n_sl_d : sl ≠ d := h_sl.ne h_d (by simp)
  have n_sl_row : sl ≠ r0 := h_sl.ne h_row (by simp)
  have n_sl_tr : sl ≠ tr := h_sl.ne h_tr (by simp)
  have n_sl_rows : sl ≠ ro := h_sl.ne h_rows (by simp)
  have n_sl_goes : sl ≠ go := h_sl.ne h_goes (by simp)
  have n_d_sl : d ≠ sl := h_d.ne h_sl (by simp)
  have n_d_row : d ≠ r0 := h_d.ne h_row (by simp)
  have n_d_tr : d ≠ tr := h_d.ne h_tr (by simp)
  have n_d_rows : d ≠ ro := h_d.ne h_rows (by simp)
  have n_d_goes : d ≠ go := h_d.ne h_goes (by simp)
  have n_row_sl : r0 ≠ sl := h_row.ne h_sl (by simp)
  have n_row_d : r0 ≠ d := h_row.ne h_d (by simp)
  have n_row_tr : r0 ≠ tr := h_row.ne h_tr (by simp)
  have n_row_rows : r0 ≠ ro := h_row.ne h_rows (by simp)
  have n_row_goes : r0 ≠ go := h_row.ne h_goes (by simp)
  have n_tr_sl : tr ≠ sl := h_tr.ne h_sl (by simp)
  have n_tr_d : tr ≠ d := h_tr.ne h_d (by simp)
  have n_tr_row : tr ≠ r0 := h_tr.ne h_row (by simp)
  have n_tr_rows : tr ≠ ro := h_tr.ne h_rows (by simp)
  have n_tr_goes : tr ≠ go := h_tr.ne h_goes (by simp)
  have n_rows_sl : ro ≠ sl := h_rows.ne h_sl (by simp)
  have n_rows_d : ro ≠ d := h_rows.ne h_d (by simp)
  have n_rows_row : ro ≠ r0 := h_rows.ne h_row (by simp)
  have n_rows_tr : ro ≠ tr := h_rows.ne h_tr (by simp)
  have n_rows_goes : ro ≠ go := h_rows.ne h_goes (by simp)
  have n_goes_sl : go ≠ sl := h_goes.ne h_sl (by simp)
  have n_goes_d : go ≠ d := h_goes.ne h_d (by simp)
  have n_goes_row : go ≠ r0 := h_goes.ne h_row (by simp)
  have n_goes_tr : go ≠ tr := h_goes.ne h_tr (by simp)
  have n_goes_rows : go ≠ ro := h_goes.ne h_rows (by simp)
  have hc_nm := h_nm
  have hc_sl := h_sl
  have hc_d := h_d
  have hc_row := h_row
  have hc_tr := h_tr
  have hc_rows := h_rows
  have hc_goes := h_goes
  refine lv_aload_n E.1.1 E.1.2.1 dX5_hold_0 rfl (lv_at hl 0 rfl) ?_
  refine k_mq hw (va_runV (As := []) (rest := []) E.1 (c_drafted l D cy L f H.size nm sl im d r0 tr ro go base t per M j1 j2 j3 j4 b B0 G0 hbase hbase5 hb1 hper hM h_nm h_d h_row h_tr h_rows h_goes) ⟨callB_of 0 E.1.2.2.2.2 (gd_own w1_107) rfl rfl rfl (E.1.2.2.2.2 _ w1_1) (E.1.2.2.2.2 _ w1_104) hd_X5_drafted (by rw [hR]; exact ⟨Nat.le_of_ble_eq_true rfl, Nat.le_of_ble_eq_true rfl⟩), E.1.2.2.2.2 _ w1_106, E.1.2.2.2.2 _ ws_1⟩ (pw_preV (q := (RX5, TX5, 5)) E.2 hw h_nm rfl) rfl rfl hl.1 rfl (lv_room (Nat.le_of_ble_eq_true rfl)) dX5_hold_1 (by rw [hR]; exact ⟨Nat.le_of_ble_eq_true rfl, Nat.le_of_ble_eq_true rfl⟩)) (fun r L9 f H locs hp hw => ?_)
  refine W.cs (cells' := 4) (slots' := 331) rfl rfl ?_
  obtain ⟨hLn, hfr, ⟨k1, k2, k3, k4, k5, k6, g, B, G, h_d, h_row, h_tr, h_rows, h_goes⟩, hcase⟩ := hp
  dsimp only at hLn hfr hcase h_d h_row h_tr h_rows h_goes
  have h_nm := h_nm.keep hLn (hfr _ h_nm.1 n_nm_d n_nm_row n_nm_tr n_nm_rows n_nm_goes)
  have h_sl := h_sl.keep hLn (hfr _ h_sl.1 n_sl_d n_sl_row n_sl_tr n_sl_rows n_sl_goes)
  have hF : ∀ b ∈ L, b ≠ sl → b ≠ d → b ≠ r0 → b ≠ tr → b ≠ ro → b ≠ go → f b = f0 b := fun b hb h0 h1 h2 h3 h4 h5 => (hfr b (hLs b hb) h1 h2 h3 h4 h5).trans (hF b hb h0 h1 h2 h3 h4 h5)
  have hLs : ∀ b ∈ L, b ∈ L9 := fun b hb => hLn b (hLs b hb)
  rcases hcase with ⟨rfl, hbig⟩ | ⟨q, rfl, hq_q, hRnd⟩
  · have hbig2 := hbig
    refine lv_astore_nN (lv' := [(2, .null), (0, .ref nm), (1, .int (nI j))]) E.1.1 E.1.2.1 dX5_hold_4 rfl hl (by decide) rfl (fun ls hl => ?_)
    refine lv_aload_nN E.1.1 E.1.2.1 dX5_hold_5 rfl (lv_at hl 0 rfl) ?_
    refine lv_ifnonnullN E.1.1 E.1.2.1 dX5_hold_6 ?_
    refine lv_bipush (v := -4) E.1.1 E.1.2.1 dX5_hold_9 rfl ?_
    exact k_miret E hQ hlk hr hw (Nat.le_of_ble_eq_true rfl) (Nat.le_of_ble_eq_true rfl) (⟨hLs, hF, ⟨_, _, _, _, _, _, _, _, _, h_d, h_row, h_tr, h_rows, h_goes⟩, Or.inl ⟨rfl, hbig, h_sl⟩⟩) dX5_hold_11
  · obtain ⟨t3, q3, b3, n3, hS3, hM3, rw, mc, gs, m1, m2, m3, m4, h_q, h_rw, h_mc, h_gs⟩ := hRnd
    have n_q_nm : q ≠ nm := fun h => hq_q (h ▸ hc_nm.1)
    have n_q_sl : q ≠ sl := fun h => hq_q (h ▸ hc_sl.1)
    have n_q_d : q ≠ d := fun h => hq_q (h ▸ hc_d.1)
    have n_q_row : q ≠ r0 := fun h => hq_q (h ▸ hc_row.1)
    have n_q_tr : q ≠ tr := fun h => hq_q (h ▸ hc_tr.1)
    have n_q_rows : q ≠ ro := fun h => hq_q (h ▸ hc_rows.1)
    have n_q_goes : q ≠ go := fun h => hq_q (h ▸ hc_goes.1)
    have n_rw_sl : rw ≠ sl := fun h => m2 (h ▸ hin_sl)
    have n_mc_sl : mc ≠ sl := fun h => m3 (h ▸ hin_sl)
    have n_gs_sl : gs ≠ sl := fun h => m4 (h ▸ hin_sl)
    refine lv_astore_n (lv' := [(2, .ref q), (0, .ref nm), (1, .int (nI j))]) E.1.1 E.1.2.1 dX5_hold_4 rfl hl (by decide) rfl (fun ls hl => ?_)
    refine lv_aload_n E.1.1 E.1.2.1 dX5_hold_5 rfl (lv_at hl 0 rfl) ?_
    refine lv_ifnonnull (tgt := 12) E.1.1 E.1.2.1 dX5_hold_6 (by decide) ?_
    refine lv_aload_n E.1.1 E.1.2.1 dX5_hold_12 rfl (lv_at hl 1 rfl) ?_
    refine k_get (v := .ref sl) E inlX5 rfl 0 (by decide) w1_231 rfl hw h_nm rfl dX5_hold_13 ?_
    refine lv_iload_n E.1.1 E.1.2.1 dX5_hold_16 rfl (lv_at hl 2 rfl) ?_
    refine lv_aload_n E.1.1 E.1.2.1 dX5_hold_17 rfl (lv_at hl 0 rfl) ?_
    refine k_aast E hw 4 3 (fun k => some (if k = j then q else sa k)) h_sl rfl h_q rfl (by omega) (by omega) (fun k hk => by split <;> rfl) dX5_hold_18 (fun f H locs h_sl hfr hw => ?_)
    have h_nm := h_nm.kp hfr n_nm_sl
    have h_d := h_d.kp hfr n_d_sl
    have h_row := h_row.kp hfr n_row_sl
    have h_tr := h_tr.kp hfr n_tr_sl
    have h_rows := h_rows.kp hfr n_rows_sl
    have h_goes := h_goes.kp hfr n_goes_sl
    have h_q := h_q.kp hfr n_q_sl
    have h_rw := h_rw.kp hfr n_rw_sl
    have h_mc := h_mc.kp hfr n_mc_sl
    have h_gs := h_gs.kp hfr n_gs_sl
    have hF : ∀ b ∈ L, b ≠ sl → b ≠ d → b ≠ r0 → b ≠ tr → b ≠ ro → b ≠ go → f b = f0 b := fun b hb h0 h1 h2 h3 h4 h5 => (hfr b h0).trans (hF b hb h0 h1 h2 h3 h4 h5)
    refine lv_aload_n E.1.1 E.1.2.1 dX5_hold_19 rfl (lv_at hl 0 rfl) ?_
    refine k_getN (v := .ref mc) E inlX3 rfl 3 (by decide) (List.mem_of_getElem? (i := 17) rfl) rfl hw h_q rfl dX5_hold_20 ?_
    refine k_getN (v := .int (nI n3)) E inlX2 rfl 1 (by decide) (List.mem_of_getElem? (i := 13) rfl) rfl hw h_mc rfl dX5_hold_23 ?_
    exact k_miret E hQ hlk hr hw (Nat.le_of_ble_eq_true rfl) (Nat.le_of_ble_eq_true rfl) (⟨hLs, hF, ⟨_, _, _, _, _, _, _, _, _, h_d, h_row, h_tr, h_rows, h_goes⟩, Or.inr ⟨q, n3, rfl, hM3, ⟨t3, q3, b3, n3, hS3, hM3, rw, mc, gs, m1, m2, m3, m4, h_q, h_rw, h_mc, h_gs⟩, h_sl⟩⟩) dX5_hold_26

set_option maxHeartbeats 4000000 in
set_option maxRecDepth 100000 in
theorem c_emptyAll (l : Launch) (D : va_G) (cy : Nat → ClassId) (L : List Nat) (f0 : Nat → va_E) (sz : Nat) (nm sl im d r0 tr ro go nb : Nat) (M : List Nat) (ib i1 i2 j1 j2 j3 j4 : Int32) (g0 : Nat → Int64) (B0 : Nat → Nat → Bool) (G0 : Nat → Int32) (ra : Nat → Option Nat) (hbase : 0 < nb) (hbase5 : nb ≤ 5) (hM : ∀ x ∈ M, x ∈ L) (hin_sl : sl ∈ M) (h_nm : cel L f0 nm (.inr (5, [.ref sl, .ref im, .ref d, .ref tr, .int ib]))) (h_sl : cel L f0 sl (.inl (cy 4, 6, .inr (.inr (.inr (.inr ra)))))) (h_d : cel L f0 d (.inr (0, [.ref r0, .int i1, .int i2]))) (h_row : cel L f0 r0 (.inl (cy 1, 59, .inr (.inl g0)))) (h_tr : cel L f0 tr (.inr (4, [.ref ro, .ref go, .int j1, .int j2, .int j3, .int j4]))) (h_rows : cel L f0 ro (.inl (cy 1, 195, .inr (.inl (rw3 B0))))) (h_goes : cel L f0 go (.inl (cy 0, 320, .inl G0))) : Met l yX5_emptyAll (.code yX5_emptyAll cX5_emptyAll 4 none :: wsL_law) { frames := 5, cells := 4, slots := 331, locals := 106 } (va_Pc [.ref nm, .int (nI nb)] (PW D cy L f0 sz)) (va_Qv (fun u : List Nat × (Nat → va_E) => (∀ b ∈ L, b ∈ u.1) ∧ (∀ b ∈ L, b ≠ nm → b ≠ sl → b ≠ d → b ≠ r0 → b ≠ tr → b ≠ ro → b ≠ go → u.2 b = f0 b) ∧ Scr cy u.1 u.2 d r0 tr ro go ∧ cel u.1 u.2 nm (.inr (5, [.ref sl, .ref im, .ref d, .ref tr, .int (nI nb)])) ∧ ∃ q, Rnd cy u.1 u.2 M q (fun _ => false) nb ∧ cel u.1 u.2 sl (.inl (cy 4, 6, .inr (.inr (.inr (.inr (fun _ => some q))))))) (PB D (AW L sz)) (AW L sz)) 4 331 (AW L sz) := by
  refine m_start (by decide) (Nat.le_of_ble_eq_true rfl) ?_
  intro p e R Q s m args below meth c ls hsz hR hQ E hr hlk hnm hw hl
  have hl : lv_has ls 4 [(0, .ref nm), (1, .int (nI nb))] := hl
  obtain ⟨H, hH⟩ : ∃ X, X = s.heap := ⟨_, rfl⟩
  obtain ⟨locs, hlocs⟩ : ∃ X : List Loc, X = [] := ⟨_, rfl⟩
  have hw0 := hw
  obtain ⟨f, hf0⟩ : ∃ X, X = f0 := ⟨_, rfl⟩
  rw [← hf0] at h_nm h_sl h_d h_row h_tr h_rows h_goes
  have hw : WW D (AW L sz) s.heap L f H locs := by rw [hH, hlocs, hf0]; exact hw
  have hF : ∀ b ∈ L, b ≠ nm → b ≠ sl → b ≠ d → b ≠ r0 → b ≠ tr → b ≠ ro → b ≠ go → f b = f0 b := fun b hb h0 h1 h2 h3 h4 h5 h6 => by rw [hf0]
  suffices hgo : W p l e R s m args below meth c H locs 0 0 Q (F0 m 0 ls []) by rw [hH, hlocs] at hgo; exact hgo
  clear hH hlocs hw0 hf0
  have hLs : ∀ b ∈ L, b ∈ L := fun _ h => h
  have n_nm_sl : nm ≠ sl := h_nm.ne h_sl (by simp)
  have n_nm_d : nm ≠ d := h_nm.ne h_d (by simp)
  have n_nm_row : nm ≠ r0 := h_nm.ne h_row (by simp)
  have n_nm_tr : nm ≠ tr := h_nm.ne h_tr (by simp)
  have n_nm_rows : nm ≠ ro := h_nm.ne h_rows (by simp)
  have n_nm_goes : nm ≠ go := h_nm.ne h_goes (by simp)
  have n_sl_nm : sl ≠ nm := h_sl.ne h_nm (by simp)
  have n_sl_d : sl ≠ d := h_sl.ne h_d (by simp)
  have n_sl_row : sl ≠ r0 := h_sl.ne h_row (by simp)
  have n_sl_tr : sl ≠ tr := h_sl.ne h_tr (by simp)
  have n_sl_rows : sl ≠ ro := h_sl.ne h_rows (by simp)
  have n_sl_goes : sl ≠ go := h_sl.ne h_goes (by simp)
  have n_d_nm : d ≠ nm := h_d.ne h_nm (by simp)
  have n_d_sl : d ≠ sl := h_d.ne h_sl (by simp)
  have n_d_row : d ≠ r0 := h_d.ne h_row (by simp)
  have n_d_tr : d ≠ tr := h_d.ne h_tr (by simp)
  have n_d_rows : d ≠ ro := h_d.ne h_rows (by simp)
  have n_d_goes : d ≠ go := h_d.ne h_goes (by simp)
  have n_row_nm : r0 ≠ nm := h_row.ne h_nm (by simp)
  have n_row_sl : r0 ≠ sl := h_row.ne h_sl (by simp)
  have n_row_d : r0 ≠ d := h_row.ne h_d (by simp)
  have n_row_tr : r0 ≠ tr := h_row.ne h_tr (by simp)
  have n_row_rows : r0 ≠ ro := h_row.ne h_rows (by simp)
  have n_row_goes : r0 ≠ go := h_row.ne h_goes (by simp)
  have n_tr_nm : tr ≠ nm := h_tr.ne h_nm (by simp)
  have n_tr_sl : tr ≠ sl := h_tr.ne h_sl (by simp)
  have n_tr_d : tr ≠ d := h_tr.ne h_d (by simp)
  have n_tr_row : tr ≠ r0 := h_tr.ne h_row (by simp)
  have n_tr_rows : tr ≠ ro := h_tr.ne h_rows (by simp)
  have n_tr_goes : tr ≠ go := h_tr.ne h_goes (by simp)
  have n_rows_nm : ro ≠ nm := h_rows.ne h_nm (by simp)
  have n_rows_sl : ro ≠ sl := h_rows.ne h_sl (by simp)
  have n_rows_d : ro ≠ d := h_rows.ne h_d (by simp)
  have n_rows_row : ro ≠ r0 := h_rows.ne h_row (by simp)
  have n_rows_tr : ro ≠ tr := h_rows.ne h_tr (by simp)
  have n_rows_goes : ro ≠ go := h_rows.ne h_goes (by simp)
  have n_goes_nm : go ≠ nm := h_goes.ne h_nm (by simp)
  have n_goes_sl : go ≠ sl := h_goes.ne h_sl (by simp)
  have n_goes_d : go ≠ d := h_goes.ne h_d (by simp)
  have n_goes_row : go ≠ r0 := h_goes.ne h_row (by simp)
  have n_goes_tr : go ≠ tr := h_goes.ne h_tr (by simp)
  have n_goes_rows : go ≠ ro := h_goes.ne h_rows (by simp)
  have hc_nm := h_nm
  have hc_sl := h_sl
  have hc_d := h_d
  have hc_row := h_row
  have hc_tr := h_tr
  have hc_rows := h_rows
  have hc_goes := h_goes
  refine lv_aload_n E.1.1 E.1.2.1 dX5_emptyAll_0 rfl (lv_at hl 0 rfl) ?_
  refine lv_iload_n E.1.1 E.1.2.1 dX5_emptyAll_1 rfl (lv_at hl 1 rfl) ?_
  refine k_put (ty0 := tyX5) E inlX5 rfl tyX5_ok nmX5 4 (by decide) w1_235 rfl rfl hw [.ref sl, .ref im, .ref d, .ref tr, .int (nI nb)] h_nm (rfl) (rfl) (Nat.le_of_ble_eq_true rfl) rfl dX5_emptyAll_2 (fun f H locs h_nm hfr hw => ?_)
  have h_sl := h_sl.kp hfr n_sl_nm
  have h_d := h_d.kp hfr n_d_nm
  have h_row := h_row.kp hfr n_row_nm
  have h_tr := h_tr.kp hfr n_tr_nm
  have h_rows := h_rows.kp hfr n_rows_nm
  have h_goes := h_goes.kp hfr n_goes_nm
  have hF : ∀ b ∈ L, b ≠ nm → b ≠ sl → b ≠ d → b ≠ r0 → b ≠ tr → b ≠ ro → b ≠ go → f b = f0 b := fun b hb h0 h1 h2 h3 h4 h5 h6 => (hfr b h0).trans (hF b hb h0 h1 h2 h3 h4 h5 h6)
  refine lv_aload_n E.1.1 E.1.2.1 dX5_emptyAll_5 rfl (lv_at hl 0 rfl) ?_
  refine k_get (v := .ref d) E inlX5 rfl 2 (by decide) w1_233 rfl hw h_nm rfl dX5_emptyAll_6 ?_
  refine lv_iconst (v := nI 0) E.1.1 E.1.2.1 dX5_emptyAll_9 rfl ?_
  refine lv_iconst (v := nI 1) E.1.1 E.1.2.1 dX5_emptyAll_10 rfl ?_
  refine k_mv hw (va_runV (As := [.int (nI 0), .int (nI 1)]) (rest := []) E.1 (c_open l D cy L f H.size d r0 0 1 i1 i2 g0 (by decide) (by decide) (by decide) h_d h_row) ⟨callB_of 2 E.1.2.2.2.2 (gd_own w1_97) rfl rfl rfl (E.1.2.2.2.2 _ w1_2) (E.1.2.2.2.2 _ w1_94) hd_X0_open (by rw [hR]; exact ⟨Nat.le_of_ble_eq_true rfl, Nat.le_of_ble_eq_true rfl⟩), E.1.2.2.2.2 _ w1_95, E.1.2.2.2.2 _ w1_96⟩ (pw_preV (q := (RX0, TX0, 3)) E.2 hw h_d rfl) rfl rfl hl.1 rfl (lv_room (Nat.le_of_ble_eq_true rfl)) dX5_emptyAll_11 (by rw [hR]; exact ⟨Nat.le_of_ble_eq_true rfl, Nat.le_of_ble_eq_true rfl⟩)) (fun L1 f H locs hp hw => ?_)
  obtain ⟨hL1, hfr, h_d, h_row⟩ := hp
  have hL1 : L = L1 := hL1
  subst hL1
  have h_d : cel L f d (.inr (0, [.ref r0, .int (nI 0), .int (nI 1)])) := h_d
  have h_row : cel L f r0 (.inl (cy 1, 59, .inr (.inl (wd (fun _ => false))))) := h_row
  have h_nm := h_nm.keep (fun _ h => h) (hfr _ h_nm.1 n_nm_d n_nm_row)
  have h_sl := h_sl.keep (fun _ h => h) (hfr _ h_sl.1 n_sl_d n_sl_row)
  have h_tr := h_tr.keep (fun _ h => h) (hfr _ h_tr.1 n_tr_d n_tr_row)
  have h_rows := h_rows.keep (fun _ h => h) (hfr _ h_rows.1 n_rows_d n_rows_row)
  have h_goes := h_goes.keep (fun _ h => h) (hfr _ h_goes.1 n_goes_d n_goes_row)
  have hF : ∀ b ∈ L, b ≠ nm → b ≠ sl → b ≠ d → b ≠ r0 → b ≠ tr → b ≠ ro → b ≠ go → f b = f0 b := fun b hb h0 h1 h2 h3 h4 h5 h6 => (hfr b (hLs b hb) h2 h3).trans (hF b hb h0 h1 h2 h3 h4 h5 h6)
  refine lv_aload_n E.1.1 E.1.2.1 dX5_emptyAll_14 rfl (lv_at hl 0 rfl) ?_
  refine k_mq hw (va_runV (As := []) (rest := []) E.1 (c_drafted l D cy L f H.size nm sl im d r0 tr ro go nb 0 1 M j1 j2 j3 j4 (fun _ => false) B0 G0 hbase hbase5 (by decide) (by decide) hM h_nm h_d h_row h_tr h_rows h_goes) ⟨callB_of 0 E.1.2.2.2.2 (gd_own w1_107) rfl rfl rfl (E.1.2.2.2.2 _ w1_1) (E.1.2.2.2.2 _ w1_104) hd_X5_drafted (by rw [hR]; exact ⟨Nat.le_of_ble_eq_true rfl, Nat.le_of_ble_eq_true rfl⟩), E.1.2.2.2.2 _ w1_106, E.1.2.2.2.2 _ ws_1⟩ (pw_preV (q := (RX5, TX5, 5)) E.2 hw h_nm rfl) rfl rfl hl.1 rfl (lv_room (Nat.le_of_ble_eq_true rfl)) dX5_emptyAll_15 (by rw [hR]; exact ⟨Nat.le_of_ble_eq_true rfl, Nat.le_of_ble_eq_true rfl⟩)) (fun r L9 f H locs hp hw => ?_)
  refine W.cs (cells' := 4) (slots' := 331) rfl rfl ?_
  obtain ⟨hLn, hfr, ⟨k1, k2, k3, k4, k5, k6, g, B, G, h_d, h_row, h_tr, h_rows, h_goes⟩, hcase⟩ := hp
  dsimp only at hLn hfr hcase h_d h_row h_tr h_rows h_goes
  have h_nm := h_nm.keep hLn (hfr _ h_nm.1 n_nm_d n_nm_row n_nm_tr n_nm_rows n_nm_goes)
  have h_sl := h_sl.keep hLn (hfr _ h_sl.1 n_sl_d n_sl_row n_sl_tr n_sl_rows n_sl_goes)
  have hF : ∀ b ∈ L, b ≠ nm → b ≠ sl → b ≠ d → b ≠ r0 → b ≠ tr → b ≠ ro → b ≠ go → f b = f0 b := fun b hb h0 h1 h2 h3 h4 h5 h6 => (hfr b (hLs b hb) h2 h3 h4 h5 h6).trans (hF b hb h0 h1 h2 h3 h4 h5 h6)
  have hLs : ∀ b ∈ L, b ∈ L9 := fun b hb => hLn b (hLs b hb)
  rcases hcase with ⟨rfl, hbig⟩ | ⟨q, rfl, hq_q, hRnd⟩
  · exact absurd hbig (none_small nb)
  · obtain ⟨t3, q3, b3, n3, hS3, hM3, rw, mc, gs, m1, m2, m3, m4, h_q, h_rw, h_mc, h_gs⟩ := hRnd
    have n_q_nm : q ≠ nm := fun h => hq_q (h ▸ hc_nm.1)
    have n_q_sl : q ≠ sl := fun h => hq_q (h ▸ hc_sl.1)
    have n_q_d : q ≠ d := fun h => hq_q (h ▸ hc_d.1)
    have n_q_row : q ≠ r0 := fun h => hq_q (h ▸ hc_row.1)
    have n_q_tr : q ≠ tr := fun h => hq_q (h ▸ hc_tr.1)
    have n_q_rows : q ≠ ro := fun h => hq_q (h ▸ hc_rows.1)
    have n_q_goes : q ≠ go := fun h => hq_q (h ▸ hc_goes.1)
    have n_rw_sl : rw ≠ sl := fun h => m2 (h ▸ hin_sl)
    have n_mc_sl : mc ≠ sl := fun h => m3 (h ▸ hin_sl)
    have n_gs_sl : gs ≠ sl := fun h => m4 (h ▸ hin_sl)
    refine lv_astore_n (lv' := [(2, .ref q), (0, .ref nm), (1, .int (nI nb))]) E.1.1 E.1.2.1 dX5_emptyAll_18 rfl hl (by decide) rfl (fun ls hl => ?_)
    obtain ⟨f, h_sl, hfr, hw⟩ := k_swr (fun k => if k < 0 then some q else ra k) hw h_sl (fun k hk => by rw [if_neg (by omega)])
    have h_nm := h_nm.kp hfr n_nm_sl
    have h_d := h_d.kp hfr n_d_sl
    have h_row := h_row.kp hfr n_row_sl
    have h_tr := h_tr.kp hfr n_tr_sl
    have h_rows := h_rows.kp hfr n_rows_sl
    have h_goes := h_goes.kp hfr n_goes_sl
    have h_q := h_q.kp hfr n_q_sl
    have h_rw := h_rw.kp hfr n_rw_sl
    have h_mc := h_mc.kp hfr n_mc_sl
    have h_gs := h_gs.kp hfr n_gs_sl
    have hF : ∀ b ∈ L, b ≠ nm → b ≠ sl → b ≠ d → b ≠ r0 → b ≠ tr → b ≠ ro → b ≠ go → f b = f0 b := fun b hb h0 h1 h2 h3 h4 h5 h6 => (hfr b h1).trans (hF b hb h0 h1 h2 h3 h4 h5 h6)
    refine lv_iconst (v := nI 0) E.1.1 E.1.2.1 dX5_emptyAll_19 rfl ?_
    refine lv_istore_n (lv' := [(3, .int (nI 0)), (2, .ref q), (0, .ref nm), (1, .int (nI nb))]) E.1.1 E.1.2.1 dX5_emptyAll_20 rfl hl (by decide) rfl (fun ls hl => ?_)
    have lp21 : ∀ (k : Nat) (i : Nat) (f : Nat → va_E) (H : Heap) (locs : List Loc) (ls : Array Slot), (6 - i < k) → (i ≤ 6) → (cel L9 f nm (.inr (5, [.ref sl, .ref im, .ref d, .ref tr, .int (nI nb)]))) → (cel L9 f sl (.inl (cy 4, 6, .inr (.inr (.inr (.inr (fun k => if k < i then some q else ra k))))))) → (cel L9 f d (.inr (0, [.ref r0, .int k1, .int k2]))) → (cel L9 f r0 (.inl (cy 1, 59, .inr (.inl g)))) → (cel L9 f tr (.inr (4, [.ref ro, .ref go, .int k3, .int k4, .int k5, .int k6]))) → (cel L9 f ro (.inl (cy 1, 195, .inr (.inl (rw3 B))))) → (cel L9 f go (.inl (cy 0, 320, .inl G))) → (cel L9 f q (.inr (3, [.int (nI t3), .int (nI q3), .ref rw, .ref mc]))) → (cel L9 f rw (.inl (cy 1, 3, .inr (.inl (wd b3))))) → (cel L9 f mc (.inr (2, [.int (nI nb), .int (nI n3), .ref gs, .long (lN (bsum (fun x => (trn (fun _ => false) nb (n3 * nb)).2.1 x 0) n3))]))) → (cel L9 f gs (.inl (cy 0, n3 * nb, .inl (fun k => nI ((trn (fun _ => false) nb (n3 * nb)).2.2 k))))) → (∀ b ∈ L, b ≠ nm → b ≠ sl → b ≠ d → b ≠ r0 → b ≠ tr → b ≠ ro → b ≠ go → f b = f0 b) → (WW D (AW L sz) s.heap L9 f H locs) → (lv_has ls 4 [(3, .int (nI i)), (2, .ref q), (0, .ref nm), (1, .int (nI nb))]) → W p l e R s m args below meth c H locs 4 331 Q (F0 m 21 ls []) := by
      intro k
      induction k with
      | zero => intro _ _ _ _ _ hk; exact absurd hk (Nat.not_lt_zero _)
      | succ k ih21 =>
        intro i f H locs ls hk hi h_nm h_sl h_d h_row h_tr h_rows h_goes h_q h_rw h_mc h_gs hF hw hl
        refine lv_iload_n E.1.1 E.1.2.1 dX5_emptyAll_21 rfl (lv_at hl 0 rfl) ?_
        refine lv_bipush (v := nI 6) E.1.1 E.1.2.1 dX5_emptyAll_22 rfl ?_
        refine k_ge (tgt := 40) E dX5_emptyAll_24 (by decide) (by omega) (by omega) (fun c24 => ?_) (fun c24 => ?_)
        · obtain ⟨f, h_sl, hfr, hw⟩ := k_swr (fun _ => some q) hw h_sl (fun k hk => by rw [if_pos (by omega)])
          have h_nm := h_nm.kp hfr n_nm_sl
          have h_d := h_d.kp hfr n_d_sl
          have h_row := h_row.kp hfr n_row_sl
          have h_tr := h_tr.kp hfr n_tr_sl
          have h_rows := h_rows.kp hfr n_rows_sl
          have h_goes := h_goes.kp hfr n_goes_sl
          have h_q := h_q.kp hfr n_q_sl
          have h_rw := h_rw.kp hfr n_rw_sl
          have h_mc := h_mc.kp hfr n_mc_sl
          have h_gs := h_gs.kp hfr n_gs_sl
          have hF : ∀ b ∈ L, b ≠ nm → b ≠ sl → b ≠ d → b ≠ r0 → b ≠ tr → b ≠ ro → b ≠ go → f b = f0 b := fun b hb h0 h1 h2 h3 h4 h5 h6 => (hfr b h1).trans (hF b hb h0 h1 h2 h3 h4 h5 h6)
          exact k_mvret E hQ hlk hr hw (Nat.le_of_ble_eq_true rfl) (Nat.le_of_ble_eq_true rfl) (⟨hLs, hF, ⟨_, _, _, _, _, _, _, _, _, h_d, h_row, h_tr, h_rows, h_goes⟩, h_nm, q, ⟨t3, q3, b3, n3, hS3, hM3, rw, mc, gs, m1, m2, m3, m4, h_q, h_rw, h_mc, h_gs⟩, h_sl⟩) dX5_emptyAll_40
        · refine lv_aload_n E.1.1 E.1.2.1 dX5_emptyAll_27 rfl (lv_at hl 2 rfl) ?_
          refine k_get (v := .ref sl) E inlX5 rfl 0 (by decide) w1_231 rfl hw h_nm rfl dX5_emptyAll_28 ?_
          refine lv_iload_n E.1.1 E.1.2.1 dX5_emptyAll_31 rfl (lv_at hl 0 rfl) ?_
          refine lv_aload_n E.1.1 E.1.2.1 dX5_emptyAll_32 rfl (lv_at hl 1 rfl) ?_
          refine k_aast E hw 4 3 (fun k => if k < i + 1 then some q else ra k) h_sl rfl h_q rfl (by omega) (by omega) (fun k hk => by
      by_cases h : k = i
      · rw [if_pos h, if_pos (by omega)]
      · rw [if_neg h]
        by_cases h2 : k < i
        · rw [if_pos h2, if_pos (by omega)]
        · rw [if_neg h2, if_neg (by omega)]) dX5_emptyAll_33 (fun f H locs h_sl hfr hw => ?_)
          have h_nm := h_nm.kp hfr n_nm_sl
          have h_d := h_d.kp hfr n_d_sl
          have h_row := h_row.kp hfr n_row_sl
          have h_tr := h_tr.kp hfr n_tr_sl
          have h_rows := h_rows.kp hfr n_rows_sl
          have h_goes := h_goes.kp hfr n_goes_sl
          have h_q := h_q.kp hfr n_q_sl
          have h_rw := h_rw.kp hfr n_rw_sl
          have h_mc := h_mc.kp hfr n_mc_sl
          have h_gs := h_gs.kp hfr n_gs_sl
          have hF : ∀ b ∈ L, b ≠ nm → b ≠ sl → b ≠ d → b ≠ r0 → b ≠ tr → b ≠ ro → b ≠ go → f b = f0 b := fun b hb h0 h1 h2 h3 h4 h5 h6 => (hfr b h1).trans (hF b hb h0 h1 h2 h3 h4 h5 h6)
          refine lv_iinc (v := nI (i + 1)) (lv' := [(3, .int (nI (i + 1))), (2, .ref q), (0, .ref nm), (1, .int (nI nb))]) E.1.1 E.1.2.1 dX5_emptyAll_34 hl (k := 0) rfl (nI_1 _) (by decide) rfl (fun ls hl => ?_)
          refine lv_goto (tgt := 21) E.1.1 E.1.2.1 dX5_emptyAll_37 (by decide) ?_
          exact ih21  (i + 1) f H locs ls (by omega) (by omega) h_nm h_sl h_d h_row h_tr h_rows h_goes h_q h_rw h_mc h_gs hF hw (lv_sub hl [0, 1, 2, 3] rfl)
    exact lp21 (6 - 0 + 1) 0 f H locs ls (Nat.lt_succ_self _) (by omega) h_nm h_sl h_d h_row h_tr h_rows h_goes h_q h_rw h_mc h_gs hF hw (lv_sub hl [0, 1, 2, 3] rfl)
