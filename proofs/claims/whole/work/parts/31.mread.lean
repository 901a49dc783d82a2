theorem mi_go {S : Nat → Bool} {base n : Nat} {T P : Nat → Nat} {B : Nat → Nat → Bool} {G : Nat → Int32} (h : MI S base (n * base) n T P B G) {i d : Nat} (hi : i < n) (hd : d < base) : G (5 * i + d) = nI ((trn S base (n * base)).2.2 (i * base + d)) := by
  have h1 := h.2.2.1 (i * base + d) (ix3 hi hd)
  rw [ix1 hd, ix2 hd] at h1
  exact h1
/-- the least one met, going down from N to q -/
def DN (X : Nat → Bool) (q N : Nat) (r : Int32) : Prop := (r = -6 ∧ ∀ n, q ≤ n → n < N → X n = false) ∨ ∃ n, q ≤ n ∧ n < N ∧ r = nI n ∧ X n = true ∧ ∀ i, q ≤ i → i < n → X i = false
theorem DN_0 (X : Nat → Bool) (N : Nat) : DN X N N (-6) := Or.inl ⟨rfl, fun n h1 h2 => absurd h1 (by omega)⟩
theorem DN_t {X : Nat → Bool} {q N : Nat} {r : Int32} (hq : 0 < q) (hqN : q ≤ N) (h : X (q - 1) = true) : DN X (q - 1) N (nI (q - 1)) := Or.inr ⟨q - 1, Nat.le_refl _, by omega, rfl, h, fun i h1 h2 => absurd h1 (by omega)⟩
theorem DN_f {X : Nat → Bool} {q N : Nat} {r : Int32} (hd : DN X q N r) (h : X (q - 1) = false) : DN X (q - 1) N r := by
  rcases hd with ⟨h1, h2⟩ | ⟨n, h1, h2, h3, h4, h5⟩
  · refine Or.inl ⟨h1, fun n h3 h4 => ?_⟩
    by_cases e : n = q - 1
    · rw [e]; exact h
    · exact h2 n (by omega) h4
  · refine Or.inr ⟨n, by omega, h2, h3, h4, fun i h6 h7 => ?_⟩
    by_cases e : i = q - 1
    · rw [e]; exact h
    · exact h5 i (by omega) h7
theorem DN_LI {X : Nat → Bool} {T z : Nat} {r : Int32} (hz : 0 < z) (hw : T + z < 1000000) (hE : EvP X T z) (h : DN X 0 (T + z) r) : LI X r := by
  rcases h with ⟨h1, h2⟩ | ⟨n, h1, h2, h3, h4, h5⟩
  · exact Or.inl ⟨h1, ev_all hz hE (fun n hn => h2 n (Nat.zero_le _) hn)⟩
  · exact Or.inr ⟨n, by omega, h3, h4, fun j hj => h5 j (Nat.zero_le _) hj⟩
theorem LI.pos {X : Nat → Bool} {r : Int32} (h : LI X r) : (0 : Int32) ≤ r ↔ ¬ ∀ n, X n = false := by
  rcases h with ⟨h1, h2⟩ | ⟨n, h0, h1, h2, h3⟩
  · rw [h1]; exact ⟨fun q => absurd q n6_neg, fun q => absurd h2 q⟩
  · constructor
    · intro _ q; rw [q n] at h2; cases h2
    · intro _
      rw [h1, i32_le, nI_t (by omega)]
      have e0 : (0 : Int32).toInt = 0 := rfl
      omega
theorem jw3_eq {S T : Nat → Bool} : (∀ n, jw 3 (S n) (T n) = false) ↔ S = T := by
  constructor
  · intro h
    funext n
    have h1 : (S n != T n) = false := h n
    cases hs : S n <;> cases ht : T n <;> rw [hs, ht] at h1 <;> first | rfl | cases h1
  · intro h n
    rw [h]
    show (T n != T n) = false
    cases T n <;> rfl
theorem m1_pos {q : Nat} (h : ¬ nI q + (-1) < 0) : 0 < q := by
  rcases Nat.eq_zero_or_pos q with e | e
  · subst e; exact absurd (by decide) h
  · exact e
theorem m1_zero {q : Nat} (hq : q < 2147483648) (h : nI q + (-1) < 0) : q = 0 := by
  rcases Nat.eq_zero_or_pos q with e | e
  · exact e
  · rw [sb_m1 e] at h
    exact absurd h (nI_pos (show q - 1 < 2 ^ 31 by omega))
/-- sets src + j copied to dst + j, the first s of them -/
def CS {α : Type} (T T1 : Nat → α) (src dst s : Nat) : Prop := ∀ x, T1 x = if dst ≤ x ∧ x < dst + s then T (x - dst + src) else T x
theorem CS_0 {α : Type} (T : Nat → α) (src dst : Nat) : CS T T src dst 0 := fun x => by rw [if_neg (by omega)]
theorem CS_s {α : Type} {T T1 : Nat → α} {src dst s : Nat} (h : CS T T1 src dst s) (hd : src + s < dst ∨ dst + s ≤ src + s) : CS T (va_up T1 (dst + s) (T1 (src + s))) src dst (s + 1) := fun x => by
  have h1 := h (src + s)
  rw [if_neg (by omega)] at h1
  by_cases e : x = dst + s
  · rw [e, va_up_self, if_pos (by omega), h1, show dst + s - dst + src = src + s by omega]
  · rw [va_up_ne _ _ e, h x]
    by_cases q : dst ≤ x ∧ x < dst + s
    · rw [if_pos q, if_pos (by omega)]
    · rw [if_neg q, if_neg (by omega)]
theorem CS_in {α : Type} {T T1 : Nat → α} {src dst s : Nat} (h : CS T T1 src dst s) {j : Nat} (hj : j < s) : T1 (dst + j) = T (src + j) := by
  rw [h, if_pos (by omega), show dst + j - dst + src = src + j by omega]
theorem CS_out {α : Type} {T T1 : Nat → α} {src dst s x : Nat} (h : CS T T1 src dst s) (hx : x < dst ∨ dst + s ≤ x) : T1 x = T x := by
  rw [h, if_neg (by omega)]
theorem up_stb (kp : Nat → Bool) (y : Nat) (v : Bool) (i : Nat) : (if i = y then b2i v else b2i (kp i)) = b2i (va_up kp y v i) := by
  by_cases h : i = y
  · rw [if_pos h, h, va_up_self]
  · rw [if_neg h, va_up_ne _ _ h]
theorem img_MK {kp : Nat → Bool} {kb kb1 : Nat → Nat} {KS : Nat → Nat → Nat → Bool} {SS : Nat → Nat → Bool} {base x0 : Nat} {T P T1 P1 : Nat → Nat} {B B1 : Nat → Nat → Bool} (hB : B235 base) (hx : x0 ≤ 1) (hMS : MS base SS T P B) (hMK : MK kp kb kb1 KS T P B) (hT : CS T T1 0 (6 + 6 * x0) 6) (hP : CS P P1 0 (6 + 6 * x0) 6) (hBb : CS B B1 0 (6 + 6 * x0) 6) : MK (va_up kp x0 true) (va_up kb x0 base) (va_up kb1 x0 base) (va_up KS x0 SS) T1 P1 B1 := by
  intro i hi hk
  by_cases e : i = x0
  · subst e
    refine ⟨by rw [va_up_self, va_up_self], by rw [va_up_self]; exact hB, fun j hj => ?_⟩
    rw [va_up_self, va_up_self, CS_in hT hj, CS_in hP hj, CS_in hBb hj, Nat.zero_add]
    exact hMS j hj
  · rw [va_up_ne _ _ e] at hk
    obtain ⟨h1, h2, h3⟩ := hMK i hi hk
    refine ⟨by rw [va_up_ne _ _ e, va_up_ne _ _ e]; exact h1, by rw [va_up_ne _ _ e]; exact h2, fun j hj => ?_⟩
    rw [va_up_ne _ _ e, va_up_ne _ _ e, CS_out hT (by omega), CS_out hP (by omega), CS_out hBb (by omega)]
    exact h3 j hj
theorem img_MS {SS : Nat → Nat → Bool} {base x0 : Nat} {T P T1 P1 : Nat → Nat} {B B1 : Nat → Nat → Bool} (hMS : MS base SS T P B) (hT : CS T T1 0 (6 + 6 * x0) 6) (hP : CS P P1 0 (6 + 6 * x0) 6) (hBb : CS B B1 0 (6 + 6 * x0) 6) : MS base SS T1 P1 B1 := fun j hj => by
  rw [CS_out hT (by omega), CS_out hP (by omega), CS_out hBb (by omega)]
  exact hMS j hj
theorem res_MK {kp : Nat → Bool} {kb kb1 : Nat → Nat} {KS : Nat → Nat → Nat → Bool} {x0 : Nat} {T P T1 P1 : Nat → Nat} {B B1 : Nat → Nat → Bool} (hMK : MK kp kb kb1 KS T P B) (hT : CS T T1 (6 + 6 * x0) 0 6) (hP : CS P P1 (6 + 6 * x0) 0 6) (hBb : CS B B1 (6 + 6 * x0) 0 6) : MK kp kb kb1 KS T1 P1 B1 := hMK.ag (fun x _ h6 => ⟨CS_out hT (by omega), CS_out hP (by omega), CS_out hBb (by omega)⟩)
theorem res_MS {kp : Nat → Bool} {kb kb1 : Nat → Nat} {KS : Nat → Nat → Nat → Bool} {x0 : Nat} {T P T1 P1 : Nat → Nat} {B B1 : Nat → Nat → Bool} (hx : x0 ≤ 1) (hk : kp x0 = true) (hMK : MK kp kb kb1 KS T P B) (hT : CS T T1 (6 + 6 * x0) 0 6) (hP : CS P P1 (6 + 6 * x0) 0 6) (hBb : CS B B1 (6 + 6 * x0) 0 6) : MS (kb x0) (KS x0) T1 P1 B1 := fun j hj => by
  have h1 := CS_in hT hj
  have h2 := CS_in hP hj
  have h3 := CS_in hBb hj
  rw [Nat.zero_add] at h1 h2 h3
  rw [h1, h2, h3]
  exact (hMK x0 (by omega) hk).2.2 j hj
theorem none_is : SetIs (fun _ => false) 0 1 (fun _ => false) := ⟨⟨by decide, fun _ _ => rfl, fun q' t' h _ => h, fun _ _ => Nat.zero_le _⟩, by decide, by decide, fun _ _ => rfl, fun _ _ _ => rfl⟩
theorem none_mch {nb : Nat} (h : 0 < nb) : MchOf (fun _ => false) nb 1 := by
  refine ⟨⟨Or.inl ?_, fun K' hK => ?_⟩, ?_, by decide⟩
  · rw [(trn_none nb _).1]; omega
  · rintro (q | q)
    · rw [(trn_none nb K').1] at q; omega
    · rw [(trn_none nb K').1] at q; omega
  · rw [(trn_none nb _).1]
/-- the first s sets emptied -/
def EM (T P T1 P1 : Nat → Nat) (B B1 : Nat → Nat → Bool) (s : Nat) : Prop := (∀ x, x < s → T1 x = 0 ∧ P1 x = 1 ∧ B1 x = fun _ => false) ∧ ∀ x, s ≤ x → T1 x = T x ∧ P1 x = P x ∧ B1 x = B x
theorem EM_s {T P T1 P1 : Nat → Nat} {B B1 : Nat → Nat → Bool} {s : Nat} (h : EM T P T1 P1 B B1 s) : EM T P (va_up T1 s 0) (va_up P1 s 1) B (va_up B1 s (fun _ => false)) (s + 1) := by
  constructor
  · intro x hx
    by_cases e : x = s
    · rw [e, va_up_self, va_up_self, va_up_self]; exact ⟨rfl, rfl, rfl⟩
    · rw [va_up_ne _ _ e, va_up_ne _ _ e, va_up_ne _ _ e]; exact h.1 x (by omega)
  · intro x hx
    have e : x ≠ s := by omega
    rw [va_up_ne _ _ e, va_up_ne _ _ e, va_up_ne _ _ e]; exact h.2 x (by omega)
theorem any_wd {S : Nat → Bool} {t q : Nat} {b : Nat → Bool} (h : SetIs S t q b) : (wd b 0 = 0 ∧ wd b 1 = 0 ∧ wd b 2 = 0) ↔ ¬ ∃ n, S n = true := by
  have hz : ∀ i, i < 3 → wd (fun _ => false) i = 0 := fun i _ => wd_zero (fun _ _ => rfl)
  constructor
  · rintro ⟨h0, h1, h2⟩ ⟨n, hn⟩
    have hs : SameR b (fun _ => false) := same_wd.mp (fun i hi => by
      rcases (show i = 0 ∨ i = 1 ∨ i = 2 by omega) with rfl | rfl | rfl
      · rw [h0, hz 0 (by decide)]
      · rw [h1, hz 1 (by decide)]
      · rw [h2, hz 2 (by decide)])
    rw [h.den n] at hn
    have hl := fold_lt (t := t) (n := n) h.1.1
    have h3 := h.2.1
    have h4 := h.2.2.1
    have h5 := hs (fold t q n) (by omega)
    have h6 : b (fold t q n) = true := hn
    rw [h5] at h6; cases h6
  · intro h1
    have hb : ∀ n, n < 192 → b n = false := fun n hn => by
      by_cases hl : n < t + q
      · rw [h.2.2.2.1 n hl]
        cases hs : S n
        · rfl
        · exact absurd ⟨n, hs⟩ h1
      · exact h.2.2.2.2 n (by omega) hn
    exact ⟨wd_zero (fun i hi => hb _ (by omega)), wd_zero (fun i hi => hb _ (by omega)), wd_zero (fun i hi => hb _ (by omega))⟩
theorem wi_s {X : Nat → Bool} {q N : Nat} (h : ∀ n, q ≤ n → n < N → X n = false) (h2 : X (q - 1) = false) : ∀ n, q - 1 ≤ n → n < N → X n = false := fun n h3 h4 => by
  by_cases e : n = q - 1
  · rw [e]; exact h2
  · exact h n (by omega) h4
set_option maxHeartbeats 4000000 in
set_option maxRecDepth 100000 in
theorem m_has (l : Launch) (D : va_G) (cy : Nat → ClassId) (L : List Nat) (f0 : Nat → va_E) (sz : Nat) (A : Nat → Nat) (base : Nat) (SS : Nat → Nat → Bool) (kp : Nat → Bool) (kb : Nat → Nat) (KS : Nat → Nat → Nat → Bool) (hA : MAd A) (hN : MoW cy L f0 A base SS kp kb KS) (slot num : Int32) : Met l yX6_has (.code yX6_has cX6_has 3 (Option.some FieldType.int) :: wsL_law) { frames := 2, cells := 0, slots := 0, locals := 42 } (va_Pc [.ref (A 0), .int slot, .int num] (PW D cy L f0 sz)) (va_Qi (fun (r : Int32) (u : List Nat × (Nat → va_E)) => L = u.1 ∧ (∀ b ∈ L, (∀ i, i < 9 → b ≠ A i) → u.2 b = f0 b) ∧ MoW cy L u.2 A base SS kp kb KS ∧ rd_has SS slot num r) (PB D (AW L sz)) (AW L sz)) 0 0 (AW L sz) := by
  refine m_start (by decide) (Nat.le_of_ble_eq_true rfl) ?_
  intro p e R Q s m args below meth c ls hsz hR hQ E hr hlk hnm hw hl
  have hl : lv_has ls 3 [(0, .ref (A 0)), (1, .int slot), (2, .int num)] := hl
  obtain ⟨H, hH⟩ : ∃ X, X = s.heap := ⟨_, rfl⟩
  obtain ⟨locs, hlocs⟩ : ∃ X : List Loc, X = [] := ⟨_, rfl⟩
  have hw0 := hw
  obtain ⟨hB, fr, pb, ns, T, P, B, rr, G, Fa, kb1, ⟨h_o, h_ts, h_ps, h_bs, h_rw, h_gs, h_fa, h_ba, h_it⟩, hTP, hMS, hMK⟩ := hN
  have hb2 := hB.two
  obtain ⟨f, hf0⟩ : ∃ X, X = f0 := ⟨_, rfl⟩
  rw [← hf0] at h_o h_ts h_ps h_bs h_rw h_gs h_fa h_ba h_it
  have hw : WW D (AW L sz) s.heap L f H locs := by rw [hH, hlocs, hf0]; exact hw
  have hF : ∀ b ∈ L, f b = f0 b := fun b hb => by rw [hf0]
  suffices hgo : W p l e R s m args below meth c H locs 0 0 Q (F0 m 0 ls []) by rw [hH, hlocs] at hgo; exact hgo
  clear hH hlocs hw0 hf0
  have hLs : ∀ b ∈ L, b ∈ L := fun _ h => h
  refine lv_iload_n E.1.1 E.1.2.1 dX6_has_0 rfl (lv_at hl 1 rfl) ?_
  refine k_ri (va_runS (As := [.int slot]) (rest := []) E.1 (m_isSlot l D cy L f H.size slot) ⟨callB_of 1 E.1.2.2.2.2 (gd_own w3_40) rfl rfl rfl (E.1.2.2.2.2 _ w1_10) (E.1.2.2.2.2 _ w3_38) hd_X6_isSlot (by rw [hR]; exact ⟨Nat.le_of_ble_eq_true rfl, Nat.le_of_ble_eq_true rfl⟩), E.1.2.2.2.2 _ w3_39⟩ (pw_pre E.2 hw) rfl rfl hl.1 rfl (lv_room (Nat.le_of_ble_eq_true rfl)) dX6_has_1 ⟨Nat.zero_le _, Nat.zero_le _⟩) ?_
  refine k_if1 (tgt := 9) E dX6_has_4 (by decide) (fun c4 => ?_) (fun c4 => ?_)
  · obtain ⟨j, hj, rfl⟩ := in_ex (by decide) c4
    refine lv_iload_n E.1.1 E.1.2.1 dX6_has_9 rfl (lv_at hl 2 rfl) ?_
    refine lv_iconst (v := nI 0) E.1.1 E.1.2.1 dX6_has_10 rfl ?_
    refine lv_ldc (v := nI 1000000000) E.1.1 E.1.2.1 E.1.2.2.2.1 (E.1.2.2.2.2 _ w3_143) dX6_has_11 ?_
    refine k_ri (va_runS (As := [.int num, .int (nI 0), .int (nI 1000000000)]) (rest := []) E.1 (m_in l D cy L f H.size num (nI 0) (nI 1000000000)) ⟨callB_of 3 E.1.2.2.2.2 (gd_own w3_43) rfl rfl rfl (E.1.2.2.2.2 _ w1_10) (E.1.2.2.2.2 _ w3_41) hd_X6_in (by rw [hR]; exact ⟨Nat.le_of_ble_eq_true rfl, Nat.le_of_ble_eq_true rfl⟩), E.1.2.2.2.2 _ w3_42⟩ (pw_pre E.2 hw) rfl rfl hl.1 rfl (lv_room (Nat.le_of_ble_eq_true rfl)) dX6_has_13 ⟨Nat.zero_le _, Nat.zero_le _⟩) ?_
    refine k_if1 (tgt := 24) E dX6_has_16 (by decide) (fun c16 => ?_) (fun c16 => ?_)
    · obtain ⟨x, hx, rfl⟩ := in_ex (by decide) c16
      have hS1 := (hMS j (by omega)).1
      have hS1a := hS1.1.1
      have hS1b := hS1.2.1
      have hS1c := hS1.2.2.1
      refine lv_aload_n E.1.1 E.1.2.1 dX6_has_24 rfl (lv_at hl 0 rfl) ?_
      refine lv_iload_n E.1.1 E.1.2.1 dX6_has_25 rfl (lv_at hl 1 rfl) ?_
      refine lv_iload_n E.1.1 E.1.2.1 dX6_has_26 rfl (lv_at hl 2 rfl) ?_
      refine k_ri (va_runV (As := [.int (nI j), .int (nI x)]) (rest := []) E.1 (m_isInS l D cy L f H.size A base fr pb ns T P B rr G hA hTP j (x) (SS j) hS1 (by omega) (by omega) h_o h_ts h_ps h_bs) ⟨callB_of 2 E.1.2.2.2.2 (gd_own w3_79) rfl rfl rfl (E.1.2.2.2.2 _ w1_10) (E.1.2.2.2.2 _ w3_76) hd_X6_isIn (by rw [hR]; exact ⟨Nat.le_of_ble_eq_true rfl, Nat.le_of_ble_eq_true rfl⟩), E.1.2.2.2.2 _ w3_78, E.1.2.2.2.2 _ ws_33⟩ (pw_preV (q := (RX6, TX6, 12)) E.2 hw h_o rfl) rfl rfl hl.1 rfl (lv_room (Nat.le_of_ble_eq_true rfl)) dX6_has_27 ⟨Nat.zero_le _, Nat.zero_le _⟩) ?_
      refine k_if0 (tgt := 37) E dX6_has_30 (by decide) (fun c30 => ?_) (fun c30 => ?_)
      · refine lv_iconst (v := nI 0) E.1.1 E.1.2.1 dX6_has_37 rfl ?_
        exact k_miret E hQ hlk hr hw (Nat.le_of_ble_eq_true rfl) (Nat.le_of_ble_eq_true rfl) (⟨rfl, fun b hb _ => hF b hb, ⟨hB, _, _, _, _, _, _, _, _, _, _, ⟨h_o, h_ts, h_ps, h_bs, h_rw, h_gs, h_fa, h_ba, h_it⟩, hTP, hMS, hMK⟩, by unfold rd_has; rw [if_neg (inS_t hj), if_neg (by rw [in_t (by decide) hx]; decide), ix_nI (by omega), ix_nI (by omega)]; exact by rw [c30]; rfl⟩) dX6_has_38
      · refine lv_iconst (v := nI 1) E.1.1 E.1.2.1 dX6_has_33 rfl ?_
        refine lv_goto (tgt := 38) E.1.1 E.1.2.1 dX6_has_34 (by decide) ?_
        exact k_miret E hQ hlk hr hw (Nat.le_of_ble_eq_true rfl) (Nat.le_of_ble_eq_true rfl) (⟨rfl, fun b hb _ => hF b hb, ⟨hB, _, _, _, _, _, _, _, _, _, _, ⟨h_o, h_ts, h_ps, h_bs, h_rw, h_gs, h_fa, h_ba, h_it⟩, hTP, hMS, hMK⟩, by unfold rd_has; rw [if_neg (inS_t hj), if_neg (by rw [in_t (by decide) hx]; decide), ix_nI (by omega), ix_nI (by omega)]; exact by rw [c30]; rfl⟩) dX6_has_38
    · refine lv_bipush (v := -2) E.1.1 E.1.2.1 dX6_has_19 rfl ?_
      refine lv_goto (tgt := 38) E.1.1 E.1.2.1 dX6_has_21 (by decide) ?_
      exact k_miret E hQ hlk hr hw (Nat.le_of_ble_eq_true rfl) (Nat.le_of_ble_eq_true rfl) (⟨rfl, fun b hb _ => hF b hb, ⟨hB, _, _, _, _, _, _, _, _, _, _, ⟨h_o, h_ts, h_ps, h_bs, h_rw, h_gs, h_fa, h_ba, h_it⟩, hTP, hMS, hMK⟩, by unfold rd_has; rw [if_neg (inS_t hj), if_pos (show i32in _ 0 _ = false from c16)]⟩) dX6_has_38
  · refine lv_iconst (v := -1) E.1.1 E.1.2.1 dX6_has_7 rfl ?_
    exact k_miret E hQ hlk hr hw (Nat.le_of_ble_eq_true rfl) (Nat.le_of_ble_eq_true rfl) (⟨rfl, fun b hb _ => hF b hb, ⟨hB, _, _, _, _, _, _, _, _, _, _, ⟨h_o, h_ts, h_ps, h_bs, h_rw, h_gs, h_fa, h_ba, h_it⟩, hTP, hMS, hMK⟩, by unfold rd_has; rw [if_pos (show inS _ = false from c4)]⟩) dX6_has_8

set_option maxHeartbeats 4000000 in
set_option maxRecDepth 100000 in
theorem m_next (l : Launch) (D : va_G) (cy : Nat → ClassId) (L : List Nat) (f0 : Nat → va_E) (sz : Nat) (A : Nat → Nat) (base : Nat) (SS : Nat → Nat → Bool) (kp : Nat → Bool) (kb : Nat → Nat) (KS : Nat → Nat → Nat → Bool) (hA : MAd A) (hN : MoW cy L f0 A base SS kp kb KS) (slot num : Int32) : Met l yX6_next (.code yX6_next cX6_next 4 (Option.some FieldType.int) :: wsL_law) { frames := 2, cells := 0, slots := 0, locals := 42 } (va_Pc [.ref (A 0), .int slot, .int num] (PW D cy L f0 sz)) (va_Qi (fun (r : Int32) (u : List Nat × (Nat → va_E)) => L = u.1 ∧ (∀ b ∈ L, (∀ i, i < 9 → b ≠ A i) → u.2 b = f0 b) ∧ MoW cy L u.2 A base SS kp kb KS ∧ rd_next SS slot num r) (PB D (AW L sz)) (AW L sz)) 0 0 (AW L sz) := by
  refine m_start (by decide) (Nat.le_of_ble_eq_true rfl) ?_
  intro p e R Q s m args below meth c ls hsz hR hQ E hr hlk hnm hw hl
  have hl : lv_has ls 4 [(0, .ref (A 0)), (1, .int slot), (2, .int num)] := hl
  obtain ⟨H, hH⟩ : ∃ X, X = s.heap := ⟨_, rfl⟩
  obtain ⟨locs, hlocs⟩ : ∃ X : List Loc, X = [] := ⟨_, rfl⟩
  have hw0 := hw
  obtain ⟨hB, fr, pb, ns, T, P, B, rr, G, Fa, kb1, ⟨h_o, h_ts, h_ps, h_bs, h_rw, h_gs, h_fa, h_ba, h_it⟩, hTP, hMS, hMK⟩ := hN
  have hb2 := hB.two
  obtain ⟨f, hf0⟩ : ∃ X, X = f0 := ⟨_, rfl⟩
  rw [← hf0] at h_o h_ts h_ps h_bs h_rw h_gs h_fa h_ba h_it
  have hw : WW D (AW L sz) s.heap L f H locs := by rw [hH, hlocs, hf0]; exact hw
  have hF : ∀ b ∈ L, f b = f0 b := fun b hb => by rw [hf0]
  suffices hgo : W p l e R s m args below meth c H locs 0 0 Q (F0 m 0 ls []) by rw [hH, hlocs] at hgo; exact hgo
  clear hH hlocs hw0 hf0
  have hLs : ∀ b ∈ L, b ∈ L := fun _ h => h
  refine lv_iload_n E.1.1 E.1.2.1 dX6_next_0 rfl (lv_at hl 1 rfl) ?_
  refine k_ri (va_runS (As := [.int slot]) (rest := []) E.1 (m_isSlot l D cy L f H.size slot) ⟨callB_of 1 E.1.2.2.2.2 (gd_own w3_40) rfl rfl rfl (E.1.2.2.2.2 _ w1_10) (E.1.2.2.2.2 _ w3_38) hd_X6_isSlot (by rw [hR]; exact ⟨Nat.le_of_ble_eq_true rfl, Nat.le_of_ble_eq_true rfl⟩), E.1.2.2.2.2 _ w3_39⟩ (pw_pre E.2 hw) rfl rfl hl.1 rfl (lv_room (Nat.le_of_ble_eq_true rfl)) dX6_next_1 ⟨Nat.zero_le _, Nat.zero_le _⟩) ?_
  refine k_if1 (tgt := 9) E dX6_next_4 (by decide) (fun c4 => ?_) (fun c4 => ?_)
  · obtain ⟨j, hj, rfl⟩ := in_ex (by decide) c4
    refine lv_iload_n E.1.1 E.1.2.1 dX6_next_9 rfl (lv_at hl 2 rfl) ?_
    refine lv_iconst (v := nI 0) E.1.1 E.1.2.1 dX6_next_10 rfl ?_
    refine lv_ldc (v := nI 1000000000) E.1.1 E.1.2.1 E.1.2.2.2.1 (E.1.2.2.2.2 _ w3_143) dX6_next_11 ?_
    refine k_ri (va_runS (As := [.int num, .int (nI 0), .int (nI 1000000000)]) (rest := []) E.1 (m_in l D cy L f H.size num (nI 0) (nI 1000000000)) ⟨callB_of 3 E.1.2.2.2.2 (gd_own w3_43) rfl rfl rfl (E.1.2.2.2.2 _ w1_10) (E.1.2.2.2.2 _ w3_41) hd_X6_in (by rw [hR]; exact ⟨Nat.le_of_ble_eq_true rfl, Nat.le_of_ble_eq_true rfl⟩), E.1.2.2.2.2 _ w3_42⟩ (pw_pre E.2 hw) rfl rfl hl.1 rfl (lv_room (Nat.le_of_ble_eq_true rfl)) dX6_next_13 ⟨Nat.zero_le _, Nat.zero_le _⟩) ?_
    refine k_if1 (tgt := 22) E dX6_next_16 (by decide) (fun c16 => ?_) (fun c16 => ?_)
    · obtain ⟨x, hx, rfl⟩ := in_ex (by decide) c16
      have hS1 := (hMS j (by omega)).1
      have hS1a := hS1.1.1
      have hS1b := hS1.2.1
      have hS1c := hS1.2.2.1
      refine lv_iconst (v := nI 0) E.1.1 E.1.2.1 dX6_next_22 rfl ?_
      refine lv_istore_n (lv' := [(3, .int (nI 0)), (0, .ref (A 0)), (1, .int (nI j)), (2, .int (nI x))]) E.1.1 E.1.2.1 dX6_next_23 rfl hl (by decide) rfl (fun ls hl => ?_)
      have lp24 : ∀ (k : Nat) (i : Nat) (f : Nat → va_E) (H : Heap) (locs : List Loc) (ls : Array Slot), (T j + P j - i < k) → (i ≤ T j + P j) → (∀ q, q < i → SS j (x + q) = false) → (cel L f (A 0) (.inr (6, [.int (nI base), .ref (A 1), .ref (A 2), .ref (A 3), .ref (A 4), .int (nI fr), .int (nI pb), .ref (A 5), .int (nI ns), .ref (A 6), .ref (A 7), .ref (A 8)]))) → (cel L f (A 1) (.inl (cy 0, 84, .inl (fun k => nI (T k))))) → (cel L f (A 2) (.inl (cy 0, 84, .inl (fun k => nI (P k))))) → (cel L f (A 3) (.inl (cy 1, 252, .inr (.inl (rw3 B))))) → (cel L f (A 4) (.inl (cy 2, 4096, .inl (fun k => b2i (rr k))))) → (cel L f (A 5) (.inl (cy 0, 325, .inl G))) → (cel L f (A 6) (.inl (cy 0, 65, .inl Fa))) → (cel L f (A 7) (.inl (cy 0, 2, .inl (fun k => nI (kb1 k))))) → (cel L f (A 8) (.inl (cy 2, 2, .inl (fun k => b2i (kp k))))) → (∀ b ∈ L, f b = f0 b) → (WW D (AW L sz) s.heap L f H locs) → (lv_has ls 4 [(3, .int (nI i)), (0, .ref (A 0)), (1, .int (nI j)), (2, .int (nI x))]) → W p l e R s m args below meth c H locs 0 0 Q (F0 m 24 ls []) := by
        intro k
        induction k with
        | zero => intro _ _ _ _ _ hk; exact absurd hk (Nat.not_lt_zero _)
        | succ k ih24 =>
          intro i f H locs ls hk hi hg h_o h_ts h_ps h_bs h_rw h_gs h_fa h_ba h_it hF hw hl
          refine lv_iload_n E.1.1 E.1.2.1 dX6_next_24 rfl (lv_at hl 0 rfl) ?_
          refine lv_aload_n E.1.1 E.1.2.1 dX6_next_25 rfl (lv_at hl 1 rfl) ?_
          refine k_get (v := .ref (A 1)) E inlX6 rfl 1 (by decide) w2_233 rfl hw h_o rfl dX6_next_26 ?_
          refine lv_iload_n E.1.1 E.1.2.1 dX6_next_29 rfl (lv_at hl 2 rfl) ?_
          refine k_iald E hw (v := nI (T j)) h_ts (by omega) (by omega) (rfl) dX6_next_30 ?_
          refine lv_aload_n E.1.1 E.1.2.1 dX6_next_31 rfl (lv_at hl 1 rfl) ?_
          refine k_get (v := .ref (A 2)) E inlX6 rfl 2 (by decide) w2_234 rfl hw h_o rfl dX6_next_32 ?_
          refine lv_iload_n E.1.1 E.1.2.1 dX6_next_35 rfl (lv_at hl 2 rfl) ?_
          refine k_iald E hw (v := nI (P j)) h_ps (by omega) (by omega) (rfl) dX6_next_36 ?_
          refine k_add E dX6_next_37 ?_
          refine k_ge (tgt := 62) E dX6_next_38 (by decide) (by omega) (by omega) (fun c38 => ?_) (fun c38 => ?_)
          · refine lv_bipush (v := -6) E.1.1 E.1.2.1 dX6_next_62 rfl ?_
            exact k_miret E hQ hlk hr hw (Nat.le_of_ble_eq_true rfl) (Nat.le_of_ble_eq_true rfl) (⟨rfl, fun b hb _ => hF b hb, ⟨hB, _, _, _, _, _, _, _, _, _, _, ⟨h_o, h_ts, h_ps, h_bs, h_rw, h_gs, h_fa, h_ba, h_it⟩, hTP, hMS, hMK⟩, by unfold rd_next; rw [if_neg (inS_t hj), if_neg (by rw [in_t (by decide) hx]; decide), ix_nI (by omega), ix_nI (by omega)]; exact ⟨T j, P j, hS1.1, by rw [lfrom_no (fun q hq => hg q (by omega))]⟩⟩) dX6_next_64
          · refine lv_aload_n E.1.1 E.1.2.1 dX6_next_41 rfl (lv_at hl 1 rfl) ?_
            refine lv_iload_n E.1.1 E.1.2.1 dX6_next_42 rfl (lv_at hl 2 rfl) ?_
            refine lv_iload_n E.1.1 E.1.2.1 dX6_next_43 rfl (lv_at hl 3 rfl) ?_
            refine lv_iload_n E.1.1 E.1.2.1 dX6_next_44 rfl (lv_at hl 0 rfl) ?_
            refine k_add E dX6_next_45 ?_
            refine k_ri (va_runV (As := [.int (nI j), .int (nI (x + i))]) (rest := []) E.1 (m_isInS l D cy L f H.size A base fr pb ns T P B rr G hA hTP j (x + i) (SS j) hS1 (by omega) (by omega) h_o h_ts h_ps h_bs) ⟨callB_of 2 E.1.2.2.2.2 (gd_own w3_79) rfl rfl rfl (E.1.2.2.2.2 _ w1_10) (E.1.2.2.2.2 _ w3_76) hd_X6_isIn (by rw [hR]; exact ⟨Nat.le_of_ble_eq_true rfl, Nat.le_of_ble_eq_true rfl⟩), E.1.2.2.2.2 _ w3_78, E.1.2.2.2.2 _ ws_33⟩ (pw_preV (q := (RX6, TX6, 12)) E.2 hw h_o rfl) rfl rfl hl.1 rfl (lv_room (Nat.le_of_ble_eq_true rfl)) dX6_next_46 ⟨Nat.zero_le _, Nat.zero_le _⟩) ?_
            refine k_if0 (tgt := 56) E dX6_next_49 (by decide) (fun c49 => ?_) (fun c49 => ?_)
            · refine lv_iinc (v := nI (i + 1)) (lv' := [(3, .int (nI (i + 1))), (0, .ref (A 0)), (1, .int (nI j)), (2, .int (nI x))]) E.1.1 E.1.2.1 dX6_next_56 hl (k := 0) rfl (nI_1 _) (by decide) rfl (fun ls hl => ?_)
              refine lv_goto (tgt := 24) E.1.1 E.1.2.1 dX6_next_59 (by decide) ?_
              exact ih24  (i + 1) f H locs ls (by omega) (by omega) (lt_s hg c49) h_o h_ts h_ps h_bs h_rw h_gs h_fa h_ba h_it hF hw (lv_sub hl [0, 1, 2, 3] rfl)
            · refine lv_iload_n E.1.1 E.1.2.1 dX6_next_52 rfl (lv_at hl 3 rfl) ?_
              refine lv_iload_n E.1.1 E.1.2.1 dX6_next_53 rfl (lv_at hl 0 rfl) ?_
              refine k_add E dX6_next_54 ?_
              exact k_miret E hQ hlk hr hw (Nat.le_of_ble_eq_true rfl) (Nat.le_of_ble_eq_true rfl) (⟨rfl, fun b hb _ => hF b hb, ⟨hB, _, _, _, _, _, _, _, _, _, _, ⟨h_o, h_ts, h_ps, h_bs, h_rw, h_gs, h_fa, h_ba, h_it⟩, hTP, hMS, hMK⟩, by unfold rd_next; rw [if_neg (inS_t hj), if_neg (by rw [in_t (by decide) hx]; decide), ix_nI (by omega), ix_nI (by omega)]; exact ⟨T j, P j, hS1.1, by rw [lfrom_at hg (by omega) c49]⟩⟩) dX6_next_55
      exact lp24 (T j + P j - 0 + 1) 0 f H locs ls (Nat.lt_succ_self _) (by omega) (fun q hq => absurd hq (by omega)) h_o h_ts h_ps h_bs h_rw h_gs h_fa h_ba h_it hF hw (lv_sub hl [0, 1, 2, 3] rfl)
    · refine lv_bipush (v := -2) E.1.1 E.1.2.1 dX6_next_19 rfl ?_
      exact k_miret E hQ hlk hr hw (Nat.le_of_ble_eq_true rfl) (Nat.le_of_ble_eq_true rfl) (⟨rfl, fun b hb _ => hF b hb, ⟨hB, _, _, _, _, _, _, _, _, _, _, ⟨h_o, h_ts, h_ps, h_bs, h_rw, h_gs, h_fa, h_ba, h_it⟩, hTP, hMS, hMK⟩, by unfold rd_next; rw [if_neg (inS_t hj), if_pos (show i32in _ 0 _ = false from c16)]⟩) dX6_next_21
  · refine lv_iconst (v := -1) E.1.1 E.1.2.1 dX6_next_7 rfl ?_
    exact k_miret E hQ hlk hr hw (Nat.le_of_ble_eq_true rfl) (Nat.le_of_ble_eq_true rfl) (⟨rfl, fun b hb _ => hF b hb, ⟨hB, _, _, _, _, _, _, _, _, _, _, ⟨h_o, h_ts, h_ps, h_bs, h_rw, h_gs, h_fa, h_ba, h_it⟩, hTP, hMS, hMK⟩, by unfold rd_next; rw [if_pos (show inS _ = false from c4)]⟩) dX6_next_8

set_option maxHeartbeats 4000000 in
set_option maxRecDepth 100000 in
theorem m_below (l : Launch) (D : va_G) (cy : Nat → ClassId) (L : List Nat) (f0 : Nat → va_E) (sz : Nat) (A : Nat → Nat) (base : Nat) (SS : Nat → Nat → Bool) (kp : Nat → Bool) (kb : Nat → Nat) (KS : Nat → Nat → Nat → Bool) (hA : MAd A) (hN : MoW cy L f0 A base SS kp kb KS) (slot num : Int32) : Met l yX6_below (.code yX6_below cX6_below 6 (Option.some FieldType.int) :: wsL_law) { frames := 2, cells := 0, slots := 0, locals := 50 } (va_Pc [.ref (A 0), .int slot, .int num] (PW D cy L f0 sz)) (va_Qi (fun (r : Int32) (u : List Nat × (Nat → va_E)) => L = u.1 ∧ (∀ b ∈ L, (∀ i, i < 9 → b ≠ A i) → u.2 b = f0 b) ∧ MoW cy L u.2 A base SS kp kb KS ∧ rd_below SS slot num r) (PB D (AW L sz)) (AW L sz)) 0 0 (AW L sz) := by
  refine m_start (by decide) (Nat.le_of_ble_eq_true rfl) ?_
  intro p e R Q s m args below meth c ls hsz hR hQ E hr hlk hnm hw hl
  have hl : lv_has ls 6 [(0, .ref (A 0)), (1, .int slot), (2, .int num)] := hl
  obtain ⟨H, hH⟩ : ∃ X, X = s.heap := ⟨_, rfl⟩
  obtain ⟨locs, hlocs⟩ : ∃ X : List Loc, X = [] := ⟨_, rfl⟩
  have hw0 := hw
  obtain ⟨hB, fr, pb, ns, T, P, B, rr, G, Fa, kb1, ⟨h_o, h_ts, h_ps, h_bs, h_rw, h_gs, h_fa, h_ba, h_it⟩, hTP, hMS, hMK⟩ := hN
  have hb2 := hB.two
  obtain ⟨f, hf0⟩ : ∃ X, X = f0 := ⟨_, rfl⟩
  rw [← hf0] at h_o h_ts h_ps h_bs h_rw h_gs h_fa h_ba h_it
  have hw : WW D (AW L sz) s.heap L f H locs := by rw [hH, hlocs, hf0]; exact hw
  have hF : ∀ b ∈ L, f b = f0 b := fun b hb => by rw [hf0]
  suffices hgo : W p l e R s m args below meth c H locs 0 0 Q (F0 m 0 ls []) by rw [hH, hlocs] at hgo; exact hgo
  clear hH hlocs hw0 hf0
  have hLs : ∀ b ∈ L, b ∈ L := fun _ h => h
  refine lv_iload_n E.1.1 E.1.2.1 dX6_below_0 rfl (lv_at hl 1 rfl) ?_
  refine k_ri (va_runS (As := [.int slot]) (rest := []) E.1 (m_isSlot l D cy L f H.size slot) ⟨callB_of 1 E.1.2.2.2.2 (gd_own w3_40) rfl rfl rfl (E.1.2.2.2.2 _ w1_10) (E.1.2.2.2.2 _ w3_38) hd_X6_isSlot (by rw [hR]; exact ⟨Nat.le_of_ble_eq_true rfl, Nat.le_of_ble_eq_true rfl⟩), E.1.2.2.2.2 _ w3_39⟩ (pw_pre E.2 hw) rfl rfl hl.1 rfl (lv_room (Nat.le_of_ble_eq_true rfl)) dX6_below_1 ⟨Nat.zero_le _, Nat.zero_le _⟩) ?_
  refine k_if1 (tgt := 9) E dX6_below_4 (by decide) (fun c4 => ?_) (fun c4 => ?_)
  · obtain ⟨j, hj, rfl⟩ := in_ex (by decide) c4
    refine lv_iload_n E.1.1 E.1.2.1 dX6_below_9 rfl (lv_at hl 2 rfl) ?_
    refine lv_iconst (v := nI 0) E.1.1 E.1.2.1 dX6_below_10 rfl ?_
    refine lv_ldc (v := nI 1000000000) E.1.1 E.1.2.1 E.1.2.2.2.1 (E.1.2.2.2.2 _ w3_143) dX6_below_11 ?_
    refine k_ri (va_runS (As := [.int num, .int (nI 0), .int (nI 1000000000)]) (rest := []) E.1 (m_in l D cy L f H.size num (nI 0) (nI 1000000000)) ⟨callB_of 3 E.1.2.2.2.2 (gd_own w3_43) rfl rfl rfl (E.1.2.2.2.2 _ w1_10) (E.1.2.2.2.2 _ w3_41) hd_X6_in (by rw [hR]; exact ⟨Nat.le_of_ble_eq_true rfl, Nat.le_of_ble_eq_true rfl⟩), E.1.2.2.2.2 _ w3_42⟩ (pw_pre E.2 hw) rfl rfl hl.1 rfl (lv_room (Nat.le_of_ble_eq_true rfl)) dX6_below_13 ⟨Nat.zero_le _, Nat.zero_le _⟩) ?_
    refine k_if1 (tgt := 22) E dX6_below_16 (by decide) (fun c16 => ?_) (fun c16 => ?_)
    · obtain ⟨x, hx, rfl⟩ := in_ex (by decide) c16
      have hS1 := (hMS j (by omega)).1
      have hS1a := hS1.1.1
      have hS1b := hS1.2.1
      have hS1c := hS1.2.2.1
      refine lv_aload_n E.1.1 E.1.2.1 dX6_below_22 rfl (lv_at hl 0 rfl) ?_
      refine k_get (v := .ref (A 1)) E inlX6 rfl 1 (by decide) w2_233 rfl hw h_o rfl dX6_below_23 ?_
      refine lv_iload_n E.1.1 E.1.2.1 dX6_below_26 rfl (lv_at hl 1 rfl) ?_
      refine k_iald E hw (v := nI (T j)) h_ts (by omega) (by omega) (rfl) dX6_below_27 ?_
      refine lv_istore_n (lv' := [(3, .int (nI (T j))), (0, .ref (A 0)), (1, .int (nI j)), (2, .int (nI x))]) E.1.1 E.1.2.1 dX6_below_28 rfl hl (by decide) rfl (fun ls hl => ?_)
      refine lv_aload_n E.1.1 E.1.2.1 dX6_below_29 rfl (lv_at hl 1 rfl) ?_
      refine k_get (v := .ref (A 2)) E inlX6 rfl 2 (by decide) w2_234 rfl hw h_o rfl dX6_below_30 ?_
      refine lv_iload_n E.1.1 E.1.2.1 dX6_below_33 rfl (lv_at hl 2 rfl) ?_
      refine k_iald E hw (v := nI (P j)) h_ps (by omega) (by omega) (rfl) dX6_below_34 ?_
      refine lv_istore (lv' := [(4, .int (nI (P j))), (3, .int (nI (T j))), (0, .ref (A 0)), (1, .int (nI j)), (2, .int (nI x))]) E.1.1 E.1.2.1 dX6_below_35 hl (by decide) rfl (fun ls hl => ?_)
      refine lv_iload_n E.1.1 E.1.2.1 dX6_below_37 rfl (lv_at hl 4 rfl) ?_
      refine lv_iload_n E.1.1 E.1.2.1 dX6_below_38 rfl (lv_at hl 1 rfl) ?_
      refine k_gt (tgt := 50) E dX6_below_39 (by decide) (by omega) (by omega) (fun c39 => ?_) (fun c39 => ?_)
      · have hmo := Nat.mod_lt (x - T j) hS1a
        refine lv_iload_n E.1.1 E.1.2.1 dX6_below_50 rfl (lv_at hl 4 rfl) ?_
        refine lv_iload_n E.1.1 E.1.2.1 dX6_below_51 rfl (lv_at hl 1 rfl) ?_
        refine k_sub E dX6_below_52 (by omega) ?_
        refine lv_iload E.1.1 E.1.2.1 dX6_below_53 (lv_at hl 0 rfl) ?_
        refine k_div E dX6_below_55 (by omega) (by omega) (by omega) ?_
        refine lv_istore (lv' := [(5, .int (nI ((x - (T j)) / (P j)))), (4, .int (nI (P j))), (3, .int (nI (T j))), (0, .ref (A 0)), (1, .int (nI j)), (2, .int (nI x))]) E.1.1 E.1.2.1 dX6_below_56 hl (by decide) rfl (fun ls hl => ?_)
        refine lv_aload_n E.1.1 E.1.2.1 dX6_below_58 rfl (lv_at hl 3 rfl) ?_
        refine lv_iload_n E.1.1 E.1.2.1 dX6_below_59 rfl (lv_at hl 4 rfl) ?_
        refine lv_iconst (v := nI 0) E.1.1 E.1.2.1 dX6_below_60 rfl ?_
        refine lv_iload_n E.1.1 E.1.2.1 dX6_below_61 rfl (lv_at hl 2 rfl) ?_
        refine k_ri (va_runV (As := [.int (nI j), .int (nI 0), .int (nI (T j))]) (rest := []) E.1 (m_countUpTo l D cy L f H.size A base fr pb ns T P B rr G hA hTP j (0) (T j) (SS j) (hMS j (by omega)).1 (by omega) (by omega) (by omega) h_o h_ts h_ps h_bs) ⟨callB_of 3 E.1.2.2.2.2 (gd_own w3_126) rfl rfl rfl (E.1.2.2.2.2 _ w1_10) (E.1.2.2.2.2 _ w3_123) hd_X6_countUpTo (by rw [hR]; exact ⟨Nat.le_of_ble_eq_true rfl, Nat.le_of_ble_eq_true rfl⟩), E.1.2.2.2.2 _ w3_125, E.1.2.2.2.2 _ ws_38⟩ (pw_preV (q := (RX6, TX6, 12)) E.2 hw h_o rfl) rfl rfl hl.1 rfl (lv_room (Nat.le_of_ble_eq_true rfl)) dX6_below_62 ⟨Nat.zero_le _, Nat.zero_le _⟩) ?_
        refine lv_iload E.1.1 E.1.2.1 dX6_below_65 (lv_at hl 0 rfl) ?_
        refine lv_aload_n E.1.1 E.1.2.1 dX6_below_67 rfl (lv_at hl 3 rfl) ?_
        refine lv_iload_n E.1.1 E.1.2.1 dX6_below_68 rfl (lv_at hl 4 rfl) ?_
        refine lv_iload_n E.1.1 E.1.2.1 dX6_below_69 rfl (lv_at hl 2 rfl) ?_
        refine lv_iload_n E.1.1 E.1.2.1 dX6_below_70 rfl (lv_at hl 2 rfl) ?_
        refine lv_iload E.1.1 E.1.2.1 dX6_below_71 (lv_at hl 1 rfl) ?_
        refine k_add E dX6_below_73 ?_
        refine k_ri (va_runV (As := [.int (nI j), .int (nI (T j)), .int (nI ((T j) + (P j)))]) (rest := [.int (nI ((x - (T j)) / (P j))), .int (nI (fa_cnt (SS j) (T j) - fa_cnt (SS j) (0)))]) E.1 (m_countUpTo l D cy L f H.size A base fr pb ns T P B rr G hA hTP j (T j) ((T j) + (P j)) (SS j) (hMS j (by omega)).1 (by omega) (by omega) (by omega) h_o h_ts h_ps h_bs) ⟨callB_of 3 E.1.2.2.2.2 (gd_own w3_126) rfl rfl rfl (E.1.2.2.2.2 _ w1_10) (E.1.2.2.2.2 _ w3_123) hd_X6_countUpTo (by rw [hR]; exact ⟨Nat.le_of_ble_eq_true rfl, Nat.le_of_ble_eq_true rfl⟩), E.1.2.2.2.2 _ w3_125, E.1.2.2.2.2 _ ws_38⟩ (pw_preV (q := (RX6, TX6, 12)) E.2 hw h_o rfl) rfl rfl hl.1 rfl (lv_room (Nat.le_of_ble_eq_true rfl)) dX6_below_74 ⟨Nat.zero_le _, Nat.zero_le _⟩) ?_
        refine k_mul E dX6_below_77 ?_
        refine k_add E dX6_below_78 ?_
        refine lv_aload_n E.1.1 E.1.2.1 dX6_below_79 rfl (lv_at hl 3 rfl) ?_
        refine lv_iload_n E.1.1 E.1.2.1 dX6_below_80 rfl (lv_at hl 4 rfl) ?_
        refine lv_iload_n E.1.1 E.1.2.1 dX6_below_81 rfl (lv_at hl 2 rfl) ?_
        refine lv_iload_n E.1.1 E.1.2.1 dX6_below_82 rfl (lv_at hl 2 rfl) ?_
        refine lv_iload_n E.1.1 E.1.2.1 dX6_below_83 rfl (lv_at hl 5 rfl) ?_
        refine lv_iload_n E.1.1 E.1.2.1 dX6_below_84 rfl (lv_at hl 2 rfl) ?_
        refine k_sub E dX6_below_85 (by omega) ?_
        refine lv_iload E.1.1 E.1.2.1 dX6_below_86 (lv_at hl 1 rfl) ?_
        refine k_rem E dX6_below_88 (by omega) (by omega) (by omega) ?_
        refine k_add E dX6_below_89 ?_
        refine k_ri (va_runV (As := [.int (nI j), .int (nI (T j)), .int (nI ((T j) + ((x - (T j)) % (P j))))]) (rest := [.int (nI ((fa_cnt (SS j) (T j) - fa_cnt (SS j) (0)) + (((x - (T j)) / (P j)) * (fa_cnt (SS j) ((T j) + (P j)) - fa_cnt (SS j) (T j)))))]) E.1 (m_countUpTo l D cy L f H.size A base fr pb ns T P B rr G hA hTP j (T j) ((T j) + ((x - (T j)) % (P j))) (SS j) (hMS j (by omega)).1 (by omega) (by omega) (by omega) h_o h_ts h_ps h_bs) ⟨callB_of 3 E.1.2.2.2.2 (gd_own w3_126) rfl rfl rfl (E.1.2.2.2.2 _ w1_10) (E.1.2.2.2.2 _ w3_123) hd_X6_countUpTo (by rw [hR]; exact ⟨Nat.le_of_ble_eq_true rfl, Nat.le_of_ble_eq_true rfl⟩), E.1.2.2.2.2 _ w3_125, E.1.2.2.2.2 _ ws_38⟩ (pw_preV (q := (RX6, TX6, 12)) E.2 hw h_o rfl) rfl rfl hl.1 rfl (lv_room (Nat.le_of_ble_eq_true rfl)) dX6_below_90 ⟨Nat.zero_le _, Nat.zero_le _⟩) ?_
        refine k_add E dX6_below_93 ?_
        exact k_miret E hQ hlk hr hw (Nat.le_of_ble_eq_true rfl) (Nat.le_of_ble_eq_true rfl) (⟨rfl, fun b hb _ => hF b hb, ⟨hB, _, _, _, _, _, _, _, _, _, _, ⟨h_o, h_ts, h_ps, h_bs, h_rw, h_gs, h_fa, h_ba, h_it⟩, hTP, hMS, hMK⟩, by unfold rd_below; rw [if_neg (inS_t hj), if_neg (by rw [in_t (by decide) hx]; decide), ix_nI (by omega), ix_nI (by omega)]; exact by rw [cnt_far hS1a hS1.1.2.1 (show T j ≤ x by omega), show fa_cnt (SS j) 0 = 0 from rfl]; congr 1; have h1 := cnt_mono (SS j) (show T j ≤ T j + (x - T j) % P j by omega); omega⟩) dX6_below_94
      · refine lv_aload_n E.1.1 E.1.2.1 dX6_below_42 rfl (lv_at hl 2 rfl) ?_
        refine lv_iload_n E.1.1 E.1.2.1 dX6_below_43 rfl (lv_at hl 3 rfl) ?_
        refine lv_iconst (v := nI 0) E.1.1 E.1.2.1 dX6_below_44 rfl ?_
        refine lv_iload_n E.1.1 E.1.2.1 dX6_below_45 rfl (lv_at hl 4 rfl) ?_
        refine k_ri (va_runV (As := [.int (nI j), .int (nI 0), .int (nI x)]) (rest := []) E.1 (m_countUpTo l D cy L f H.size A base fr pb ns T P B rr G hA hTP j (0) (x) (SS j) (hMS j (by omega)).1 (by omega) (by omega) (by omega) h_o h_ts h_ps h_bs) ⟨callB_of 3 E.1.2.2.2.2 (gd_own w3_126) rfl rfl rfl (E.1.2.2.2.2 _ w1_10) (E.1.2.2.2.2 _ w3_123) hd_X6_countUpTo (by rw [hR]; exact ⟨Nat.le_of_ble_eq_true rfl, Nat.le_of_ble_eq_true rfl⟩), E.1.2.2.2.2 _ w3_125, E.1.2.2.2.2 _ ws_38⟩ (pw_preV (q := (RX6, TX6, 12)) E.2 hw h_o rfl) rfl rfl hl.1 rfl (lv_room (Nat.le_of_ble_eq_true rfl)) dX6_below_46 ⟨Nat.zero_le _, Nat.zero_le _⟩) ?_
        exact k_miret E hQ hlk hr hw (Nat.le_of_ble_eq_true rfl) (Nat.le_of_ble_eq_true rfl) (⟨rfl, fun b hb _ => hF b hb, ⟨hB, _, _, _, _, _, _, _, _, _, _, ⟨h_o, h_ts, h_ps, h_bs, h_rw, h_gs, h_fa, h_ba, h_it⟩, hTP, hMS, hMK⟩, by unfold rd_below; rw [if_neg (inS_t hj), if_neg (by rw [in_t (by decide) hx]; decide), ix_nI (by omega), ix_nI (by omega)]; exact rfl⟩) dX6_below_49
    · refine lv_bipush (v := -2) E.1.1 E.1.2.1 dX6_below_19 rfl ?_
      exact k_miret E hQ hlk hr hw (Nat.le_of_ble_eq_true rfl) (Nat.le_of_ble_eq_true rfl) (⟨rfl, fun b hb _ => hF b hb, ⟨hB, _, _, _, _, _, _, _, _, _, _, ⟨h_o, h_ts, h_ps, h_bs, h_rw, h_gs, h_fa, h_ba, h_it⟩, hTP, hMS, hMK⟩, by unfold rd_below; rw [if_neg (inS_t hj), if_pos (show i32in _ 0 _ = false from c16)]⟩) dX6_below_21
  · refine lv_iconst (v := -1) E.1.1 E.1.2.1 dX6_below_7 rfl ?_
    exact k_miret E hQ hlk hr hw (Nat.le_of_ble_eq_true rfl) (Nat.le_of_ble_eq_true rfl) (⟨rfl, fun b hb _ => hF b hb, ⟨hB, _, _, _, _, _, _, _, _, _, _, ⟨h_o, h_ts, h_ps, h_bs, h_rw, h_gs, h_fa, h_ba, h_it⟩, hTP, hMS, hMK⟩, by unfold rd_below; rw [if_pos (show inS _ = false from c4)]⟩) dX6_below_8

set_option maxHeartbeats 4000000 in
set_option maxRecDepth 100000 in
theorem m_walk (l : Launch) (D : va_G) (cy : Nat → ClassId) (L : List Nat) (f0 : Nat → va_E) (sz : Nat) (A : Nat → Nat) (base : Nat) (SS : Nat → Nat → Bool) (kp : Nat → Bool) (kb : Nat → Nat) (KS : Nat → Nat → Nat → Bool) (hA : MAd A) (hN : MoW cy L f0 A base SS kp kb KS) (slot num x : Int32) : Met l yX6_walk (.code yX6_walk cX6_walk 7 (Option.some FieldType.int) :: wsL_law) { frames := 5, cells := 0, slots := 0, locals := 115 } (va_Pc [.ref (A 0), .int slot, .int num, .int x] (PW D cy L f0 sz)) (va_Qi (fun (r : Int32) (u : List Nat × (Nat → va_E)) => L = u.1 ∧ (∀ b ∈ L, (∀ i, i < 9 → b ≠ A i) → u.2 b = f0 b) ∧ MoW cy L u.2 A base SS kp kb KS ∧ rd_walk base SS slot num x r) (PB D (AW L sz)) (AW L sz)) 0 0 (AW L sz) := by
  refine m_start (by decide) (Nat.le_of_ble_eq_true rfl) ?_
  intro p e R Q s m args below meth c ls hsz hR hQ E hr hlk hnm hw hl
  have hl : lv_has ls 7 [(0, .ref (A 0)), (1, .int slot), (2, .int num), (3, .int x)] := hl
  obtain ⟨H, hH⟩ : ∃ X, X = s.heap := ⟨_, rfl⟩
  obtain ⟨locs, hlocs⟩ : ∃ X : List Loc, X = [] := ⟨_, rfl⟩
  have hw0 := hw
  obtain ⟨hB, fr, pb, ns, T, P, B, rr, G, Fa, kb1, ⟨h_o, h_ts, h_ps, h_bs, h_rw, h_gs, h_fa, h_ba, h_it⟩, hTP, hMS, hMK⟩ := hN
  have hb2 := hB.two
  obtain ⟨f, hf0⟩ : ∃ X, X = f0 := ⟨_, rfl⟩
  rw [← hf0] at h_o h_ts h_ps h_bs h_rw h_gs h_fa h_ba h_it
  have hw : WW D (AW L sz) s.heap L f H locs := by rw [hH, hlocs, hf0]; exact hw
  have hF : ∀ b ∈ L, b ≠ (A 0) → b ≠ (A 1) → b ≠ (A 2) → b ≠ (A 3) → b ≠ (A 4) → b ≠ (A 5) → f b = f0 b := fun b hb h0 h1 h2 h3 h4 h5 => by rw [hf0]
  suffices hgo : W p l e R s m args below meth c H locs 0 0 Q (F0 m 0 ls []) by rw [hH, hlocs] at hgo; exact hgo
  clear hH hlocs hw0 hf0
  have hLs : ∀ b ∈ L, b ∈ L := fun _ h => h
  have n_o_ts : A 0 ≠ A 1 := hA.ne (by decide) (by decide) (by decide)
  have n_o_ps : A 0 ≠ A 2 := hA.ne (by decide) (by decide) (by decide)
  have n_o_bs : A 0 ≠ A 3 := hA.ne (by decide) (by decide) (by decide)
  have n_o_rw : A 0 ≠ A 4 := hA.ne (by decide) (by decide) (by decide)
  have n_o_gs : A 0 ≠ A 5 := hA.ne (by decide) (by decide) (by decide)
  have n_o_fa : A 0 ≠ A 6 := hA.ne (by decide) (by decide) (by decide)
  have n_o_ba : A 0 ≠ A 7 := hA.ne (by decide) (by decide) (by decide)
  have n_o_it : A 0 ≠ A 8 := hA.ne (by decide) (by decide) (by decide)
  have n_ts_ps : A 1 ≠ A 2 := hA.ne (by decide) (by decide) (by decide)
  have n_ts_bs : A 1 ≠ A 3 := hA.ne (by decide) (by decide) (by decide)
  have n_ts_rw : A 1 ≠ A 4 := hA.ne (by decide) (by decide) (by decide)
  have n_ts_gs : A 1 ≠ A 5 := hA.ne (by decide) (by decide) (by decide)
  have n_ts_fa : A 1 ≠ A 6 := hA.ne (by decide) (by decide) (by decide)
  have n_ts_ba : A 1 ≠ A 7 := hA.ne (by decide) (by decide) (by decide)
  have n_ts_it : A 1 ≠ A 8 := hA.ne (by decide) (by decide) (by decide)
  have n_ps_bs : A 2 ≠ A 3 := hA.ne (by decide) (by decide) (by decide)
  have n_ps_rw : A 2 ≠ A 4 := hA.ne (by decide) (by decide) (by decide)
  have n_ps_gs : A 2 ≠ A 5 := hA.ne (by decide) (by decide) (by decide)
  have n_ps_fa : A 2 ≠ A 6 := hA.ne (by decide) (by decide) (by decide)
  have n_ps_ba : A 2 ≠ A 7 := hA.ne (by decide) (by decide) (by decide)
  have n_ps_it : A 2 ≠ A 8 := hA.ne (by decide) (by decide) (by decide)
  have n_bs_rw : A 3 ≠ A 4 := hA.ne (by decide) (by decide) (by decide)
  have n_bs_gs : A 3 ≠ A 5 := hA.ne (by decide) (by decide) (by decide)
  have n_bs_fa : A 3 ≠ A 6 := hA.ne (by decide) (by decide) (by decide)
  have n_bs_ba : A 3 ≠ A 7 := hA.ne (by decide) (by decide) (by decide)
  have n_bs_it : A 3 ≠ A 8 := hA.ne (by decide) (by decide) (by decide)
  have n_rw_gs : A 4 ≠ A 5 := hA.ne (by decide) (by decide) (by decide)
  have n_rw_fa : A 4 ≠ A 6 := hA.ne (by decide) (by decide) (by decide)
  have n_rw_ba : A 4 ≠ A 7 := hA.ne (by decide) (by decide) (by decide)
  have n_rw_it : A 4 ≠ A 8 := hA.ne (by decide) (by decide) (by decide)
  have n_gs_fa : A 5 ≠ A 6 := hA.ne (by decide) (by decide) (by decide)
  have n_gs_ba : A 5 ≠ A 7 := hA.ne (by decide) (by decide) (by decide)
  have n_gs_it : A 5 ≠ A 8 := hA.ne (by decide) (by decide) (by decide)
  refine lv_iload_n E.1.1 E.1.2.1 dX6_walk_0 rfl (lv_at hl 1 rfl) ?_
  refine k_ri (va_runS (As := [.int slot]) (rest := []) E.1 (m_isSlot l D cy L f H.size slot) ⟨callB_of 1 E.1.2.2.2.2 (gd_own w3_40) rfl rfl rfl (E.1.2.2.2.2 _ w1_10) (E.1.2.2.2.2 _ w3_38) hd_X6_isSlot (by rw [hR]; exact ⟨Nat.le_of_ble_eq_true rfl, Nat.le_of_ble_eq_true rfl⟩), E.1.2.2.2.2 _ w3_39⟩ (pw_pre E.2 hw) rfl rfl hl.1 rfl (lv_room (Nat.le_of_ble_eq_true rfl)) dX6_walk_1 ⟨Nat.zero_le _, Nat.zero_le _⟩) ?_
  refine k_if1 (tgt := 9) E dX6_walk_4 (by decide) (fun c4 => ?_) (fun c4 => ?_)
  · obtain ⟨j, hj, rfl⟩ := in_ex (by decide) c4
    refine lv_iload_n E.1.1 E.1.2.1 dX6_walk_9 rfl (lv_at hl 3 rfl) ?_
    refine lv_iconst (v := nI 0) E.1.1 E.1.2.1 dX6_walk_10 rfl ?_
    refine lv_bipush (v := nI 40) E.1.1 E.1.2.1 dX6_walk_11 rfl ?_
    refine k_ri (va_runS (As := [.int x, .int (nI 0), .int (nI 40)]) (rest := []) E.1 (m_in l D cy L f H.size x (nI 0) (nI 40)) ⟨callB_of 3 E.1.2.2.2.2 (gd_own w3_43) rfl rfl rfl (E.1.2.2.2.2 _ w1_10) (E.1.2.2.2.2 _ w3_41) hd_X6_in (by rw [hR]; exact ⟨Nat.le_of_ble_eq_true rfl, Nat.le_of_ble_eq_true rfl⟩), E.1.2.2.2.2 _ w3_42⟩ (pw_pre E.2 hw) rfl rfl hl.1 rfl (lv_room (Nat.le_of_ble_eq_true rfl)) dX6_walk_13 ⟨Nat.zero_le _, Nat.zero_le _⟩) ?_
    refine k_if0 (tgt := 23) E dX6_walk_16 (by decide) (fun c16 => ?_) (fun c16 => ?_)
    · refine lv_bipush (v := -2) E.1.1 E.1.2.1 dX6_walk_23 rfl ?_
      exact k_miret E hQ hlk hr hw (Nat.le_of_ble_eq_true rfl) (Nat.le_of_ble_eq_true rfl) (⟨rfl, fun b hb h => hF b hb (h 0 (by decide)) (h 1 (by decide)) (h 2 (by decide)) (h 3 (by decide)) (h 4 (by decide)) (h 5 (by decide)), ⟨hB, _, _, _, _, _, _, _, _, _, _, ⟨h_o, h_ts, h_ps, h_bs, h_rw, h_gs, h_fa, h_ba, h_it⟩, hTP, hMS, hMK⟩, by unfold rd_walk; rw [if_neg (inS_t hj), if_pos (Or.inl (show i32in x 0 (nI 40) = false from c16))]⟩) dX6_walk_25
    · obtain ⟨w, hwx, rfl⟩ := in_ex (n := 40) (by decide) c16
      refine lv_iload_n E.1.1 E.1.2.1 dX6_walk_19 rfl (lv_at hl 2 rfl) ?_
      refine lv_if_ge (tgt := 26) E.1.1 E.1.2.1 dX6_walk_20 (by decide) (fun c20 => ?_) (fun c20 => ?_)
      · obtain ⟨nu, hnu, rfl⟩ := nI_of (x := num) (fun q => fa_lt_nle q c20)
        have hS1 := (hMS j (by omega)).1
        have hS1a := hS1.1.1
        have hS1b := hS1.2.1
        have hS1c := hS1.2.2.1
        refine lv_aload_n E.1.1 E.1.2.1 dX6_walk_26 rfl (lv_at hl 0 rfl) ?_
        refine lv_iload_n E.1.1 E.1.2.1 dX6_walk_27 rfl (lv_at hl 1 rfl) ?_
        refine k_mv hw (va_runV (As := [.int (nI j)]) (rest := []) E.1 (m_layMachine l D cy L f H.size A base fr pb ns T P B rr G hA hTP j (SS j) (by omega) (by omega) (by omega) hS1 h_o h_ts h_ps h_bs h_rw h_gs) ⟨callB_of 1 E.1.2.2.2.2 (gd_own w3_71) rfl rfl rfl (E.1.2.2.2.2 _ w1_10) (E.1.2.2.2.2 _ w3_68) hd_X6_layMachine (by rw [hR]; exact ⟨Nat.le_of_ble_eq_true rfl, Nat.le_of_ble_eq_true rfl⟩), E.1.2.2.2.2 _ w3_70, E.1.2.2.2.2 _ ws_31⟩ (pw_preV (q := (RX6, TX6, 12)) E.2 hw h_o rfl) rfl rfl hl.1 rfl (lv_room (Nat.le_of_ble_eq_true rfl)) dX6_walk_28 (by rw [hR]; exact ⟨Nat.le_of_ble_eq_true rfl, Nat.le_of_ble_eq_true rfl⟩)) (fun L1 f H locs hp hw => ?_)
        obtain ⟨hL1, hfr, fr2, pb2, ns2, T2, P2, B2, rr2, G2, h_o, h_ts, h_ps, h_bs, h_rw, h_gs, hTP2, hAG2, hS18, hns0, hns65, hML⟩ := hp
        have hL1 : L = L1 := hL1
        subst hL1
        have h_o : cel L f (A 0) (.inr (6, [.int (nI base), .ref (A 1), .ref (A 2), .ref (A 3), .ref (A 4), .int (nI fr2), .int (nI pb2), .ref (A 5), .int (nI ns2), .ref (A 6), .ref (A 7), .ref (A 8)])) := h_o
        have h_ts : cel L f (A 1) (.inl (cy 0, 84, .inl (fun k => nI (T2 k)))) := h_ts
        have h_ps : cel L f (A 2) (.inl (cy 0, 84, .inl (fun k => nI (P2 k)))) := h_ps
        have h_bs : cel L f (A 3) (.inl (cy 1, 252, .inr (.inl (rw3 B2)))) := h_bs
        have h_rw : cel L f (A 4) (.inl (cy 2, 4096, .inl (fun k => b2i (rr2 k)))) := h_rw
        have h_gs : cel L f (A 5) (.inl (cy 0, 325, .inl G2)) := h_gs
        have h_fa := h_fa.keep (fun _ h => h) (hfr _ h_fa.1 (Ne.symm n_o_fa) (Ne.symm n_ts_fa) (Ne.symm n_ps_fa) (Ne.symm n_bs_fa) (Ne.symm n_rw_fa) (Ne.symm n_gs_fa))
        have h_ba := h_ba.keep (fun _ h => h) (hfr _ h_ba.1 (Ne.symm n_o_ba) (Ne.symm n_ts_ba) (Ne.symm n_ps_ba) (Ne.symm n_bs_ba) (Ne.symm n_rw_ba) (Ne.symm n_gs_ba))
        have h_it := h_it.keep (fun _ h => h) (hfr _ h_it.1 (Ne.symm n_o_it) (Ne.symm n_ts_it) (Ne.symm n_ps_it) (Ne.symm n_bs_it) (Ne.symm n_rw_it) (Ne.symm n_gs_it))
        have hF : ∀ b ∈ L, b ≠ (A 0) → b ≠ (A 1) → b ≠ (A 2) → b ≠ (A 3) → b ≠ (A 4) → b ≠ (A 5) → f b = f0 b := fun b hb h0 h1 h2 h3 h4 h5 => (hfr b (hLs b hb) h0 h1 h2 h3 h4 h5).trans (hF b hb h0 h1 h2 h3 h4 h5)
        have hMS2 := hMS.ag hAG2
        have hMK2 := hMK.ag (fun x h1 _ => hAG2 x h1)
        obtain ⟨n1, hMn⟩ := (hMS j (by omega)).2
        obtain ⟨rfl, hMI⟩ := hML.small (by omega) hS1.fits hMn
        refine lv_iconst (v := nI 0) E.1.1 E.1.2.1 dX6_walk_31 rfl ?_
        refine lv_istore (lv' := [(4, .int (nI 0)), (0, .ref (A 0)), (1, .int (nI j)), (2, .int (nI nu)), (3, .int (nI w))]) E.1.1 E.1.2.1 dX6_walk_32 hl (by decide) rfl (fun ls hl => ?_)
        refine lv_iload_n E.1.1 E.1.2.1 dX6_walk_34 rfl (lv_at hl 3 rfl) ?_
        refine k_top E (nI (nu / base ^ 0)) (by rw [Nat.pow_zero, Nat.div_one]) ?_
        refine lv_istore (lv' := [(5, .int (nI (nu / base ^ 0))), (4, .int (nI 0)), (0, .ref (A 0)), (1, .int (nI j)), (2, .int (nI nu)), (3, .int (nI w))]) E.1.1 E.1.2.1 dX6_walk_35 hl (by decide) rfl (fun ls hl => ?_)
        refine lv_iconst (v := nI 0) E.1.1 E.1.2.1 dX6_walk_37 rfl ?_
        refine lv_istore (lv' := [(6, .int (nI 0)), (5, .int (nI (nu / base ^ 0))), (4, .int (nI 0)), (0, .ref (A 0)), (1, .int (nI j)), (2, .int (nI nu)), (3, .int (nI w))]) E.1.1 E.1.2.1 dX6_walk_38 hl (by decide) rfl (fun ls hl => ?_)
        have lp40 : ∀ (k : Nat) (i : Nat) (f : Nat → va_E) (H : Heap) (locs : List Loc) (ls : Array Slot), (w - i < k) → (i ≤ w) → (wlk (trn (SS j) base (ns2 * base)).2.2 base nu i < ns2) → (cel L f (A 0) (.inr (6, [.int (nI base), .ref (A 1), .ref (A 2), .ref (A 3), .ref (A 4), .int (nI fr2), .int (nI pb2), .ref (A 5), .int (nI ns2), .ref (A 6), .ref (A 7), .ref (A 8)]))) → (cel L f (A 1) (.inl (cy 0, 84, .inl (fun k => nI (T2 k))))) → (cel L f (A 2) (.inl (cy 0, 84, .inl (fun k => nI (P2 k))))) → (cel L f (A 3) (.inl (cy 1, 252, .inr (.inl (rw3 B2))))) → (cel L f (A 4) (.inl (cy 2, 4096, .inl (fun k => b2i (rr2 k))))) → (cel L f (A 5) (.inl (cy 0, 325, .inl G2))) → (cel L f (A 6) (.inl (cy 0, 65, .inl Fa))) → (cel L f (A 7) (.inl (cy 0, 2, .inl (fun k => nI (kb1 k))))) → (cel L f (A 8) (.inl (cy 2, 2, .inl (fun k => b2i (kp k))))) → (∀ b ∈ L, b ≠ (A 0) → b ≠ (A 1) → b ≠ (A 2) → b ≠ (A 3) → b ≠ (A 4) → b ≠ (A 5) → f b = f0 b) → (WW D (AW L sz) s.heap L f H locs) → (lv_has ls 7 [(6, .int (nI i)), (4, .int (nI (wlk (trn (SS j) base (ns2 * base)).2.2 base nu i))), (5, .int (nI (nu / base ^ i))), (0, .ref (A 0)), (1, .int (nI j)), (2, .int (nI nu)), (3, .int (nI w))]) → W p l e R s m args below meth c H locs 0 0 Q (F0 m 40 ls []) := by
          intro k
          induction k with
          | zero => intro _ _ _ _ _ hk; exact absurd hk (Nat.not_lt_zero _)
          | succ k ih40 =>
            intro i f H locs ls hk hi hw2 h_o h_ts h_ps h_bs h_rw h_gs h_fa h_ba h_it hF hw hl
            refine lv_iload E.1.1 E.1.2.1 dX6_walk_40 (lv_at hl 0 rfl) ?_
            refine lv_iload_n E.1.1 E.1.2.1 dX6_walk_42 rfl (lv_at hl 6 rfl) ?_
            refine k_ge (tgt := 80) E dX6_walk_43 (by decide) (by omega) (by omega) (fun c43 => ?_) (fun c43 => ?_)
            · refine lv_iload E.1.1 E.1.2.1 dX6_walk_80 (lv_at hl 1 rfl) ?_
              exact k_miret E hQ hlk hr hw (Nat.le_of_ble_eq_true rfl) (Nat.le_of_ble_eq_true rfl) (⟨rfl, fun b hb h => hF b hb (h 0 (by decide)) (h 1 (by decide)) (h 2 (by decide)) (h 3 (by decide)) (h 4 (by decide)) (h 5 (by decide)), ⟨hB, _, _, _, _, _, _, _, _, _, _, ⟨h_o, h_ts, h_ps, h_bs, h_rw, h_gs, h_fa, h_ba, h_it⟩, hTP2, hMS2, hMK2⟩, by unfold rd_walk; rw [if_neg (inS_t hj), if_neg (by rintro (q | q); rw [in_t (by decide) hwx] at q; cases q; exact nI_pos hnu q), ix_nI (by omega), ix_nI (by omega), ix_nI (by omega)]; exact ⟨ns2, hMn, by rw [show w = i by omega]⟩⟩) dX6_walk_82
            · have hdl := Nat.div_le_self nu (base ^ i)
              have hdm := Nat.mod_lt (nu / base ^ i) (show 0 < base by omega)
              refine lv_aload_n E.1.1 E.1.2.1 dX6_walk_46 rfl (lv_at hl 3 rfl) ?_
              refine k_get (v := .ref (A 5)) E inlX6 rfl 7 (by decide) w2_239 rfl hw h_o rfl dX6_walk_47 ?_
              refine lv_iconst (v := nI 5) E.1.1 E.1.2.1 dX6_walk_50 rfl ?_
              refine lv_iload E.1.1 E.1.2.1 dX6_walk_51 (lv_at hl 1 rfl) ?_
              refine k_mul E dX6_walk_53 ?_
              refine lv_iload E.1.1 E.1.2.1 dX6_walk_54 (lv_at hl 2 rfl) ?_
              refine lv_aload_n E.1.1 E.1.2.1 dX6_walk_56 rfl (lv_at hl 3 rfl) ?_
              refine k_get (v := .int (nI base)) E inlX6 rfl 0 (by decide) w2_232 rfl hw h_o rfl dX6_walk_57 ?_
              refine k_rem E dX6_walk_60 (by omega) (by omega) (by omega) ?_
              refine k_add E dX6_walk_61 ?_
              refine k_iald E hw (v := nI ((trn (SS j) base (ns2 * base)).2.2 (wlk (trn (SS j) base (ns2 * base)).2.2 base nu i * base + nu / base ^ i % base))) h_gs (by omega) (by omega) (mi_go hMI (hw2) (hdm)) dX6_walk_62 ?_
              refine lv_istore (lv' := [(4, .int (nI ((trn (SS j) base (ns2 * base)).2.2 (wlk (trn (SS j) base (ns2 * base)).2.2 base nu i * base + nu / base ^ i % base)))), (6, .int (nI i)), (5, .int (nI (nu / base ^ i))), (0, .ref (A 0)), (1, .int (nI j)), (2, .int (nI nu)), (3, .int (nI w))]) E.1.1 E.1.2.1 dX6_walk_63 hl (by decide) rfl (fun ls hl => ?_)
              refine lv_iload E.1.1 E.1.2.1 dX6_walk_65 (lv_at hl 2 rfl) ?_
              refine lv_aload_n E.1.1 E.1.2.1 dX6_walk_67 rfl (lv_at hl 3 rfl) ?_
              refine k_get (v := .int (nI base)) E inlX6 rfl 0 (by decide) w2_232 rfl hw h_o rfl dX6_walk_68 ?_
              refine k_div E dX6_walk_71 (by omega) (by omega) (by omega) ?_
              refine lv_istore (lv' := [(5, .int (nI ((nu / base ^ i) / base))), (4, .int (nI ((trn (SS j) base (ns2 * base)).2.2 (wlk (trn (SS j) base (ns2 * base)).2.2 base nu i * base + nu / base ^ i % base)))), (6, .int (nI i)), (0, .ref (A 0)), (1, .int (nI j)), (2, .int (nI nu)), (3, .int (nI w))]) E.1.1 E.1.2.1 dX6_walk_72 hl (by decide) rfl (fun ls hl => ?_)
              refine lv_iinc (v := nI (i + 1)) (lv' := [(6, .int (nI (i + 1))), (5, .int (nI ((nu / base ^ i) / base))), (4, .int (nI ((trn (SS j) base (ns2 * base)).2.2 (wlk (trn (SS j) base (ns2 * base)).2.2 base nu i * base + nu / base ^ i % base)))), (0, .ref (A 0)), (1, .int (nI j)), (2, .int (nI nu)), (3, .int (nI w))]) E.1.1 E.1.2.1 dX6_walk_74 hl (k := 2) rfl (nI_1 _) (by decide) rfl (fun ls hl => ?_)
              refine lv_goto (tgt := 40) E.1.1 E.1.2.1 dX6_walk_77 (by decide) ?_
              rw [Nat.div_div_eq_div_mul, ← Nat.pow_succ] at hl
              exact ih40  (i + 1) f H locs ls (by omega) (by omega) (hMn.go _ (ix3 hw2 hdm)) h_o h_ts h_ps h_bs h_rw h_gs h_fa h_ba h_it hF hw (lv_sub hl [0, 2, 1, 3, 4, 5, 6] rfl)
        exact lp40 (w - 0 + 1) 0 f H locs ls (Nat.lt_succ_self _) (by omega) (hns0) h_o h_ts h_ps h_bs h_rw h_gs h_fa h_ba h_it hF hw (lv_sub hl [0, 2, 1, 3, 4, 5, 6] rfl)
      · refine lv_bipush (v := -2) E.1.1 E.1.2.1 dX6_walk_23 rfl ?_
        exact k_miret E hQ hlk hr hw (Nat.le_of_ble_eq_true rfl) (Nat.le_of_ble_eq_true rfl) (⟨rfl, fun b hb h => hF b hb (h 0 (by decide)) (h 1 (by decide)) (h 2 (by decide)) (h 3 (by decide)) (h 4 (by decide)) (h 5 (by decide)), ⟨hB, _, _, _, _, _, _, _, _, _, _, ⟨h_o, h_ts, h_ps, h_bs, h_rw, h_gs, h_fa, h_ba, h_it⟩, hTP, hMS, hMK⟩, by unfold rd_walk; rw [if_neg (inS_t hj), if_pos (Or.inr (Int32.not_le.mp c20))]⟩) dX6_walk_25
  · refine lv_iconst (v := -1) E.1.1 E.1.2.1 dX6_walk_7 rfl ?_
    exact k_miret E hQ hlk hr hw (Nat.le_of_ble_eq_true rfl) (Nat.le_of_ble_eq_true rfl) (⟨rfl, fun b hb h => hF b hb (h 0 (by decide)) (h 1 (by decide)) (h 2 (by decide)) (h 3 (by decide)) (h 4 (by decide)) (h 5 (by decide)), ⟨hB, _, _, _, _, _, _, _, _, _, _, ⟨h_o, h_ts, h_ps, h_bs, h_rw, h_gs, h_fa, h_ba, h_it⟩, hTP, hMS, hMK⟩, by unfold rd_walk; rw [if_pos (show inS _ = false from c4)]⟩) dX6_walk_8

set_option maxHeartbeats 4000000 in
set_option maxRecDepth 100000 in
theorem m_told (l : Launch) (D : va_G) (cy : Nat → ClassId) (L : List Nat) (f0 : Nat → va_E) (sz : Nat) (A : Nat → Nat) (base : Nat) (SS : Nat → Nat → Bool) (kp : Nat → Bool) (kb : Nat → Nat) (KS : Nat → Nat → Nat → Bool) (hA : MAd A) (hN : MoW cy L f0 A base SS kp kb KS) (slot what : Int32) : Met l yX6_told (.code yX6_told cX6_told 7 (Option.some FieldType.int) :: wsL_law) { frames := 5, cells := 0, slots := 0, locals := 115 } (va_Pc [.ref (A 0), .int slot, .int what] (PW D cy L f0 sz)) (va_Qi (fun (r : Int32) (u : List Nat × (Nat → va_E)) => L = u.1 ∧ (∀ b ∈ L, (∀ i, i < 9 → b ≠ A i) → u.2 b = f0 b) ∧ MoW cy L u.2 A base SS kp kb KS ∧ rd_told base SS slot what r) (PB D (AW L sz)) (AW L sz)) 0 0 (AW L sz) := by
  refine m_start (by decide) (Nat.le_of_ble_eq_true rfl) ?_
  intro p e R Q s m args below meth c ls hsz hR hQ E hr hlk hnm hw hl
  have hl : lv_has ls 7 [(0, .ref (A 0)), (1, .int slot), (2, .int what)] := hl
  obtain ⟨H, hH⟩ : ∃ X, X = s.heap := ⟨_, rfl⟩
  obtain ⟨locs, hlocs⟩ : ∃ X : List Loc, X = [] := ⟨_, rfl⟩
  have hw0 := hw
  obtain ⟨hB, fr, pb, ns, T, P, B, rr, G, Fa, kb1, ⟨h_o, h_ts, h_ps, h_bs, h_rw, h_gs, h_fa, h_ba, h_it⟩, hTP, hMS, hMK⟩ := hN
  have hb2 := hB.two
  obtain ⟨f, hf0⟩ : ∃ X, X = f0 := ⟨_, rfl⟩
  rw [← hf0] at h_o h_ts h_ps h_bs h_rw h_gs h_fa h_ba h_it
  have hw : WW D (AW L sz) s.heap L f H locs := by rw [hH, hlocs, hf0]; exact hw
  have hF : ∀ b ∈ L, b ≠ (A 0) → b ≠ (A 1) → b ≠ (A 2) → b ≠ (A 3) → b ≠ (A 4) → b ≠ (A 5) → f b = f0 b := fun b hb h0 h1 h2 h3 h4 h5 => by rw [hf0]
  suffices hgo : W p l e R s m args below meth c H locs 0 0 Q (F0 m 0 ls []) by rw [hH, hlocs] at hgo; exact hgo
  clear hH hlocs hw0 hf0
  have hLs : ∀ b ∈ L, b ∈ L := fun _ h => h
  have n_o_ts : A 0 ≠ A 1 := hA.ne (by decide) (by decide) (by decide)
  have n_o_ps : A 0 ≠ A 2 := hA.ne (by decide) (by decide) (by decide)
  have n_o_bs : A 0 ≠ A 3 := hA.ne (by decide) (by decide) (by decide)
  have n_o_rw : A 0 ≠ A 4 := hA.ne (by decide) (by decide) (by decide)
  have n_o_gs : A 0 ≠ A 5 := hA.ne (by decide) (by decide) (by decide)
  have n_o_fa : A 0 ≠ A 6 := hA.ne (by decide) (by decide) (by decide)
  have n_o_ba : A 0 ≠ A 7 := hA.ne (by decide) (by decide) (by decide)
  have n_o_it : A 0 ≠ A 8 := hA.ne (by decide) (by decide) (by decide)
  have n_ts_ps : A 1 ≠ A 2 := hA.ne (by decide) (by decide) (by decide)
  have n_ts_bs : A 1 ≠ A 3 := hA.ne (by decide) (by decide) (by decide)
  have n_ts_rw : A 1 ≠ A 4 := hA.ne (by decide) (by decide) (by decide)
  have n_ts_gs : A 1 ≠ A 5 := hA.ne (by decide) (by decide) (by decide)
  have n_ts_fa : A 1 ≠ A 6 := hA.ne (by decide) (by decide) (by decide)
  have n_ts_ba : A 1 ≠ A 7 := hA.ne (by decide) (by decide) (by decide)
  have n_ts_it : A 1 ≠ A 8 := hA.ne (by decide) (by decide) (by decide)
  have n_ps_bs : A 2 ≠ A 3 := hA.ne (by decide) (by decide) (by decide)
  have n_ps_rw : A 2 ≠ A 4 := hA.ne (by decide) (by decide) (by decide)
  have n_ps_gs : A 2 ≠ A 5 := hA.ne (by decide) (by decide) (by decide)
  have n_ps_fa : A 2 ≠ A 6 := hA.ne (by decide) (by decide) (by decide)
  have n_ps_ba : A 2 ≠ A 7 := hA.ne (by decide) (by decide) (by decide)
  have n_ps_it : A 2 ≠ A 8 := hA.ne (by decide) (by decide) (by decide)
  have n_bs_rw : A 3 ≠ A 4 := hA.ne (by decide) (by decide) (by decide)
  have n_bs_gs : A 3 ≠ A 5 := hA.ne (by decide) (by decide) (by decide)
  have n_bs_fa : A 3 ≠ A 6 := hA.ne (by decide) (by decide) (by decide)
  have n_bs_ba : A 3 ≠ A 7 := hA.ne (by decide) (by decide) (by decide)
  have n_bs_it : A 3 ≠ A 8 := hA.ne (by decide) (by decide) (by decide)
  have n_rw_gs : A 4 ≠ A 5 := hA.ne (by decide) (by decide) (by decide)
  have n_rw_fa : A 4 ≠ A 6 := hA.ne (by decide) (by decide) (by decide)
  have n_rw_ba : A 4 ≠ A 7 := hA.ne (by decide) (by decide) (by decide)
  have n_rw_it : A 4 ≠ A 8 := hA.ne (by decide) (by decide) (by decide)
  have n_gs_fa : A 5 ≠ A 6 := hA.ne (by decide) (by decide) (by decide)
  have n_gs_ba : A 5 ≠ A 7 := hA.ne (by decide) (by decide) (by decide)
  have n_gs_it : A 5 ≠ A 8 := hA.ne (by decide) (by decide) (by decide)
  refine lv_iload_n E.1.1 E.1.2.1 dX6_told_0 rfl (lv_at hl 1 rfl) ?_
  refine k_ri (va_runS (As := [.int slot]) (rest := []) E.1 (m_isSlot l D cy L f H.size slot) ⟨callB_of 1 E.1.2.2.2.2 (gd_own w3_40) rfl rfl rfl (E.1.2.2.2.2 _ w1_10) (E.1.2.2.2.2 _ w3_38) hd_X6_isSlot (by rw [hR]; exact ⟨Nat.le_of_ble_eq_true rfl, Nat.le_of_ble_eq_true rfl⟩), E.1.2.2.2.2 _ w3_39⟩ (pw_pre E.2 hw) rfl rfl hl.1 rfl (lv_room (Nat.le_of_ble_eq_true rfl)) dX6_told_1 ⟨Nat.zero_le _, Nat.zero_le _⟩) ?_
  refine k_if1 (tgt := 9) E dX6_told_4 (by decide) (fun c4 => ?_) (fun c4 => ?_)
  · obtain ⟨j, hj, rfl⟩ := in_ex (by decide) c4
    refine lv_iload_n E.1.1 E.1.2.1 dX6_told_9 rfl (lv_at hl 2 rfl) ?_
    refine lv_iconst (v := nI 0) E.1.1 E.1.2.1 dX6_told_10 rfl ?_
    refine lv_iconst (v := nI 5) E.1.1 E.1.2.1 dX6_told_11 rfl ?_
    refine k_ri (va_runS (As := [.int what, .int (nI 0), .int (nI 5)]) (rest := []) E.1 (m_in l D cy L f H.size what (nI 0) (nI 5)) ⟨callB_of 3 E.1.2.2.2.2 (gd_own w3_43) rfl rfl rfl (E.1.2.2.2.2 _ w1_10) (E.1.2.2.2.2 _ w3_41) hd_X6_in (by rw [hR]; exact ⟨Nat.le_of_ble_eq_true rfl, Nat.le_of_ble_eq_true rfl⟩), E.1.2.2.2.2 _ w3_42⟩ (pw_pre E.2 hw) rfl rfl hl.1 rfl (lv_room (Nat.le_of_ble_eq_true rfl)) dX6_told_12 ⟨Nat.zero_le _, Nat.zero_le _⟩) ?_
    refine k_if1 (tgt := 21) E dX6_told_15 (by decide) (fun c15 => ?_) (fun c15 => ?_)
    · obtain ⟨wh, hwh, rfl⟩ := in_ex (by decide) c15
      have hS1 := (hMS j (by omega)).1
      have hS1a := hS1.1.1
      have hS1b := hS1.2.1
      have hS1c := hS1.2.2.1
      refine lv_aload_n E.1.1 E.1.2.1 dX6_told_21 rfl (lv_at hl 0 rfl) ?_
      refine k_get (v := .ref (A 1)) E inlX6 rfl 1 (by decide) w2_233 rfl hw h_o rfl dX6_told_22 ?_
      refine lv_iload_n E.1.1 E.1.2.1 dX6_told_25 rfl (lv_at hl 1 rfl) ?_
      refine k_iald E hw (v := nI (T j)) h_ts (by omega) (by omega) (rfl) dX6_told_26 ?_
      refine lv_istore_n (lv' := [(3, .int (nI (T j))), (0, .ref (A 0)), (1, .int (nI j)), (2, .int (nI wh))]) E.1.1 E.1.2.1 dX6_told_27 rfl hl (by decide) rfl (fun ls hl => ?_)
      refine lv_aload_n E.1.1 E.1.2.1 dX6_told_28 rfl (lv_at hl 1 rfl) ?_
      refine k_get (v := .ref (A 2)) E inlX6 rfl 2 (by decide) w2_234 rfl hw h_o rfl dX6_told_29 ?_
      refine lv_iload_n E.1.1 E.1.2.1 dX6_told_32 rfl (lv_at hl 2 rfl) ?_
      refine k_iald E hw (v := nI (P j)) h_ps (by omega) (by omega) (rfl) dX6_told_33 ?_
      refine lv_istore (lv' := [(4, .int (nI (P j))), (3, .int (nI (T j))), (0, .ref (A 0)), (1, .int (nI j)), (2, .int (nI wh))]) E.1.1 E.1.2.1 dX6_told_34 hl (by decide) rfl (fun ls hl => ?_)
      refine lv_aload_n E.1.1 E.1.2.1 dX6_told_36 rfl (lv_at hl 2 rfl) ?_
      refine lv_iload_n E.1.1 E.1.2.1 dX6_told_37 rfl (lv_at hl 3 rfl) ?_
      refine k_mv hw (va_runV (As := [.int (nI j)]) (rest := []) E.1 (m_layMachine l D cy L f H.size A base fr pb ns T P B rr G hA hTP j (SS j) (by omega) (by omega) (by omega) hS1 h_o h_ts h_ps h_bs h_rw h_gs) ⟨callB_of 1 E.1.2.2.2.2 (gd_own w3_71) rfl rfl rfl (E.1.2.2.2.2 _ w1_10) (E.1.2.2.2.2 _ w3_68) hd_X6_layMachine (by rw [hR]; exact ⟨Nat.le_of_ble_eq_true rfl, Nat.le_of_ble_eq_true rfl⟩), E.1.2.2.2.2 _ w3_70, E.1.2.2.2.2 _ ws_31⟩ (pw_preV (q := (RX6, TX6, 12)) E.2 hw h_o rfl) rfl rfl hl.1 rfl (lv_room (Nat.le_of_ble_eq_true rfl)) dX6_told_38 (by rw [hR]; exact ⟨Nat.le_of_ble_eq_true rfl, Nat.le_of_ble_eq_true rfl⟩)) (fun L1 f H locs hp hw => ?_)
      obtain ⟨hL1, hfr, fr2, pb2, ns2, T2, P2, B2, rr2, G2, h_o, h_ts, h_ps, h_bs, h_rw, h_gs, hTP2, hAG2, hS18, hns0, hns65, hML⟩ := hp
      have hL1 : L = L1 := hL1
      subst hL1
      have h_o : cel L f (A 0) (.inr (6, [.int (nI base), .ref (A 1), .ref (A 2), .ref (A 3), .ref (A 4), .int (nI fr2), .int (nI pb2), .ref (A 5), .int (nI ns2), .ref (A 6), .ref (A 7), .ref (A 8)])) := h_o
      have h_ts : cel L f (A 1) (.inl (cy 0, 84, .inl (fun k => nI (T2 k)))) := h_ts
      have h_ps : cel L f (A 2) (.inl (cy 0, 84, .inl (fun k => nI (P2 k)))) := h_ps
      have h_bs : cel L f (A 3) (.inl (cy 1, 252, .inr (.inl (rw3 B2)))) := h_bs
      have h_rw : cel L f (A 4) (.inl (cy 2, 4096, .inl (fun k => b2i (rr2 k)))) := h_rw
      have h_gs : cel L f (A 5) (.inl (cy 0, 325, .inl G2)) := h_gs
      have h_fa := h_fa.keep (fun _ h => h) (hfr _ h_fa.1 (Ne.symm n_o_fa) (Ne.symm n_ts_fa) (Ne.symm n_ps_fa) (Ne.symm n_bs_fa) (Ne.symm n_rw_fa) (Ne.symm n_gs_fa))
      have h_ba := h_ba.keep (fun _ h => h) (hfr _ h_ba.1 (Ne.symm n_o_ba) (Ne.symm n_ts_ba) (Ne.symm n_ps_ba) (Ne.symm n_bs_ba) (Ne.symm n_rw_ba) (Ne.symm n_gs_ba))
      have h_it := h_it.keep (fun _ h => h) (hfr _ h_it.1 (Ne.symm n_o_it) (Ne.symm n_ts_it) (Ne.symm n_ps_it) (Ne.symm n_bs_it) (Ne.symm n_rw_it) (Ne.symm n_gs_it))
      have hF : ∀ b ∈ L, b ≠ (A 0) → b ≠ (A 1) → b ≠ (A 2) → b ≠ (A 3) → b ≠ (A 4) → b ≠ (A 5) → f b = f0 b := fun b hb h0 h1 h2 h3 h4 h5 => (hfr b (hLs b hb) h0 h1 h2 h3 h4 h5).trans (hF b hb h0 h1 h2 h3 h4 h5)
      have hMS2 := hMS.ag hAG2
      have hMK2 := hMK.ag (fun x h1 _ => hAG2 x h1)
      obtain ⟨n1, hMn⟩ := (hMS j (by omega)).2
      obtain ⟨rfl, hMI⟩ := hML.small (by omega) hS1.fits hMn
      refine lv_iconst (v := nI 0) E.1.1 E.1.2.1 dX6_told_41 rfl ?_
      refine lv_istore (lv' := [(5, .int (nI 0)), (4, .int (nI (P j))), (3, .int (nI (T j))), (0, .ref (A 0)), (1, .int (nI j)), (2, .int (nI wh))]) E.1.1 E.1.2.1 dX6_told_42 hl (by decide) rfl (fun ls hl => ?_)
      refine lv_iconst (v := nI 0) E.1.1 E.1.2.1 dX6_told_44 rfl ?_
      refine lv_istore (lv' := [(6, .int (nI 0)), (5, .int (nI 0)), (4, .int (nI (P j))), (3, .int (nI (T j))), (0, .ref (A 0)), (1, .int (nI j)), (2, .int (nI wh))]) E.1.1 E.1.2.1 dX6_told_45 hl (by decide) rfl (fun ls hl => ?_)
      have lp47 : ∀ (k : Nat) (i : Nat) (f : Nat → va_E) (H : Heap) (locs : List Loc) (ls : Array Slot), (ns2 - i < k) → (i ≤ ns2) → (cel L f (A 0) (.inr (6, [.int (nI base), .ref (A 1), .ref (A 2), .ref (A 3), .ref (A 4), .int (nI fr2), .int (nI pb2), .ref (A 5), .int (nI ns2), .ref (A 6), .ref (A 7), .ref (A 8)]))) → (cel L f (A 1) (.inl (cy 0, 84, .inl (fun k => nI (T2 k))))) → (cel L f (A 2) (.inl (cy 0, 84, .inl (fun k => nI (P2 k))))) → (cel L f (A 3) (.inl (cy 1, 252, .inr (.inl (rw3 B2))))) → (cel L f (A 4) (.inl (cy 2, 4096, .inl (fun k => b2i (rr2 k))))) → (cel L f (A 5) (.inl (cy 0, 325, .inl G2))) → (cel L f (A 6) (.inl (cy 0, 65, .inl Fa))) → (cel L f (A 7) (.inl (cy 0, 2, .inl (fun k => nI (kb1 k))))) → (cel L f (A 8) (.inl (cy 2, 2, .inl (fun k => b2i (kp k))))) → (∀ b ∈ L, b ≠ (A 0) → b ≠ (A 1) → b ≠ (A 2) → b ≠ (A 3) → b ≠ (A 4) → b ≠ (A 5) → f b = f0 b) → (WW D (AW L sz) s.heap L f H locs) → (lv_has ls 7 [(6, .int (nI i)), (5, .int (nI (fa_cnt (fun x => (trn (SS j) base (ns2 * base)).2.1 x 0) i))), (3, .int (nI (T j))), (4, .int (nI (P j))), (0, .ref (A 0)), (1, .int (nI j)), (2, .int (nI wh))]) → W p l e R s m args below meth c H locs 0 0 Q (F0 m 47 ls []) := by
        intro k
        induction k with
        | zero => intro _ _ _ _ _ hk; exact absurd hk (Nat.not_lt_zero _)
        | succ k ih47 =>
          intro i f H locs ls hk hi h_o h_ts h_ps h_bs h_rw h_gs h_fa h_ba h_it hF hw hl
          refine lv_iload E.1.1 E.1.2.1 dX6_told_47 (lv_at hl 0 rfl) ?_
          refine lv_aload_n E.1.1 E.1.2.1 dX6_told_49 rfl (lv_at hl 4 rfl) ?_
          refine k_get (v := .int (nI ns2)) E inlX6 rfl 8 (by decide) w3_0 rfl hw h_o rfl dX6_told_50 ?_
          refine k_ge (tgt := 81) E dX6_told_53 (by decide) (by omega) (by omega) (fun c53 => ?_) (fun c53 => ?_)
          · refine lv_iload_n E.1.1 E.1.2.1 dX6_told_81 rfl (lv_at hl 6 rfl) ?_
            refine k_z1 (tgt := 89) E dX6_told_82 (by decide) (by omega) (fun c82 => ?_) (fun c82 => ?_)
            · refine lv_iload_n E.1.1 E.1.2.1 dX6_told_89 rfl (lv_at hl 6 rfl) ?_
              refine lv_iconst (v := nI 1) E.1.1 E.1.2.1 dX6_told_90 rfl ?_
              refine k_ne (tgt := 99) E dX6_told_91 (by decide) (by omega) (by omega) (fun c91 => ?_) (fun c91 => ?_)
              · refine lv_iload_n E.1.1 E.1.2.1 dX6_told_99 rfl (lv_at hl 6 rfl) ?_
                refine lv_iconst (v := nI 2) E.1.1 E.1.2.1 dX6_told_100 rfl ?_
                refine k_ne (tgt := 111) E dX6_told_101 (by decide) (by omega) (by omega) (fun c101 => ?_) (fun c101 => ?_)
                · refine lv_iload_n E.1.1 E.1.2.1 dX6_told_111 rfl (lv_at hl 6 rfl) ?_
                  refine lv_iconst (v := nI 3) E.1.1 E.1.2.1 dX6_told_112 rfl ?_
                  refine k_ne (tgt := 121) E dX6_told_113 (by decide) (by omega) (by omega) (fun c113 => ?_) (fun c113 => ?_)
                  · refine lv_iload_n E.1.1 E.1.2.1 dX6_told_121 rfl (lv_at hl 6 rfl) ?_
                    refine lv_iconst (v := nI 4) E.1.1 E.1.2.1 dX6_told_122 rfl ?_
                    refine k_ne (tgt := 136) E dX6_told_123 (by decide) (by omega) (by omega) (fun c123 => ?_) (fun c123 => ?_)
                    · refine lv_aload_n E.1.1 E.1.2.1 dX6_told_136 rfl (lv_at hl 4 rfl) ?_
                      refine lv_iload_n E.1.1 E.1.2.1 dX6_told_137 rfl (lv_at hl 5 rfl) ?_
                      refine lv_iload_n E.1.1 E.1.2.1 dX6_told_138 rfl (lv_at hl 2 rfl) ?_
                      refine lv_iload_n E.1.1 E.1.2.1 dX6_told_139 rfl (lv_at hl 2 rfl) ?_
                      refine lv_iload E.1.1 E.1.2.1 dX6_told_140 (lv_at hl 3 rfl) ?_
                      refine k_add E dX6_told_142 ?_
                      refine k_ri (va_runV (As := [.int (nI j), .int (nI (T j)), .int (nI ((T j) + (P j)))]) (rest := []) E.1 (m_countUpTo l D cy L f H.size A base fr2 pb2 ns2 T2 P2 B2 rr2 G2 hA hTP2 j (T j) ((T j) + (P j)) (SS j) (hMS2 j (by omega)).1 (by omega) (by omega) (by omega) h_o h_ts h_ps h_bs) ⟨callB_of 3 E.1.2.2.2.2 (gd_own w3_126) rfl rfl rfl (E.1.2.2.2.2 _ w1_10) (E.1.2.2.2.2 _ w3_123) hd_X6_countUpTo (by rw [hR]; exact ⟨Nat.le_of_ble_eq_true rfl, Nat.le_of_ble_eq_true rfl⟩), E.1.2.2.2.2 _ w3_125, E.1.2.2.2.2 _ ws_38⟩ (pw_preV (q := (RX6, TX6, 12)) E.2 hw h_o rfl) rfl rfl hl.1 rfl (lv_room (Nat.le_of_ble_eq_true rfl)) dX6_told_143 ⟨Nat.zero_le _, Nat.zero_le _⟩) ?_
                      exact k_miret E hQ hlk hr hw (Nat.le_of_ble_eq_true rfl) (Nat.le_of_ble_eq_true rfl) (⟨rfl, fun b hb h => hF b hb (h 0 (by decide)) (h 1 (by decide)) (h 2 (by decide)) (h 3 (by decide)) (h 4 (by decide)) (h 5 (by decide)), ⟨hB, _, _, _, _, _, _, _, _, _, _, ⟨h_o, h_ts, h_ps, h_bs, h_rw, h_gs, h_fa, h_ba, h_it⟩, hTP2, hMS2, hMK2⟩, by unfold rd_told; rw [if_neg (inS_t hj), if_neg (by rw [in_t (by decide) hwh]; decide), ix_nI (by omega), ix_nI (by omega)]; exact Or.inr (Or.inr (Or.inr (Or.inr (Or.inr (⟨by omega, T j, P j, hS1.1, rfl⟩)))))⟩) dX6_told_146
                    · refine lv_aload_n E.1.1 E.1.2.1 dX6_told_126 rfl (lv_at hl 4 rfl) ?_
                      refine lv_iload_n E.1.1 E.1.2.1 dX6_told_127 rfl (lv_at hl 5 rfl) ?_
                      refine lv_iconst (v := nI 0) E.1.1 E.1.2.1 dX6_told_128 rfl ?_
                      refine lv_iload_n E.1.1 E.1.2.1 dX6_told_129 rfl (lv_at hl 2 rfl) ?_
                      refine k_ri (va_runV (As := [.int (nI j), .int (nI 0), .int (nI (T j))]) (rest := []) E.1 (m_countUpTo l D cy L f H.size A base fr2 pb2 ns2 T2 P2 B2 rr2 G2 hA hTP2 j (0) (T j) (SS j) (hMS2 j (by omega)).1 (by omega) (by omega) (by omega) h_o h_ts h_ps h_bs) ⟨callB_of 3 E.1.2.2.2.2 (gd_own w3_126) rfl rfl rfl (E.1.2.2.2.2 _ w1_10) (E.1.2.2.2.2 _ w3_123) hd_X6_countUpTo (by rw [hR]; exact ⟨Nat.le_of_ble_eq_true rfl, Nat.le_of_ble_eq_true rfl⟩), E.1.2.2.2.2 _ w3_125, E.1.2.2.2.2 _ ws_38⟩ (pw_preV (q := (RX6, TX6, 12)) E.2 hw h_o rfl) rfl rfl hl.1 rfl (lv_room (Nat.le_of_ble_eq_true rfl)) dX6_told_130 ⟨Nat.zero_le _, Nat.zero_le _⟩) ?_
                      refine lv_goto (tgt := 146) E.1.1 E.1.2.1 dX6_told_133 (by decide) ?_
                      exact k_miret E hQ hlk hr hw (Nat.le_of_ble_eq_true rfl) (Nat.le_of_ble_eq_true rfl) (⟨rfl, fun b hb h => hF b hb (h 0 (by decide)) (h 1 (by decide)) (h 2 (by decide)) (h 3 (by decide)) (h 4 (by decide)) (h 5 (by decide)), ⟨hB, _, _, _, _, _, _, _, _, _, _, ⟨h_o, h_ts, h_ps, h_bs, h_rw, h_gs, h_fa, h_ba, h_it⟩, hTP2, hMS2, hMK2⟩, by unfold rd_told; rw [if_neg (inS_t hj), if_neg (by rw [in_t (by decide) hwh]; decide), ix_nI (by omega), ix_nI (by omega)]; exact Or.inr (Or.inr (Or.inr (Or.inr (Or.inl ⟨by omega, T j, P j, hS1.1, rfl⟩))))⟩) dX6_told_146
                  · refine lv_iload E.1.1 E.1.2.1 dX6_told_116 (lv_at hl 1 rfl) ?_
                    refine lv_goto (tgt := 146) E.1.1 E.1.2.1 dX6_told_118 (by decide) ?_
                    exact k_miret E hQ hlk hr hw (Nat.le_of_ble_eq_true rfl) (Nat.le_of_ble_eq_true rfl) (⟨rfl, fun b hb h => hF b hb (h 0 (by decide)) (h 1 (by decide)) (h 2 (by decide)) (h 3 (by decide)) (h 4 (by decide)) (h 5 (by decide)), ⟨hB, _, _, _, _, _, _, _, _, _, _, ⟨h_o, h_ts, h_ps, h_bs, h_rw, h_gs, h_fa, h_ba, h_it⟩, hTP2, hMS2, hMK2⟩, by unfold rd_told; rw [if_neg (inS_t hj), if_neg (by rw [in_t (by decide) hwh]; decide), ix_nI (by omega), ix_nI (by omega)]; exact Or.inr (Or.inr (Or.inr (Or.inl ⟨by omega, ns2, hMn, by rw [show i = ns2 by omega]⟩)))⟩) dX6_told_146
                · refine lv_aload_n E.1.1 E.1.2.1 dX6_told_104 rfl (lv_at hl 4 rfl) ?_
                  refine k_get (v := .int (nI ns2)) E inlX6 rfl 8 (by decide) w3_0 rfl hw h_o rfl dX6_told_105 ?_
                  refine lv_goto (tgt := 146) E.1.1 E.1.2.1 dX6_told_108 (by decide) ?_
                  exact k_miret E hQ hlk hr hw (Nat.le_of_ble_eq_true rfl) (Nat.le_of_ble_eq_true rfl) (⟨rfl, fun b hb h => hF b hb (h 0 (by decide)) (h 1 (by decide)) (h 2 (by decide)) (h 3 (by decide)) (h 4 (by decide)) (h 5 (by decide)), ⟨hB, _, _, _, _, _, _, _, _, _, _, ⟨h_o, h_ts, h_ps, h_bs, h_rw, h_gs, h_fa, h_ba, h_it⟩, hTP2, hMS2, hMK2⟩, by unfold rd_told; rw [if_neg (inS_t hj), if_neg (by rw [in_t (by decide) hwh]; decide), ix_nI (by omega), ix_nI (by omega)]; exact Or.inr (Or.inr (Or.inl ⟨by omega, ns2, hMn, rfl⟩))⟩) dX6_told_146
              · refine lv_iload E.1.1 E.1.2.1 dX6_told_94 (lv_at hl 3 rfl) ?_
                refine lv_goto (tgt := 146) E.1.1 E.1.2.1 dX6_told_96 (by decide) ?_
                exact k_miret E hQ hlk hr hw (Nat.le_of_ble_eq_true rfl) (Nat.le_of_ble_eq_true rfl) (⟨rfl, fun b hb h => hF b hb (h 0 (by decide)) (h 1 (by decide)) (h 2 (by decide)) (h 3 (by decide)) (h 4 (by decide)) (h 5 (by decide)), ⟨hB, _, _, _, _, _, _, _, _, _, _, ⟨h_o, h_ts, h_ps, h_bs, h_rw, h_gs, h_fa, h_ba, h_it⟩, hTP2, hMS2, hMK2⟩, by unfold rd_told; rw [if_neg (inS_t hj), if_neg (by rw [in_t (by decide) hwh]; decide), ix_nI (by omega), ix_nI (by omega)]; exact Or.inr (Or.inl ⟨by omega, T j, P j, hS1.1, rfl⟩)⟩) dX6_told_146
            · refine lv_iload_n E.1.1 E.1.2.1 dX6_told_85 rfl (lv_at hl 2 rfl) ?_
              refine lv_goto (tgt := 146) E.1.1 E.1.2.1 dX6_told_86 (by decide) ?_
              exact k_miret E hQ hlk hr hw (Nat.le_of_ble_eq_true rfl) (Nat.le_of_ble_eq_true rfl) (⟨rfl, fun b hb h => hF b hb (h 0 (by decide)) (h 1 (by decide)) (h 2 (by decide)) (h 3 (by decide)) (h 4 (by decide)) (h 5 (by decide)), ⟨hB, _, _, _, _, _, _, _, _, _, _, ⟨h_o, h_ts, h_ps, h_bs, h_rw, h_gs, h_fa, h_ba, h_it⟩, hTP2, hMS2, hMK2⟩, by unfold rd_told; rw [if_neg (inS_t hj), if_neg (by rw [in_t (by decide) hwh]; decide), ix_nI (by omega), ix_nI (by omega)]; exact Or.inl ⟨by omega, T j, P j, hS1.1, rfl⟩⟩) dX6_told_146
          · refine lv_iload E.1.1 E.1.2.1 dX6_told_56 (lv_at hl 1 rfl) ?_
            refine lv_aload_n E.1.1 E.1.2.1 dX6_told_58 rfl (lv_at hl 4 rfl) ?_
            refine lv_iload E.1.1 E.1.2.1 dX6_told_59 (lv_at hl 0 rfl) ?_
            refine k_ri (va_runV (As := [.int (nI i)]) (rest := [.int (nI (fa_cnt (fun x => (trn (SS j) base (ns2 * base)).2.1 x 0) i))]) E.1 (m_isGood l D cy L f H.size A base fr2 pb2 ns2 T2 P2 B2 rr2 G2 hA hTP2 i ((trn (SS j) base (ns2 * base)).2.1 i) (hMI.2.1 i (by omega)) (by omega) h_o h_ts h_ps h_bs) ⟨callB_of 1 E.1.2.2.2.2 (gd_own w3_122) rfl rfl rfl (E.1.2.2.2.2 _ w1_10) (E.1.2.2.2.2 _ w3_119) hd_X6_isGood (by rw [hR]; exact ⟨Nat.le_of_ble_eq_true rfl, Nat.le_of_ble_eq_true rfl⟩), E.1.2.2.2.2 _ w3_121, E.1.2.2.2.2 _ ws_37⟩ (pw_preV (q := (RX6, TX6, 12)) E.2 hw h_o rfl) rfl rfl hl.1 rfl (lv_room (Nat.le_of_ble_eq_true rfl)) dX6_told_61 ⟨Nat.zero_le _, Nat.zero_le _⟩) ?_
            refine k_top E (b2i ((fun x => (trn (SS j) base (ns2 * base)).2.1 x 0) i)) (rfl) ?_
            refine k_if0 (tgt := 71) E dX6_told_64 (by decide) (fun c64 => ?_) (fun c64 => ?_)
            · refine lv_iconst (v := nI 0) E.1.1 E.1.2.1 dX6_told_71 rfl ?_
              refine k_add E dX6_told_72 ?_
              refine lv_istore (lv' := [(5, .int (nI ((fa_cnt (fun x => (trn (SS j) base (ns2 * base)).2.1 x 0) i) + 0))), (6, .int (nI i)), (3, .int (nI (T j))), (4, .int (nI (P j))), (0, .ref (A 0)), (1, .int (nI j)), (2, .int (nI wh))]) E.1.1 E.1.2.1 dX6_told_73 hl (by decide) rfl (fun ls hl => ?_)
              refine lv_iinc (v := nI (i + 1)) (lv' := [(6, .int (nI (i + 1))), (5, .int (nI ((fa_cnt (fun x => (trn (SS j) base (ns2 * base)).2.1 x 0) i) + 0))), (3, .int (nI (T j))), (4, .int (nI (P j))), (0, .ref (A 0)), (1, .int (nI j)), (2, .int (nI wh))]) E.1.1 E.1.2.1 dX6_told_75 hl (k := 1) rfl (nI_1 _) (by decide) rfl (fun ls hl => ?_)
              refine lv_goto (tgt := 47) E.1.1 E.1.2.1 dX6_told_78 (by decide) ?_
              rw [show fa_cnt (fun x => (trn (SS j) base (ns2 * base)).2.1 x 0) i + 0 = fa_cnt (fun x => (trn (SS j) base (ns2 * base)).2.1 x 0) (i + 1) by rw [fa_cnt_no (p := (fun x => (trn (SS j) base (ns2 * base)).2.1 x 0)) (n := i) c64, Nat.add_zero]] at hl
              exact ih47  (i + 1) f H locs ls (by omega) (by omega) h_o h_ts h_ps h_bs h_rw h_gs h_fa h_ba h_it hF hw (lv_sub hl [0, 1, 2, 3, 4, 5, 6] rfl)
            · refine lv_iconst (v := nI 1) E.1.1 E.1.2.1 dX6_told_67 rfl ?_
              refine lv_goto (tgt := 72) E.1.1 E.1.2.1 dX6_told_68 (by decide) ?_
              refine k_add E dX6_told_72 ?_
              refine lv_istore (lv' := [(5, .int (nI ((fa_cnt (fun x => (trn (SS j) base (ns2 * base)).2.1 x 0) i) + 1))), (6, .int (nI i)), (3, .int (nI (T j))), (4, .int (nI (P j))), (0, .ref (A 0)), (1, .int (nI j)), (2, .int (nI wh))]) E.1.1 E.1.2.1 dX6_told_73 hl (by decide) rfl (fun ls hl => ?_)
              refine lv_iinc (v := nI (i + 1)) (lv' := [(6, .int (nI (i + 1))), (5, .int (nI ((fa_cnt (fun x => (trn (SS j) base (ns2 * base)).2.1 x 0) i) + 1))), (3, .int (nI (T j))), (4, .int (nI (P j))), (0, .ref (A 0)), (1, .int (nI j)), (2, .int (nI wh))]) E.1.1 E.1.2.1 dX6_told_75 hl (k := 1) rfl (nI_1 _) (by decide) rfl (fun ls hl => ?_)
              refine lv_goto (tgt := 47) E.1.1 E.1.2.1 dX6_told_78 (by decide) ?_
              rw [show fa_cnt (fun x => (trn (SS j) base (ns2 * base)).2.1 x 0) i + 1 = fa_cnt (fun x => (trn (SS j) base (ns2 * base)).2.1 x 0) (i + 1) by rw [fa_cnt_yes (p := (fun x => (trn (SS j) base (ns2 * base)).2.1 x 0)) (n := i) c64]] at hl
              exact ih47  (i + 1) f H locs ls (by omega) (by omega) h_o h_ts h_ps h_bs h_rw h_gs h_fa h_ba h_it hF hw (lv_sub hl [0, 1, 2, 3, 4, 5, 6] rfl)
      exact lp47 (ns2 - 0 + 1) 0 f H locs ls (Nat.lt_succ_self _) (by omega) h_o h_ts h_ps h_bs h_rw h_gs h_fa h_ba h_it hF hw (lv_sub hl [0, 1, 3, 2, 4, 5, 6] rfl)
    · refine lv_bipush (v := -2) E.1.1 E.1.2.1 dX6_told_18 rfl ?_
      exact k_miret E hQ hlk hr hw (Nat.le_of_ble_eq_true rfl) (Nat.le_of_ble_eq_true rfl) (⟨rfl, fun b hb h => hF b hb (h 0 (by decide)) (h 1 (by decide)) (h 2 (by decide)) (h 3 (by decide)) (h 4 (by decide)) (h 5 (by decide)), ⟨hB, _, _, _, _, _, _, _, _, _, _, ⟨h_o, h_ts, h_ps, h_bs, h_rw, h_gs, h_fa, h_ba, h_it⟩, hTP, hMS, hMK⟩, by unfold rd_told; rw [if_neg (inS_t hj), if_pos (show i32in _ 0 _ = false from c15)]⟩) dX6_told_20
  · refine lv_iconst (v := -1) E.1.1 E.1.2.1 dX6_told_7 rfl ?_
    exact k_miret E hQ hlk hr hw (Nat.le_of_ble_eq_true rfl) (Nat.le_of_ble_eq_true rfl) (⟨rfl, fun b hb h => hF b hb (h 0 (by decide)) (h 1 (by decide)) (h 2 (by decide)) (h 3 (by decide)) (h 4 (by decide)) (h 5 (by decide)), ⟨hB, _, _, _, _, _, _, _, _, _, _, ⟨h_o, h_ts, h_ps, h_bs, h_rw, h_gs, h_fa, h_ba, h_it⟩, hTP, hMS, hMK⟩, by unfold rd_told; rw [if_pos (show inS _ = false from c4)]⟩) dX6_told_8

set_option maxHeartbeats 4000000 in
set_option maxRecDepth 100000 in
theorem m_state (l : Launch) (D : va_G) (cy : Nat → ClassId) (L : List Nat) (f0 : Nat → va_E) (sz : Nat) (A : Nat → Nat) (base : Nat) (SS : Nat → Nat → Bool) (kp : Nat → Bool) (kb : Nat → Nat) (KS : Nat → Nat → Nat → Bool) (hA : MAd A) (hN : MoW cy L f0 A base SS kp kb KS) (slot i what : Int32) : Met l yX6_state (.code yX6_state cX6_state 4 (Option.some FieldType.int) :: wsL_law) { frames := 5, cells := 0, slots := 0, locals := 115 } (va_Pc [.ref (A 0), .int slot, .int i, .int what] (PW D cy L f0 sz)) (va_Qi (fun (r : Int32) (u : List Nat × (Nat → va_E)) => L = u.1 ∧ (∀ b ∈ L, (∀ i, i < 9 → b ≠ A i) → u.2 b = f0 b) ∧ MoW cy L u.2 A base SS kp kb KS ∧ rd_state base SS slot i what r) (PB D (AW L sz)) (AW L sz)) 0 0 (AW L sz) := by
  refine m_start (by decide) (Nat.le_of_ble_eq_true rfl) ?_
  intro p e R Q s m args below meth c ls hsz hR hQ E hr hlk hnm hw hl
  have hl : lv_has ls 4 [(0, .ref (A 0)), (1, .int slot), (2, .int i), (3, .int what)] := hl
  obtain ⟨H, hH⟩ : ∃ X, X = s.heap := ⟨_, rfl⟩
  obtain ⟨locs, hlocs⟩ : ∃ X : List Loc, X = [] := ⟨_, rfl⟩
  have hw0 := hw
  obtain ⟨hB, fr, pb, ns, T, P, B, rr, G, Fa, kb1, ⟨h_o, h_ts, h_ps, h_bs, h_rw, h_gs, h_fa, h_ba, h_it⟩, hTP, hMS, hMK⟩ := hN
  have hb2 := hB.two
  obtain ⟨f, hf0⟩ : ∃ X, X = f0 := ⟨_, rfl⟩
  rw [← hf0] at h_o h_ts h_ps h_bs h_rw h_gs h_fa h_ba h_it
  have hw : WW D (AW L sz) s.heap L f H locs := by rw [hH, hlocs, hf0]; exact hw
  have hF : ∀ b ∈ L, b ≠ (A 0) → b ≠ (A 1) → b ≠ (A 2) → b ≠ (A 3) → b ≠ (A 4) → b ≠ (A 5) → b ≠ (A 6) → f b = f0 b := fun b hb h0 h1 h2 h3 h4 h5 h6 => by rw [hf0]
  suffices hgo : W p l e R s m args below meth c H locs 0 0 Q (F0 m 0 ls []) by rw [hH, hlocs] at hgo; exact hgo
  clear hH hlocs hw0 hf0
  have hLs : ∀ b ∈ L, b ∈ L := fun _ h => h
  have n_o_ts : A 0 ≠ A 1 := hA.ne (by decide) (by decide) (by decide)
  have n_o_ps : A 0 ≠ A 2 := hA.ne (by decide) (by decide) (by decide)
  have n_o_bs : A 0 ≠ A 3 := hA.ne (by decide) (by decide) (by decide)
  have n_o_rw : A 0 ≠ A 4 := hA.ne (by decide) (by decide) (by decide)
  have n_o_gs : A 0 ≠ A 5 := hA.ne (by decide) (by decide) (by decide)
  have n_o_fa : A 0 ≠ A 6 := hA.ne (by decide) (by decide) (by decide)
  have n_o_ba : A 0 ≠ A 7 := hA.ne (by decide) (by decide) (by decide)
  have n_o_it : A 0 ≠ A 8 := hA.ne (by decide) (by decide) (by decide)
  have n_ts_ps : A 1 ≠ A 2 := hA.ne (by decide) (by decide) (by decide)
  have n_ts_bs : A 1 ≠ A 3 := hA.ne (by decide) (by decide) (by decide)
  have n_ts_rw : A 1 ≠ A 4 := hA.ne (by decide) (by decide) (by decide)
  have n_ts_gs : A 1 ≠ A 5 := hA.ne (by decide) (by decide) (by decide)
  have n_ts_fa : A 1 ≠ A 6 := hA.ne (by decide) (by decide) (by decide)
  have n_ts_ba : A 1 ≠ A 7 := hA.ne (by decide) (by decide) (by decide)
  have n_ts_it : A 1 ≠ A 8 := hA.ne (by decide) (by decide) (by decide)
  have n_ps_bs : A 2 ≠ A 3 := hA.ne (by decide) (by decide) (by decide)
  have n_ps_rw : A 2 ≠ A 4 := hA.ne (by decide) (by decide) (by decide)
  have n_ps_gs : A 2 ≠ A 5 := hA.ne (by decide) (by decide) (by decide)
  have n_ps_fa : A 2 ≠ A 6 := hA.ne (by decide) (by decide) (by decide)
  have n_ps_ba : A 2 ≠ A 7 := hA.ne (by decide) (by decide) (by decide)
  have n_ps_it : A 2 ≠ A 8 := hA.ne (by decide) (by decide) (by decide)
  have n_bs_rw : A 3 ≠ A 4 := hA.ne (by decide) (by decide) (by decide)
  have n_bs_gs : A 3 ≠ A 5 := hA.ne (by decide) (by decide) (by decide)
  have n_bs_fa : A 3 ≠ A 6 := hA.ne (by decide) (by decide) (by decide)
  have n_bs_ba : A 3 ≠ A 7 := hA.ne (by decide) (by decide) (by decide)
  have n_bs_it : A 3 ≠ A 8 := hA.ne (by decide) (by decide) (by decide)
  have n_rw_gs : A 4 ≠ A 5 := hA.ne (by decide) (by decide) (by decide)
  have n_rw_fa : A 4 ≠ A 6 := hA.ne (by decide) (by decide) (by decide)
  have n_rw_ba : A 4 ≠ A 7 := hA.ne (by decide) (by decide) (by decide)
  have n_rw_it : A 4 ≠ A 8 := hA.ne (by decide) (by decide) (by decide)
  have n_gs_fa : A 5 ≠ A 6 := hA.ne (by decide) (by decide) (by decide)
  have n_gs_ba : A 5 ≠ A 7 := hA.ne (by decide) (by decide) (by decide)
  have n_gs_it : A 5 ≠ A 8 := hA.ne (by decide) (by decide) (by decide)
  have n_fa_ba : A 6 ≠ A 7 := hA.ne (by decide) (by decide) (by decide)
  have n_fa_it : A 6 ≠ A 8 := hA.ne (by decide) (by decide) (by decide)
  refine lv_iload_n E.1.1 E.1.2.1 dX6_state_0 rfl (lv_at hl 1 rfl) ?_
  refine k_ri (va_runS (As := [.int slot]) (rest := []) E.1 (m_isSlot l D cy L f H.size slot) ⟨callB_of 1 E.1.2.2.2.2 (gd_own w3_40) rfl rfl rfl (E.1.2.2.2.2 _ w1_10) (E.1.2.2.2.2 _ w3_38) hd_X6_isSlot (by rw [hR]; exact ⟨Nat.le_of_ble_eq_true rfl, Nat.le_of_ble_eq_true rfl⟩), E.1.2.2.2.2 _ w3_39⟩ (pw_pre E.2 hw) rfl rfl hl.1 rfl (lv_room (Nat.le_of_ble_eq_true rfl)) dX6_state_1 ⟨Nat.zero_le _, Nat.zero_le _⟩) ?_
  refine k_if1 (tgt := 9) E dX6_state_4 (by decide) (fun c4 => ?_) (fun c4 => ?_)
  · obtain ⟨j, hj, rfl⟩ := in_ex (by decide) c4
    have hS1 := (hMS j (by omega)).1
    have hS1a := hS1.1.1
    have hS1b := hS1.2.1
    have hS1c := hS1.2.2.1
    refine lv_aload_n E.1.1 E.1.2.1 dX6_state_9 rfl (lv_at hl 0 rfl) ?_
    refine lv_iload_n E.1.1 E.1.2.1 dX6_state_10 rfl (lv_at hl 1 rfl) ?_
    refine k_mv hw (va_runV (As := [.int (nI j)]) (rest := []) E.1 (m_layMachine l D cy L f H.size A base fr pb ns T P B rr G hA hTP j (SS j) (by omega) (by omega) (by omega) hS1 h_o h_ts h_ps h_bs h_rw h_gs) ⟨callB_of 1 E.1.2.2.2.2 (gd_own w3_71) rfl rfl rfl (E.1.2.2.2.2 _ w1_10) (E.1.2.2.2.2 _ w3_68) hd_X6_layMachine (by rw [hR]; exact ⟨Nat.le_of_ble_eq_true rfl, Nat.le_of_ble_eq_true rfl⟩), E.1.2.2.2.2 _ w3_70, E.1.2.2.2.2 _ ws_31⟩ (pw_preV (q := (RX6, TX6, 12)) E.2 hw h_o rfl) rfl rfl hl.1 rfl (lv_room (Nat.le_of_ble_eq_true rfl)) dX6_state_11 (by rw [hR]; exact ⟨Nat.le_of_ble_eq_true rfl, Nat.le_of_ble_eq_true rfl⟩)) (fun L1 f H locs hp hw => ?_)
    obtain ⟨hL1, hfr, fr2, pb2, ns2, T2, P2, B2, rr2, G2, h_o, h_ts, h_ps, h_bs, h_rw, h_gs, hTP2, hAG2, hS18, hns0, hns65, hML⟩ := hp
    have hL1 : L = L1 := hL1
    subst hL1
    have h_o : cel L f (A 0) (.inr (6, [.int (nI base), .ref (A 1), .ref (A 2), .ref (A 3), .ref (A 4), .int (nI fr2), .int (nI pb2), .ref (A 5), .int (nI ns2), .ref (A 6), .ref (A 7), .ref (A 8)])) := h_o
    have h_ts : cel L f (A 1) (.inl (cy 0, 84, .inl (fun k => nI (T2 k)))) := h_ts
    have h_ps : cel L f (A 2) (.inl (cy 0, 84, .inl (fun k => nI (P2 k)))) := h_ps
    have h_bs : cel L f (A 3) (.inl (cy 1, 252, .inr (.inl (rw3 B2)))) := h_bs
    have h_rw : cel L f (A 4) (.inl (cy 2, 4096, .inl (fun k => b2i (rr2 k)))) := h_rw
    have h_gs : cel L f (A 5) (.inl (cy 0, 325, .inl G2)) := h_gs
    have h_fa := h_fa.keep (fun _ h => h) (hfr _ h_fa.1 (Ne.symm n_o_fa) (Ne.symm n_ts_fa) (Ne.symm n_ps_fa) (Ne.symm n_bs_fa) (Ne.symm n_rw_fa) (Ne.symm n_gs_fa))
    have h_ba := h_ba.keep (fun _ h => h) (hfr _ h_ba.1 (Ne.symm n_o_ba) (Ne.symm n_ts_ba) (Ne.symm n_ps_ba) (Ne.symm n_bs_ba) (Ne.symm n_rw_ba) (Ne.symm n_gs_ba))
    have h_it := h_it.keep (fun _ h => h) (hfr _ h_it.1 (Ne.symm n_o_it) (Ne.symm n_ts_it) (Ne.symm n_ps_it) (Ne.symm n_bs_it) (Ne.symm n_rw_it) (Ne.symm n_gs_it))
    have hF : ∀ b ∈ L, b ≠ (A 0) → b ≠ (A 1) → b ≠ (A 2) → b ≠ (A 3) → b ≠ (A 4) → b ≠ (A 5) → b ≠ (A 6) → f b = f0 b := fun b hb h0 h1 h2 h3 h4 h5 h6 => (hfr b (hLs b hb) h0 h1 h2 h3 h4 h5).trans (hF b hb h0 h1 h2 h3 h4 h5 h6)
    have hMS2 := hMS.ag hAG2
    have hMK2 := hMK.ag (fun x h1 _ => hAG2 x h1)
    obtain ⟨n1, hMn⟩ := (hMS j (by omega)).2
    obtain ⟨rfl, hMI⟩ := hML.small (by omega) hS1.fits hMn
    refine lv_iload_n E.1.1 E.1.2.1 dX6_state_14 rfl (lv_at hl 2 rfl) ?_
    refine lv_iconst (v := nI 0) E.1.1 E.1.2.1 dX6_state_15 rfl ?_
    refine lv_aload_n E.1.1 E.1.2.1 dX6_state_16 rfl (lv_at hl 0 rfl) ?_
    refine k_get (v := .int (nI ns2)) E inlX6 rfl 8 (by decide) w3_0 rfl hw h_o rfl dX6_state_17 ?_
    refine lv_iconst (v := nI 1) E.1.1 E.1.2.1 dX6_state_20 rfl ?_
    refine k_sub E dX6_state_21 (by omega) ?_
    refine k_ri (va_runS (As := [.int i, .int (nI 0), .int (nI (ns2 - 1))]) (rest := []) E.1 (m_in l D cy L f H.size i (nI 0) (nI (ns2 - 1))) ⟨callB_of 3 E.1.2.2.2.2 (gd_own w3_43) rfl rfl rfl (E.1.2.2.2.2 _ w1_10) (E.1.2.2.2.2 _ w3_41) hd_X6_in (by rw [hR]; exact ⟨Nat.le_of_ble_eq_true rfl, Nat.le_of_ble_eq_true rfl⟩), E.1.2.2.2.2 _ w3_42⟩ (pw_pre E.2 hw) rfl rfl hl.1 rfl (lv_room (Nat.le_of_ble_eq_true rfl)) dX6_state_22 ⟨Nat.zero_le _, Nat.zero_le _⟩) ?_
    refine k_if1 (tgt := 30) E dX6_state_25 (by decide) (fun c25 => ?_) (fun c25 => ?_)
    · obtain ⟨x, hx, rfl⟩ := in_ex (n := ns2 - 1) (by omega) c25
      refine lv_iload_n E.1.1 E.1.2.1 dX6_state_30 rfl (lv_at hl 3 rfl) ?_
      refine lv_iconst (v := nI 0) E.1.1 E.1.2.1 dX6_state_31 rfl ?_
      refine lv_bipush (v := nI 7) E.1.1 E.1.2.1 dX6_state_32 rfl ?_
      refine k_ri (va_runS (As := [.int what, .int (nI 0), .int (nI 7)]) (rest := []) E.1 (m_in l D cy L f H.size what (nI 0) (nI 7)) ⟨callB_of 3 E.1.2.2.2.2 (gd_own w3_43) rfl rfl rfl (E.1.2.2.2.2 _ w1_10) (E.1.2.2.2.2 _ w3_41) hd_X6_in (by rw [hR]; exact ⟨Nat.le_of_ble_eq_true rfl, Nat.le_of_ble_eq_true rfl⟩), E.1.2.2.2.2 _ w3_42⟩ (pw_pre E.2 hw) rfl rfl hl.1 rfl (lv_room (Nat.le_of_ble_eq_true rfl)) dX6_state_34 ⟨Nat.zero_le _, Nat.zero_le _⟩) ?_
      refine k_if1 (tgt := 43) E dX6_state_37 (by decide) (fun c37 => ?_) (fun c37 => ?_)
      · obtain ⟨wh, hwh, rfl⟩ := in_ex (by decide) c37
        refine lv_iload_n E.1.1 E.1.2.1 dX6_state_43 rfl (lv_at hl 3 rfl) ?_
        refine lv_iconst (v := nI 5) E.1.1 E.1.2.1 dX6_state_44 rfl ?_
        refine k_ge (tgt := 72) E dX6_state_45 (by decide) (by omega) (by omega) (fun c45 => ?_) (fun c45 => ?_)
        · refine lv_iload_n E.1.1 E.1.2.1 dX6_state_72 rfl (lv_at hl 3 rfl) ?_
          refine lv_iconst (v := nI 5) E.1.1 E.1.2.1 dX6_state_73 rfl ?_
          refine k_ne (tgt := 91) E dX6_state_74 (by decide) (by omega) (by omega) (fun c74 => ?_) (fun c74 => ?_)
          · refine lv_aload_n E.1.1 E.1.2.1 dX6_state_91 rfl (lv_at hl 0 rfl) ?_
            refine lv_iload_n E.1.1 E.1.2.1 dX6_state_92 rfl (lv_at hl 3 rfl) ?_
            refine lv_bipush (v := nI 7) E.1.1 E.1.2.1 dX6_state_93 rfl ?_
            refine k_ne (tgt := 102) E dX6_state_95 (by decide) (by omega) (by omega) (fun c95 => ?_) (fun c95 => ?_)
            · refine lv_iconst (v := nI 0) E.1.1 E.1.2.1 dX6_state_102 rfl ?_
              refine k_top E (b2i false) rfl ?_
              refine k_mv hw (va_runV (As := [.int (b2i false)]) (rest := []) E.1 (m_layFar0 l D cy L f H.size A base fr2 pb2 ns2 T2 P2 B2 rr2 G2 hA hTP2 (SS j) Fa (by omega) (by omega) hMn hMI h_o h_ts h_ps h_bs h_gs h_fa) ⟨callB_of 1 E.1.2.2.2.2 (gd_own w3_134) rfl rfl rfl (E.1.2.2.2.2 _ w1_10) (E.1.2.2.2.2 _ w3_131) hd_X6_layFar (by rw [hR]; exact ⟨Nat.le_of_ble_eq_true rfl, Nat.le_of_ble_eq_true rfl⟩), E.1.2.2.2.2 _ w3_133, E.1.2.2.2.2 _ ws_39⟩ (pw_preV (q := (RX6, TX6, 12)) E.2 hw h_o rfl) rfl rfl hl.1 rfl (lv_room (Nat.le_of_ble_eq_true rfl)) dX6_state_103 (by rw [hR]; exact ⟨Nat.le_of_ble_eq_true rfl, Nat.le_of_ble_eq_true rfl⟩)) (fun L1 f H locs hp hw => ?_)
              obtain ⟨hL1, hfr, F2, h_fa, hF2⟩ := hp
              have hL1 : L = L1 := hL1
              subst hL1
              have h_fa : cel L f (A 6) (.inl (cy 0, 65, .inl F2)) := h_fa
              have h_o := h_o.keep (fun _ h => h) (hfr _ h_o.1 n_o_fa)
              have h_ts := h_ts.keep (fun _ h => h) (hfr _ h_ts.1 n_ts_fa)
              have h_ps := h_ps.keep (fun _ h => h) (hfr _ h_ps.1 n_ps_fa)
              have h_bs := h_bs.keep (fun _ h => h) (hfr _ h_bs.1 n_bs_fa)
              have h_rw := h_rw.keep (fun _ h => h) (hfr _ h_rw.1 n_rw_fa)
              have h_gs := h_gs.keep (fun _ h => h) (hfr _ h_gs.1 n_gs_fa)
              have h_ba := h_ba.keep (fun _ h => h) (hfr _ h_ba.1 (Ne.symm n_fa_ba))
              have h_it := h_it.keep (fun _ h => h) (hfr _ h_it.1 (Ne.symm n_fa_it))
              have hF : ∀ b ∈ L, b ≠ (A 0) → b ≠ (A 1) → b ≠ (A 2) → b ≠ (A 3) → b ≠ (A 4) → b ≠ (A 5) → b ≠ (A 6) → f b = f0 b := fun b hb h0 h1 h2 h3 h4 h5 h6 => (hfr b (hLs b hb) h6).trans (hF b hb h0 h1 h2 h3 h4 h5 h6)
              refine lv_aload_n E.1.1 E.1.2.1 dX6_state_106 rfl (lv_at hl 0 rfl) ?_
              refine k_get (v := .ref (A 6)) E inlX6 rfl 9 (by decide) w3_1 rfl hw h_o rfl dX6_state_107 ?_
              refine lv_iload_n E.1.1 E.1.2.1 dX6_state_110 rfl (lv_at hl 2 rfl) ?_
              refine k_iald E hw (v := stp (sg 0) (sg x) (trn (SS j) base (ns2 * base)).2.2 base ns2) h_fa (by omega) (by omega) (hF2 x (by omega)) dX6_state_111 ?_
              exact k_miret E hQ hlk hr hw (Nat.le_of_ble_eq_true rfl) (Nat.le_of_ble_eq_true rfl) (⟨rfl, fun b hb h => hF b hb (h 0 (by decide)) (h 1 (by decide)) (h 2 (by decide)) (h 3 (by decide)) (h 4 (by decide)) (h 5 (by decide)) (h 6 (by decide)), ⟨hB, _, _, _, _, _, _, _, _, _, _, ⟨h_o, h_ts, h_ps, h_bs, h_rw, h_gs, h_fa, h_ba, h_it⟩, hTP2, hMS2, hMK2⟩, by unfold rd_state; rw [if_neg (inS_t hj), ix_nI (by omega)]; refine ⟨ns2, hMn, ?_⟩; rw [if_neg (by rw [in_t (by omega) hx]; decide), if_neg (by rw [in_t (by decide) hwh]; decide), ix_nI (by omega), ix_nI (by omega)]; exact Or.inr (Or.inr (Or.inl ⟨by omega, rfl⟩))⟩) dX6_state_112
            · refine lv_iconst (v := nI 1) E.1.1 E.1.2.1 dX6_state_98 rfl ?_
              refine lv_goto (tgt := 103) E.1.1 E.1.2.1 dX6_state_99 (by decide) ?_
              refine k_top E (b2i true) rfl ?_
              refine k_mv hw (va_runV (As := [.int (b2i true)]) (rest := []) E.1 (m_layFar1 l D cy L f H.size A base fr2 pb2 ns2 T2 P2 B2 rr2 G2 hA hTP2 (SS j) Fa (by omega) (by omega) hMn hMI h_o h_ts h_ps h_bs h_gs h_fa) ⟨callB_of 1 E.1.2.2.2.2 (gd_own w3_134) rfl rfl rfl (E.1.2.2.2.2 _ w1_10) (E.1.2.2.2.2 _ w3_131) hd_X6_layFar (by rw [hR]; exact ⟨Nat.le_of_ble_eq_true rfl, Nat.le_of_ble_eq_true rfl⟩), E.1.2.2.2.2 _ w3_133, E.1.2.2.2.2 _ ws_39⟩ (pw_preV (q := (RX6, TX6, 12)) E.2 hw h_o rfl) rfl rfl hl.1 rfl (lv_room (Nat.le_of_ble_eq_true rfl)) dX6_state_103 (by rw [hR]; exact ⟨Nat.le_of_ble_eq_true rfl, Nat.le_of_ble_eq_true rfl⟩)) (fun L1 f H locs hp hw => ?_)
              obtain ⟨hL1, hfr, F2, h_fa, hF2⟩ := hp
              have hL1 : L = L1 := hL1
              subst hL1
              have h_fa : cel L f (A 6) (.inl (cy 0, 65, .inl F2)) := h_fa
              have h_o := h_o.keep (fun _ h => h) (hfr _ h_o.1 n_o_fa)
              have h_ts := h_ts.keep (fun _ h => h) (hfr _ h_ts.1 n_ts_fa)
              have h_ps := h_ps.keep (fun _ h => h) (hfr _ h_ps.1 n_ps_fa)
              have h_bs := h_bs.keep (fun _ h => h) (hfr _ h_bs.1 n_bs_fa)
              have h_rw := h_rw.keep (fun _ h => h) (hfr _ h_rw.1 n_rw_fa)
              have h_gs := h_gs.keep (fun _ h => h) (hfr _ h_gs.1 n_gs_fa)
              have h_ba := h_ba.keep (fun _ h => h) (hfr _ h_ba.1 (Ne.symm n_fa_ba))
              have h_it := h_it.keep (fun _ h => h) (hfr _ h_it.1 (Ne.symm n_fa_it))
              have hF : ∀ b ∈ L, b ≠ (A 0) → b ≠ (A 1) → b ≠ (A 2) → b ≠ (A 3) → b ≠ (A 4) → b ≠ (A 5) → b ≠ (A 6) → f b = f0 b := fun b hb h0 h1 h2 h3 h4 h5 h6 => (hfr b (hLs b hb) h6).trans (hF b hb h0 h1 h2 h3 h4 h5 h6)
              refine lv_aload_n E.1.1 E.1.2.1 dX6_state_106 rfl (lv_at hl 0 rfl) ?_
              refine k_get (v := .ref (A 6)) E inlX6 rfl 9 (by decide) w3_1 rfl hw h_o rfl dX6_state_107 ?_
              refine lv_iload_n E.1.1 E.1.2.1 dX6_state_110 rfl (lv_at hl 2 rfl) ?_
              refine k_iald E hw (v := stp (sg x) (gq (fun x => (trn (SS j) base (ns2 * base)).2.1 x 0) ns2) (trn (SS j) base (ns2 * base)).2.2 base ns2) h_fa (by omega) (by omega) (hF2 x (by omega)) dX6_state_111 ?_
              exact k_miret E hQ hlk hr hw (Nat.le_of_ble_eq_true rfl) (Nat.le_of_ble_eq_true rfl) (⟨rfl, fun b hb h => hF b hb (h 0 (by decide)) (h 1 (by decide)) (h 2 (by decide)) (h 3 (by decide)) (h 4 (by decide)) (h 5 (by decide)) (h 6 (by decide)), ⟨hB, _, _, _, _, _, _, _, _, _, _, ⟨h_o, h_ts, h_ps, h_bs, h_rw, h_gs, h_fa, h_ba, h_it⟩, hTP2, hMS2, hMK2⟩, by unfold rd_state; rw [if_neg (inS_t hj), ix_nI (by omega)]; refine ⟨ns2, hMn, ?_⟩; rw [if_neg (by rw [in_t (by omega) hx]; decide), if_neg (by rw [in_t (by decide) hwh]; decide), ix_nI (by omega), ix_nI (by omega)]; exact Or.inr (Or.inr (Or.inr ⟨by omega, rfl⟩))⟩) dX6_state_112
          · refine lv_aload_n E.1.1 E.1.2.1 dX6_state_77 rfl (lv_at hl 0 rfl) ?_
            refine lv_iload_n E.1.1 E.1.2.1 dX6_state_78 rfl (lv_at hl 2 rfl) ?_
            refine k_ri (va_runV (As := [.int (nI x)]) (rest := []) E.1 (m_isGood l D cy L f H.size A base fr2 pb2 ns2 T2 P2 B2 rr2 G2 hA hTP2 x ((trn (SS j) base (ns2 * base)).2.1 x) (hMI.2.1 x (by omega)) (by omega) h_o h_ts h_ps h_bs) ⟨callB_of 1 E.1.2.2.2.2 (gd_own w3_122) rfl rfl rfl (E.1.2.2.2.2 _ w1_10) (E.1.2.2.2.2 _ w3_119) hd_X6_isGood (by rw [hR]; exact ⟨Nat.le_of_ble_eq_true rfl, Nat.le_of_ble_eq_true rfl⟩), E.1.2.2.2.2 _ w3_121, E.1.2.2.2.2 _ ws_37⟩ (pw_preV (q := (RX6, TX6, 12)) E.2 hw h_o rfl) rfl rfl hl.1 rfl (lv_room (Nat.le_of_ble_eq_true rfl)) dX6_state_79 ⟨Nat.zero_le _, Nat.zero_le _⟩) ?_
            refine k_if0 (tgt := 89) E dX6_state_82 (by decide) (fun c82 => ?_) (fun c82 => ?_)
            · refine lv_iconst (v := nI 0) E.1.1 E.1.2.1 dX6_state_89 rfl ?_
              exact k_miret E hQ hlk hr hw (Nat.le_of_ble_eq_true rfl) (Nat.le_of_ble_eq_true rfl) (⟨rfl, fun b hb h => hF b hb (h 0 (by decide)) (h 1 (by decide)) (h 2 (by decide)) (h 3 (by decide)) (h 4 (by decide)) (h 5 (by decide)) (h 6 (by decide)), ⟨hB, _, _, _, _, _, _, _, _, _, _, ⟨h_o, h_ts, h_ps, h_bs, h_rw, h_gs, h_fa, h_ba, h_it⟩, hTP2, hMS2, hMK2⟩, by unfold rd_state; rw [if_neg (inS_t hj), ix_nI (by omega)]; refine ⟨ns2, hMn, ?_⟩; rw [if_neg (by rw [in_t (by omega) hx]; decide), if_neg (by rw [in_t (by decide) hwh]; decide), ix_nI (by omega), ix_nI (by omega)]; exact Or.inr (Or.inl ⟨by omega, by rw [c82]; rfl⟩)⟩) dX6_state_90
            · refine lv_iconst (v := nI 1) E.1.1 E.1.2.1 dX6_state_85 rfl ?_
              refine lv_goto (tgt := 90) E.1.1 E.1.2.1 dX6_state_86 (by decide) ?_
              exact k_miret E hQ hlk hr hw (Nat.le_of_ble_eq_true rfl) (Nat.le_of_ble_eq_true rfl) (⟨rfl, fun b hb h => hF b hb (h 0 (by decide)) (h 1 (by decide)) (h 2 (by decide)) (h 3 (by decide)) (h 4 (by decide)) (h 5 (by decide)) (h 6 (by decide)), ⟨hB, _, _, _, _, _, _, _, _, _, _, ⟨h_o, h_ts, h_ps, h_bs, h_rw, h_gs, h_fa, h_ba, h_it⟩, hTP2, hMS2, hMK2⟩, by unfold rd_state; rw [if_neg (inS_t hj), ix_nI (by omega)]; refine ⟨ns2, hMn, ?_⟩; rw [if_neg (by rw [in_t (by omega) hx]; decide), if_neg (by rw [in_t (by decide) hwh]; decide), ix_nI (by omega), ix_nI (by omega)]; exact Or.inr (Or.inl ⟨by omega, by rw [c82]; rfl⟩)⟩) dX6_state_90
        · refine lv_iload_n E.1.1 E.1.2.1 dX6_state_48 rfl (lv_at hl 3 rfl) ?_
          refine lv_aload_n E.1.1 E.1.2.1 dX6_state_49 rfl (lv_at hl 0 rfl) ?_
          refine k_get (v := .int (nI base)) E inlX6 rfl 0 (by decide) w2_232 rfl hw h_o rfl dX6_state_50 ?_
          refine k_ge (tgt := 69) E dX6_state_53 (by decide) (by omega) (by omega) (fun c53 => ?_) (fun c53 => ?_)
          · refine lv_bipush (v := -3) E.1.1 E.1.2.1 dX6_state_69 rfl ?_
            exact k_miret E hQ hlk hr hw (Nat.le_of_ble_eq_true rfl) (Nat.le_of_ble_eq_true rfl) (⟨rfl, fun b hb h => hF b hb (h 0 (by decide)) (h 1 (by decide)) (h 2 (by decide)) (h 3 (by decide)) (h 4 (by decide)) (h 5 (by decide)) (h 6 (by decide)), ⟨hB, _, _, _, _, _, _, _, _, _, _, ⟨h_o, h_ts, h_ps, h_bs, h_rw, h_gs, h_fa, h_ba, h_it⟩, hTP2, hMS2, hMK2⟩, by unfold rd_state; rw [if_neg (inS_t hj), ix_nI (by omega)]; refine ⟨ns2, hMn, ?_⟩; rw [if_neg (by rw [in_t (by omega) hx]; decide), if_neg (by rw [in_t (by decide) hwh]; decide), ix_nI (by omega), ix_nI (by omega)]; exact Or.inl ⟨by omega, Or.inr ⟨by omega, rfl⟩⟩⟩) dX6_state_71
          · refine lv_aload_n E.1.1 E.1.2.1 dX6_state_56 rfl (lv_at hl 0 rfl) ?_
            refine k_get (v := .ref (A 5)) E inlX6 rfl 7 (by decide) w2_239 rfl hw h_o rfl dX6_state_57 ?_
            refine lv_iconst (v := nI 5) E.1.1 E.1.2.1 dX6_state_60 rfl ?_
            refine lv_iload_n E.1.1 E.1.2.1 dX6_state_61 rfl (lv_at hl 2 rfl) ?_
            refine k_mul E dX6_state_62 ?_
            refine lv_iload_n E.1.1 E.1.2.1 dX6_state_63 rfl (lv_at hl 3 rfl) ?_
            refine k_add E dX6_state_64 ?_
            refine k_iald E hw (v := nI ((trn (SS j) base (ns2 * base)).2.2 (x * base + wh))) h_gs (by omega) (by omega) (mi_go hMI (by omega) (by omega)) dX6_state_65 ?_
            refine lv_goto (tgt := 71) E.1.1 E.1.2.1 dX6_state_66 (by decide) ?_
            exact k_miret E hQ hlk hr hw (Nat.le_of_ble_eq_true rfl) (Nat.le_of_ble_eq_true rfl) (⟨rfl, fun b hb h => hF b hb (h 0 (by decide)) (h 1 (by decide)) (h 2 (by decide)) (h 3 (by decide)) (h 4 (by decide)) (h 5 (by decide)) (h 6 (by decide)), ⟨hB, _, _, _, _, _, _, _, _, _, _, ⟨h_o, h_ts, h_ps, h_bs, h_rw, h_gs, h_fa, h_ba, h_it⟩, hTP2, hMS2, hMK2⟩, by unfold rd_state; rw [if_neg (inS_t hj), ix_nI (by omega)]; refine ⟨ns2, hMn, ?_⟩; rw [if_neg (by rw [in_t (by omega) hx]; decide), if_neg (by rw [in_t (by decide) hwh]; decide), ix_nI (by omega), ix_nI (by omega)]; exact Or.inl ⟨by omega, Or.inl ⟨by omega, rfl⟩⟩⟩) dX6_state_71
      · refine lv_bipush (v := -2) E.1.1 E.1.2.1 dX6_state_40 rfl ?_
        exact k_miret E hQ hlk hr hw (Nat.le_of_ble_eq_true rfl) (Nat.le_of_ble_eq_true rfl) (⟨rfl, fun b hb h => hF b hb (h 0 (by decide)) (h 1 (by decide)) (h 2 (by decide)) (h 3 (by decide)) (h 4 (by decide)) (h 5 (by decide)) (h 6 (by decide)), ⟨hB, _, _, _, _, _, _, _, _, _, _, ⟨h_o, h_ts, h_ps, h_bs, h_rw, h_gs, h_fa, h_ba, h_it⟩, hTP2, hMS2, hMK2⟩, by unfold rd_state; rw [if_neg (inS_t hj), ix_nI (by omega)]; refine ⟨ns2, hMn, ?_⟩; rw [if_neg (by rw [in_t (by omega) hx]; decide), if_pos (show i32in what 0 (nI 7) = false from c37)]⟩) dX6_state_42
    · refine lv_iconst (v := -1) E.1.1 E.1.2.1 dX6_state_28 rfl ?_
      exact k_miret E hQ hlk hr hw (Nat.le_of_ble_eq_true rfl) (Nat.le_of_ble_eq_true rfl) (⟨rfl, fun b hb h => hF b hb (h 0 (by decide)) (h 1 (by decide)) (h 2 (by decide)) (h 3 (by decide)) (h 4 (by decide)) (h 5 (by decide)) (h 6 (by decide)), ⟨hB, _, _, _, _, _, _, _, _, _, _, ⟨h_o, h_ts, h_ps, h_bs, h_rw, h_gs, h_fa, h_ba, h_it⟩, hTP2, hMS2, hMK2⟩, by unfold rd_state; rw [if_neg (inS_t hj), ix_nI (by omega)]; refine ⟨ns2, hMn, ?_⟩; rw [if_pos (show i32in i 0 (nI (ns2 - 1)) = false from c25)]⟩) dX6_state_29
  · refine lv_iconst (v := -1) E.1.1 E.1.2.1 dX6_state_7 rfl ?_
    exact k_miret E hQ hlk hr hw (Nat.le_of_ble_eq_true rfl) (Nat.le_of_ble_eq_true rfl) (⟨rfl, fun b hb h => hF b hb (h 0 (by decide)) (h 1 (by decide)) (h 2 (by decide)) (h 3 (by decide)) (h 4 (by decide)) (h 5 (by decide)) (h 6 (by decide)), ⟨hB, _, _, _, _, _, _, _, _, _, _, ⟨h_o, h_ts, h_ps, h_bs, h_rw, h_gs, h_fa, h_ba, h_it⟩, hTP, hMS, hMK⟩, by unfold rd_state; rw [if_pos (show inS _ = false from c4)]⟩) dX6_state_8

set_option maxHeartbeats 4000000 in
set_option maxRecDepth 100000 in
theorem m_alike (l : Launch) (D : va_G) (cy : Nat → ClassId) (L : List Nat) (f0 : Nat → va_E) (sz : Nat) (A : Nat → Nat) (base : Nat) (SS : Nat → Nat → Bool) (kp : Nat → Bool) (kb : Nat → Nat) (KS : Nat → Nat → Nat → Bool) (hA : MAd A) (hN : MoW cy L f0 A base SS kp kb KS) (one other what : Int32) : Met l yX6_alike (.code yX6_alike cX6_alike 10 (Option.some FieldType.int) :: wsL_law) { frames := 2, cells := 0, slots := 0, locals := 47 } (va_Pc [.ref (A 0), .int one, .int other, .int what] (PW D cy L f0 sz)) (va_Qi (fun (r : Int32) (u : List Nat × (Nat → va_E)) => L = u.1 ∧ (∀ b ∈ L, (∀ i, i < 9 → b ≠ A i) → u.2 b = f0 b) ∧ MoW cy L u.2 A base SS kp kb KS ∧ rd_alike SS one other what r) (PB D (AW L sz)) (AW L sz)) 0 0 (AW L sz) := by
  refine m_start (by decide) (Nat.le_of_ble_eq_true rfl) ?_
  intro p e R Q s m args below meth c ls hsz hR hQ E hr hlk hnm hw hl
  have hl : lv_has ls 10 [(0, .ref (A 0)), (1, .int one), (2, .int other), (3, .int what)] := hl
  obtain ⟨H, hH⟩ : ∃ X, X = s.heap := ⟨_, rfl⟩
  obtain ⟨locs, hlocs⟩ : ∃ X : List Loc, X = [] := ⟨_, rfl⟩
  have hw0 := hw
  obtain ⟨hB, fr, pb, ns, T, P, B, rr, G, Fa, kb1, ⟨h_o, h_ts, h_ps, h_bs, h_rw, h_gs, h_fa, h_ba, h_it⟩, hTP, hMS, hMK⟩ := hN
  have hb2 := hB.two
  obtain ⟨f, hf0⟩ : ∃ X, X = f0 := ⟨_, rfl⟩
  rw [← hf0] at h_o h_ts h_ps h_bs h_rw h_gs h_fa h_ba h_it
  have hw : WW D (AW L sz) s.heap L f H locs := by rw [hH, hlocs, hf0]; exact hw
  have hF : ∀ b ∈ L, f b = f0 b := fun b hb => by rw [hf0]
  suffices hgo : W p l e R s m args below meth c H locs 0 0 Q (F0 m 0 ls []) by rw [hH, hlocs] at hgo; exact hgo
  clear hH hlocs hw0 hf0
  have hLs : ∀ b ∈ L, b ∈ L := fun _ h => h
  refine lv_iload_n E.1.1 E.1.2.1 dX6_alike_0 rfl (lv_at hl 1 rfl) ?_
  refine k_ri (va_runS (As := [.int one]) (rest := []) E.1 (m_isSlot l D cy L f H.size one) ⟨callB_of 1 E.1.2.2.2.2 (gd_own w3_40) rfl rfl rfl (E.1.2.2.2.2 _ w1_10) (E.1.2.2.2.2 _ w3_38) hd_X6_isSlot (by rw [hR]; exact ⟨Nat.le_of_ble_eq_true rfl, Nat.le_of_ble_eq_true rfl⟩), E.1.2.2.2.2 _ w3_39⟩ (pw_pre E.2 hw) rfl rfl hl.1 rfl (lv_room (Nat.le_of_ble_eq_true rfl)) dX6_alike_1 ⟨Nat.zero_le _, Nat.zero_le _⟩) ?_
  refine k_if0 (tgt := 14) E dX6_alike_4 (by decide) (fun c4 => ?_) (fun c4 => ?_)
  · refine lv_iconst (v := -1) E.1.1 E.1.2.1 dX6_alike_14 rfl ?_
    exact k_miret E hQ hlk hr hw (Nat.le_of_ble_eq_true rfl) (Nat.le_of_ble_eq_true rfl) (⟨rfl, fun b hb _ => hF b hb, ⟨hB, _, _, _, _, _, _, _, _, _, _, ⟨h_o, h_ts, h_ps, h_bs, h_rw, h_gs, h_fa, h_ba, h_it⟩, hTP, hMS, hMK⟩, by unfold rd_alike; rw [if_pos (Or.inl (show inS _ = false from c4))]⟩) dX6_alike_15
  · obtain ⟨j, hj, rfl⟩ := in_ex (by decide) c4
    refine lv_iload_n E.1.1 E.1.2.1 dX6_alike_7 rfl (lv_at hl 2 rfl) ?_
    refine k_ri (va_runS (As := [.int other]) (rest := []) E.1 (m_isSlot l D cy L f H.size other) ⟨callB_of 1 E.1.2.2.2.2 (gd_own w3_40) rfl rfl rfl (E.1.2.2.2.2 _ w1_10) (E.1.2.2.2.2 _ w3_38) hd_X6_isSlot (by rw [hR]; exact ⟨Nat.le_of_ble_eq_true rfl, Nat.le_of_ble_eq_true rfl⟩), E.1.2.2.2.2 _ w3_39⟩ (pw_pre E.2 hw) rfl rfl hl.1 rfl (lv_room (Nat.le_of_ble_eq_true rfl)) dX6_alike_8 ⟨Nat.zero_le _, Nat.zero_le _⟩) ?_
    refine k_if1 (tgt := 16) E dX6_alike_11 (by decide) (fun c11 => ?_) (fun c11 => ?_)
    · obtain ⟨j2, hj2, rfl⟩ := in_ex (by decide) c11
      refine lv_iload_n E.1.1 E.1.2.1 dX6_alike_16 rfl (lv_at hl 3 rfl) ?_
      refine lv_iconst (v := nI 0) E.1.1 E.1.2.1 dX6_alike_17 rfl ?_
      refine lv_iconst (v := nI 4) E.1.1 E.1.2.1 dX6_alike_18 rfl ?_
      refine k_ri (va_runS (As := [.int what, .int (nI 0), .int (nI 4)]) (rest := []) E.1 (m_in l D cy L f H.size what (nI 0) (nI 4)) ⟨callB_of 3 E.1.2.2.2.2 (gd_own w3_43) rfl rfl rfl (E.1.2.2.2.2 _ w1_10) (E.1.2.2.2.2 _ w3_41) hd_X6_in (by rw [hR]; exact ⟨Nat.le_of_ble_eq_true rfl, Nat.le_of_ble_eq_true rfl⟩), E.1.2.2.2.2 _ w3_42⟩ (pw_pre E.2 hw) rfl rfl hl.1 rfl (lv_room (Nat.le_of_ble_eq_true rfl)) dX6_alike_19 ⟨Nat.zero_le _, Nat.zero_le _⟩) ?_
      refine k_if1 (tgt := 28) E dX6_alike_22 (by decide) (fun c22 => ?_) (fun c22 => ?_)
      · obtain ⟨wh, hwh, rfl⟩ := in_ex (by decide) c22
        have hS1 := (hMS j (by omega)).1
        have hS1a := hS1.1.1
        have hS1b := hS1.2.1
        have hS1c := hS1.2.2.1
        have hS2 := (hMS j2 (by omega)).1
        have hS2a := hS2.1.1
        have hS2b := hS2.2.1
        have hS2c := hS2.2.2.1
        have hz := tog hS1a hS1b hS2a hS2b
        refine lv_bipush (v := -6) E.1.1 E.1.2.1 dX6_alike_28 rfl ?_
        refine lv_istore (lv' := [(4, .int (-6)), (0, .ref (A 0)), (1, .int (nI j)), (2, .int (nI j2)), (3, .int (nI wh))]) E.1.1 E.1.2.1 dX6_alike_30 hl (by decide) rfl (fun ls hl => ?_)
        refine lv_bipush (v := -6) E.1.1 E.1.2.1 dX6_alike_32 rfl ?_
        refine lv_istore (lv' := [(5, .int (-6)), (4, .int (-6)), (0, .ref (A 0)), (1, .int (nI j)), (2, .int (nI j2)), (3, .int (nI wh))]) E.1.1 E.1.2.1 dX6_alike_34 hl (by decide) rfl (fun ls hl => ?_)
        refine lv_iconst (v := nI 1) E.1.1 E.1.2.1 dX6_alike_36 rfl ?_
        refine k_top E (b2i (dB (∀ n, (max (T j) (T j2) + P j / Nat.gcd (P j) (P j2) * P j2) ≤ n → n < (max (T j) (T j2) + P j / Nat.gcd (P j) (P j2) * P j2) → jw 2 (SS j n) (SS j2 n) = false))) (by rw [dB_t (fun n h1 h2 => absurd h1 (by omega))]; rfl) ?_
        refine lv_istore (lv' := [(6, .int (b2i (dB (∀ n, (max (T j) (T j2) + P j / Nat.gcd (P j) (P j2) * P j2) ≤ n → n < (max (T j) (T j2) + P j / Nat.gcd (P j) (P j2) * P j2) → jw 2 (SS j n) (SS j2 n) = false)))), (5, .int (-6)), (4, .int (-6)), (0, .ref (A 0)), (1, .int (nI j)), (2, .int (nI j2)), (3, .int (nI wh))]) E.1.1 E.1.2.1 dX6_alike_37 hl (by decide) rfl (fun ls hl => ?_)
        refine lv_aload_n E.1.1 E.1.2.1 dX6_alike_39 rfl (lv_at hl 3 rfl) ?_
        refine lv_iload_n E.1.1 E.1.2.1 dX6_alike_40 rfl (lv_at hl 4 rfl) ?_
        refine lv_iload_n E.1.1 E.1.2.1 dX6_alike_41 rfl (lv_at hl 5 rfl) ?_
        refine k_ri (va_runV (As := [.int (nI j), .int (nI j2)]) (rest := []) E.1 (m_later l D cy L f H.size A base fr pb ns T P B rr G hA hTP j j2 (by omega) (by omega) h_o h_ts) ⟨callB_of 2 E.1.2.2.2.2 (gd_own w3_91) rfl rfl rfl (E.1.2.2.2.2 _ w1_10) (E.1.2.2.2.2 _ w3_88) hd_X6_later (by rw [hR]; exact ⟨Nat.le_of_ble_eq_true rfl, Nat.le_of_ble_eq_true rfl⟩), E.1.2.2.2.2 _ w3_90, E.1.2.2.2.2 _ ws_35⟩ (pw_preV (q := (RX6, TX6, 12)) E.2 hw h_o rfl) rfl rfl hl.1 rfl (lv_room (Nat.le_of_ble_eq_true rfl)) dX6_alike_42 ⟨Nat.zero_le _, Nat.zero_le _⟩) ?_
        refine lv_aload_n E.1.1 E.1.2.1 dX6_alike_45 rfl (lv_at hl 3 rfl) ?_
        refine lv_iload_n E.1.1 E.1.2.1 dX6_alike_46 rfl (lv_at hl 4 rfl) ?_
        refine lv_iload_n E.1.1 E.1.2.1 dX6_alike_47 rfl (lv_at hl 5 rfl) ?_
        refine k_ri (va_runV (As := [.int (nI j), .int (nI j2)]) (rest := [.int (nI (max (T j) (T j2)))]) E.1 (m_together l D cy L f H.size A base fr pb ns T P B rr G hA hTP j j2 (by omega) (by omega) h_o h_ps) ⟨callB_of 2 E.1.2.2.2.2 (gd_own w3_95) rfl rfl rfl (E.1.2.2.2.2 _ w1_10) (E.1.2.2.2.2 _ w3_92) hd_X6_together (by rw [hR]; exact ⟨Nat.le_of_ble_eq_true rfl, Nat.le_of_ble_eq_true rfl⟩), E.1.2.2.2.2 _ w3_94, E.1.2.2.2.2 _ ws_36⟩ (pw_preV (q := (RX6, TX6, 12)) E.2 hw h_o rfl) rfl rfl hl.1 rfl (lv_room (Nat.le_of_ble_eq_true rfl)) dX6_alike_48 ⟨Nat.zero_le _, Nat.zero_le _⟩) ?_
        refine k_add E dX6_alike_51 ?_
        refine lv_iconst (v := nI 1) E.1.1 E.1.2.1 dX6_alike_52 rfl ?_
        refine k_sub E dX6_alike_53 (by omega) ?_
        refine k_top E (nI (max (T j) (T j2) + P j / Nat.gcd (P j) (P j2) * P j2) + (-1)) (by rw [sb_m1 (by omega)]) ?_
        refine lv_istore (lv' := [(7, .int (nI (max (T j) (T j2) + P j / Nat.gcd (P j) (P j2) * P j2) + (-1))), (6, .int (b2i (dB (∀ n, (max (T j) (T j2) + P j / Nat.gcd (P j) (P j2) * P j2) ≤ n → n < (max (T j) (T j2) + P j / Nat.gcd (P j) (P j2) * P j2) → jw 2 (SS j n) (SS j2 n) = false)))), (5, .int (-6)), (4, .int (-6)), (0, .ref (A 0)), (1, .int (nI j)), (2, .int (nI j2)), (3, .int (nI wh))]) E.1.1 E.1.2.1 dX6_alike_54 hl (by decide) rfl (fun ls hl => ?_)
        have lp56 : ∀ (k : Nat) (q0 : Nat) (jr : Int32) (br : Int32) (f : Nat → va_E) (H : Heap) (locs : List Loc) (ls : Array Slot), (q0 < k) → (q0 ≤ (max (T j) (T j2) + P j / Nat.gcd (P j) (P j2) * P j2)) → (DN (fun n => jw 3 (SS j n) (SS j2 n)) q0 (max (T j) (T j2) + P j / Nat.gcd (P j) (P j2) * P j2) jr) → (DN (fun n => jw 1 (SS j n) (SS j2 n)) q0 (max (T j) (T j2) + P j / Nat.gcd (P j) (P j2) * P j2) br) → (cel L f (A 0) (.inr (6, [.int (nI base), .ref (A 1), .ref (A 2), .ref (A 3), .ref (A 4), .int (nI fr), .int (nI pb), .ref (A 5), .int (nI ns), .ref (A 6), .ref (A 7), .ref (A 8)]))) → (cel L f (A 1) (.inl (cy 0, 84, .inl (fun k => nI (T k))))) → (cel L f (A 2) (.inl (cy 0, 84, .inl (fun k => nI (P k))))) → (cel L f (A 3) (.inl (cy 1, 252, .inr (.inl (rw3 B))))) → (cel L f (A 4) (.inl (cy 2, 4096, .inl (fun k => b2i (rr k))))) → (cel L f (A 5) (.inl (cy 0, 325, .inl G))) → (cel L f (A 6) (.inl (cy 0, 65, .inl Fa))) → (cel L f (A 7) (.inl (cy 0, 2, .inl (fun k => nI (kb1 k))))) → (cel L f (A 8) (.inl (cy 2, 2, .inl (fun k => b2i (kp k))))) → (∀ b ∈ L, f b = f0 b) → (WW D (AW L sz) s.heap L f H locs) → (lv_has ls 10 [(7, .int (nI q0 + (-1))), (4, .int jr), (5, .int br), (6, .int (b2i (dB (∀ n, q0 ≤ n → n < (max (T j) (T j2) + P j / Nat.gcd (P j) (P j2) * P j2) → jw 2 (SS j n) (SS j2 n) = false)))), (0, .ref (A 0)), (1, .int (nI j)), (2, .int (nI j2)), (3, .int (nI wh))]) → W p l e R s m args below meth c H locs 0 0 Q (F0 m 56 ls []) := by
          intro k
          induction k with
          | zero => intro _ _ _ _ _ _ _ hk; exact absurd hk (Nat.not_lt_zero _)
          | succ k ih56 =>
            intro q0 jr br f H locs ls hk hqN hJ hO h_o h_ts h_ps h_bs h_rw h_gs h_fa h_ba h_it hF hw hl
            refine lv_iload E.1.1 E.1.2.1 dX6_alike_56 (lv_at hl 0 rfl) ?_
            refine lv_if_lt (tgt := 142) E.1.1 E.1.2.1 dX6_alike_58 (by decide) (fun c58 => ?_) (fun c58 => ?_)
            · have hq00 := m1_zero (by omega) c58
              subst hq00
              have hLJ : LI (fun n => jw 3 (SS j n) (SS j2 n)) jr := DN_LI hz.1 (by omega) (jw_ev 3 hS1.1.2.1 hS2.1.2.1 hz.2.2.1 hz.2.2.2) hJ
              have hLO : LI (fun n => jw 1 (SS j n) (SS j2 n)) br := DN_LI hz.1 (by omega) (jw_ev 1 hS1.1.2.1 hS2.1.2.1 hz.2.2.1 hz.2.2.2) hO
              have hWI : (∀ n, 0 ≤ n → n < (max (T j) (T j2) + P j / Nat.gcd (P j) (P j2) * P j2) → jw 2 (SS j n) (SS j2 n) = false) ↔ ∀ n, jw 2 (SS j n) (SS j2 n) = false := ⟨fun h => ev_all hz.1 (jw_ev 2 hS1.1.2.1 hS2.1.2.1 hz.2.2.1 hz.2.2.2) (fun n hn => h n (Nat.zero_le _) hn), fun h n _ _ => h n⟩
              refine lv_iload_n E.1.1 E.1.2.1 dX6_alike_142 rfl (lv_at hl 7 rfl) ?_
              refine k_z1 (tgt := 159) E dX6_alike_143 (by decide) (by omega) (fun c143 => ?_) (fun c143 => ?_)
              · refine lv_iload_n E.1.1 E.1.2.1 dX6_alike_159 rfl (lv_at hl 7 rfl) ?_
                refine lv_iconst (v := nI 1) E.1.1 E.1.2.1 dX6_alike_160 rfl ?_
                refine k_ne (tgt := 177) E dX6_alike_161 (by decide) (by omega) (by omega) (fun c161 => ?_) (fun c161 => ?_)
                · refine lv_iload_n E.1.1 E.1.2.1 dX6_alike_177 rfl (lv_at hl 7 rfl) ?_
                  refine lv_iconst (v := nI 2) E.1.1 E.1.2.1 dX6_alike_178 rfl ?_
                  refine k_ne (tgt := 195) E dX6_alike_179 (by decide) (by omega) (by omega) (fun c179 => ?_) (fun c179 => ?_)
                  · refine lv_iload_n E.1.1 E.1.2.1 dX6_alike_195 rfl (lv_at hl 7 rfl) ?_
                    refine lv_iconst (v := nI 3) E.1.1 E.1.2.1 dX6_alike_196 rfl ?_
                    refine k_ne (tgt := 205) E dX6_alike_197 (by decide) (by omega) (by omega) (fun c197 => ?_) (fun c197 => ?_)
                    · refine lv_iload E.1.1 E.1.2.1 dX6_alike_205 (lv_at hl 2 rfl) ?_
                      exact k_miret E hQ hlk hr hw (Nat.le_of_ble_eq_true rfl) (Nat.le_of_ble_eq_true rfl) (⟨rfl, fun b hb _ => hF b hb, ⟨hB, _, _, _, _, _, _, _, _, _, _, ⟨h_o, h_ts, h_ps, h_bs, h_rw, h_gs, h_fa, h_ba, h_it⟩, hTP, hMS, hMK⟩, by unfold rd_alike; rw [if_neg (by rintro (q | q); exact inS_t hj q; exact inS_t hj2 q), if_neg (by rw [in_t (by decide) hwh]; decide), ix_nI (by omega), ix_nI (by omega), ix_nI (by omega)]; exact Or.inr (Or.inr (Or.inr (Or.inr (⟨by omega, hLO⟩))))⟩) dX6_alike_207
                    · refine lv_iload E.1.1 E.1.2.1 dX6_alike_200 (lv_at hl 1 rfl) ?_
                      refine lv_goto (tgt := 207) E.1.1 E.1.2.1 dX6_alike_202 (by decide) ?_
                      exact k_miret E hQ hlk hr hw (Nat.le_of_ble_eq_true rfl) (Nat.le_of_ble_eq_true rfl) (⟨rfl, fun b hb _ => hF b hb, ⟨hB, _, _, _, _, _, _, _, _, _, _, ⟨h_o, h_ts, h_ps, h_bs, h_rw, h_gs, h_fa, h_ba, h_it⟩, hTP, hMS, hMK⟩, by unfold rd_alike; rw [if_neg (by rintro (q | q); exact inS_t hj q; exact inS_t hj2 q), if_neg (by rw [in_t (by decide) hwh]; decide), ix_nI (by omega), ix_nI (by omega), ix_nI (by omega)]; exact Or.inr (Or.inr (Or.inr (Or.inl ⟨by omega, hLJ⟩)))⟩) dX6_alike_207
                  · refine lv_iload E.1.1 E.1.2.1 dX6_alike_182 (lv_at hl 2 rfl) ?_
                    refine lv_if_ge (tgt := 191) E.1.1 E.1.2.1 dX6_alike_184 (by decide) (fun c184 => ?_) (fun c184 => ?_)
                    · refine lv_iconst (v := nI 0) E.1.1 E.1.2.1 dX6_alike_191 rfl ?_
                      refine lv_goto (tgt := 207) E.1.1 E.1.2.1 dX6_alike_192 (by decide) ?_
                      exact k_miret E hQ hlk hr hw (Nat.le_of_ble_eq_true rfl) (Nat.le_of_ble_eq_true rfl) (⟨rfl, fun b hb _ => hF b hb, ⟨hB, _, _, _, _, _, _, _, _, _, _, ⟨h_o, h_ts, h_ps, h_bs, h_rw, h_gs, h_fa, h_ba, h_it⟩, hTP, hMS, hMK⟩, by unfold rd_alike; rw [if_neg (by rintro (q | q); exact inS_t hj q; exact inS_t hj2 q), if_neg (by rw [in_t (by decide) hwh]; decide), ix_nI (by omega), ix_nI (by omega), ix_nI (by omega)]; exact Or.inr (Or.inr (Or.inl ⟨by omega, by rw [dB_f (fun q => hLO.pos.mp c184 q)]; rfl⟩))⟩) dX6_alike_207
                    · refine lv_iconst (v := nI 1) E.1.1 E.1.2.1 dX6_alike_187 rfl ?_
                      refine lv_goto (tgt := 207) E.1.1 E.1.2.1 dX6_alike_188 (by decide) ?_
                      exact k_miret E hQ hlk hr hw (Nat.le_of_ble_eq_true rfl) (Nat.le_of_ble_eq_true rfl) (⟨rfl, fun b hb _ => hF b hb, ⟨hB, _, _, _, _, _, _, _, _, _, _, ⟨h_o, h_ts, h_ps, h_bs, h_rw, h_gs, h_fa, h_ba, h_it⟩, hTP, hMS, hMK⟩, by unfold rd_alike; rw [if_neg (by rintro (q | q); exact inS_t hj q; exact inS_t hj2 q), if_neg (by rw [in_t (by decide) hwh]; decide), ix_nI (by omega), ix_nI (by omega), ix_nI (by omega)]; exact Or.inr (Or.inr (Or.inl ⟨by omega, by rw [dB_t (Classical.not_not.mp (fun q => c184 (hLO.pos.mpr q)))]; rfl⟩))⟩) dX6_alike_207
                · refine lv_iload E.1.1 E.1.2.1 dX6_alike_164 (lv_at hl 3 rfl) ?_
                  refine k_if0 (tgt := 173) E dX6_alike_166 (by decide) (fun c166 => ?_) (fun c166 => ?_)
                  · refine lv_iconst (v := nI 0) E.1.1 E.1.2.1 dX6_alike_173 rfl ?_
                    refine lv_goto (tgt := 207) E.1.1 E.1.2.1 dX6_alike_174 (by decide) ?_
                    exact k_miret E hQ hlk hr hw (Nat.le_of_ble_eq_true rfl) (Nat.le_of_ble_eq_true rfl) (⟨rfl, fun b hb _ => hF b hb, ⟨hB, _, _, _, _, _, _, _, _, _, _, ⟨h_o, h_ts, h_ps, h_bs, h_rw, h_gs, h_fa, h_ba, h_it⟩, hTP, hMS, hMK⟩, by unfold rd_alike; rw [if_neg (by rintro (q | q); exact inS_t hj q; exact inS_t hj2 q), if_neg (by rw [in_t (by decide) hwh]; decide), ix_nI (by omega), ix_nI (by omega), ix_nI (by omega)]; exact Or.inr (Or.inl ⟨by omega, by rw [dB_f (fun q => absurd (dB_t (hWI.mpr q)) (by rw [c166]; decide))]; rfl⟩)⟩) dX6_alike_207
                  · refine lv_iconst (v := nI 1) E.1.1 E.1.2.1 dX6_alike_169 rfl ?_
                    refine lv_goto (tgt := 207) E.1.1 E.1.2.1 dX6_alike_170 (by decide) ?_
                    exact k_miret E hQ hlk hr hw (Nat.le_of_ble_eq_true rfl) (Nat.le_of_ble_eq_true rfl) (⟨rfl, fun b hb _ => hF b hb, ⟨hB, _, _, _, _, _, _, _, _, _, _, ⟨h_o, h_ts, h_ps, h_bs, h_rw, h_gs, h_fa, h_ba, h_it⟩, hTP, hMS, hMK⟩, by unfold rd_alike; rw [if_neg (by rintro (q | q); exact inS_t hj q; exact inS_t hj2 q), if_neg (by rw [in_t (by decide) hwh]; decide), ix_nI (by omega), ix_nI (by omega), ix_nI (by omega)]; exact Or.inr (Or.inl ⟨by omega, by rw [dB_t (hWI.mp (dB_iff.mp c166))]; rfl⟩)⟩) dX6_alike_207
              · refine lv_iload E.1.1 E.1.2.1 dX6_alike_146 (lv_at hl 1 rfl) ?_
                refine lv_if_ge (tgt := 155) E.1.1 E.1.2.1 dX6_alike_148 (by decide) (fun c148 => ?_) (fun c148 => ?_)
                · refine lv_iconst (v := nI 0) E.1.1 E.1.2.1 dX6_alike_155 rfl ?_
                  refine lv_goto (tgt := 207) E.1.1 E.1.2.1 dX6_alike_156 (by decide) ?_
                  exact k_miret E hQ hlk hr hw (Nat.le_of_ble_eq_true rfl) (Nat.le_of_ble_eq_true rfl) (⟨rfl, fun b hb _ => hF b hb, ⟨hB, _, _, _, _, _, _, _, _, _, _, ⟨h_o, h_ts, h_ps, h_bs, h_rw, h_gs, h_fa, h_ba, h_it⟩, hTP, hMS, hMK⟩, by unfold rd_alike; rw [if_neg (by rintro (q | q); exact inS_t hj q; exact inS_t hj2 q), if_neg (by rw [in_t (by decide) hwh]; decide), ix_nI (by omega), ix_nI (by omega), ix_nI (by omega)]; exact Or.inl ⟨by omega, by rw [dB_f (fun q => hLJ.pos.mp c148 (jw3_eq.mpr q))]; rfl⟩⟩) dX6_alike_207
                · refine lv_iconst (v := nI 1) E.1.1 E.1.2.1 dX6_alike_151 rfl ?_
                  refine lv_goto (tgt := 207) E.1.1 E.1.2.1 dX6_alike_152 (by decide) ?_
                  exact k_miret E hQ hlk hr hw (Nat.le_of_ble_eq_true rfl) (Nat.le_of_ble_eq_true rfl) (⟨rfl, fun b hb _ => hF b hb, ⟨hB, _, _, _, _, _, _, _, _, _, _, ⟨h_o, h_ts, h_ps, h_bs, h_rw, h_gs, h_fa, h_ba, h_it⟩, hTP, hMS, hMK⟩, by unfold rd_alike; rw [if_neg (by rintro (q | q); exact inS_t hj q; exact inS_t hj2 q), if_neg (by rw [in_t (by decide) hwh]; decide), ix_nI (by omega), ix_nI (by omega), ix_nI (by omega)]; exact Or.inl ⟨by omega, by rw [dB_t (jw3_eq.mp (Classical.not_not.mp (fun q => c148 (hLJ.pos.mpr q))))]; rfl⟩⟩) dX6_alike_207
            · have hq0 := m1_pos c58
              rw [sb_m1 hq0] at hl
              refine lv_aload_n E.1.1 E.1.2.1 dX6_alike_61 rfl (lv_at hl 4 rfl) ?_
              refine lv_iload_n E.1.1 E.1.2.1 dX6_alike_62 rfl (lv_at hl 5 rfl) ?_
              refine lv_iload E.1.1 E.1.2.1 dX6_alike_63 (lv_at hl 0 rfl) ?_
              refine k_ri (va_runV (As := [.int (nI j), .int (nI (q0 - 1))]) (rest := []) E.1 (m_isInS l D cy L f H.size A base fr pb ns T P B rr G hA hTP j (q0 - 1) (SS j) hS1 (by omega) (by omega) h_o h_ts h_ps h_bs) ⟨callB_of 2 E.1.2.2.2.2 (gd_own w3_79) rfl rfl rfl (E.1.2.2.2.2 _ w1_10) (E.1.2.2.2.2 _ w3_76) hd_X6_isIn (by rw [hR]; exact ⟨Nat.le_of_ble_eq_true rfl, Nat.le_of_ble_eq_true rfl⟩), E.1.2.2.2.2 _ w3_78, E.1.2.2.2.2 _ ws_33⟩ (pw_preV (q := (RX6, TX6, 12)) E.2 hw h_o rfl) rfl rfl hl.1 rfl (lv_room (Nat.le_of_ble_eq_true rfl)) dX6_alike_65 ⟨Nat.zero_le _, Nat.zero_le _⟩) ?_
              refine lv_istore (lv' := [(8, .int (b2i (SS j (q0 - 1)))), (7, .int (nI (q0 - 1))), (4, .int jr), (5, .int br), (6, .int (b2i (dB (∀ n, q0 ≤ n → n < (max (T j) (T j2) + P j / Nat.gcd (P j) (P j2) * P j2) → jw 2 (SS j n) (SS j2 n) = false)))), (0, .ref (A 0)), (1, .int (nI j)), (2, .int (nI j2)), (3, .int (nI wh))]) E.1.1 E.1.2.1 dX6_alike_68 hl (by decide) rfl (fun ls hl => ?_)
              refine lv_aload_n E.1.1 E.1.2.1 dX6_alike_70 rfl (lv_at hl 5 rfl) ?_
              refine lv_iload_n E.1.1 E.1.2.1 dX6_alike_71 rfl (lv_at hl 7 rfl) ?_
              refine lv_iload E.1.1 E.1.2.1 dX6_alike_72 (lv_at hl 1 rfl) ?_
              refine k_ri (va_runV (As := [.int (nI j2), .int (nI (q0 - 1))]) (rest := []) E.1 (m_isInS l D cy L f H.size A base fr pb ns T P B rr G hA hTP j2 (q0 - 1) (SS j2) hS2 (by omega) (by omega) h_o h_ts h_ps h_bs) ⟨callB_of 2 E.1.2.2.2.2 (gd_own w3_79) rfl rfl rfl (E.1.2.2.2.2 _ w1_10) (E.1.2.2.2.2 _ w3_76) hd_X6_isIn (by rw [hR]; exact ⟨Nat.le_of_ble_eq_true rfl, Nat.le_of_ble_eq_true rfl⟩), E.1.2.2.2.2 _ w3_78, E.1.2.2.2.2 _ ws_33⟩ (pw_preV (q := (RX6, TX6, 12)) E.2 hw h_o rfl) rfl rfl hl.1 rfl (lv_room (Nat.le_of_ble_eq_true rfl)) dX6_alike_74 ⟨Nat.zero_le _, Nat.zero_le _⟩) ?_
              refine lv_istore (lv' := [(9, .int (b2i (SS j2 (q0 - 1)))), (8, .int (b2i (SS j (q0 - 1)))), (7, .int (nI (q0 - 1))), (4, .int jr), (5, .int br), (6, .int (b2i (dB (∀ n, q0 ≤ n → n < (max (T j) (T j2) + P j / Nat.gcd (P j) (P j2) * P j2) → jw 2 (SS j n) (SS j2 n) = false)))), (0, .ref (A 0)), (1, .int (nI j)), (2, .int (nI j2)), (3, .int (nI wh))]) E.1.1 E.1.2.1 dX6_alike_77 hl (by decide) rfl (fun ls hl => ?_)
              refine lv_iload E.1.1 E.1.2.1 dX6_alike_79 (lv_at hl 1 rfl) ?_
              refine lv_iload E.1.1 E.1.2.1 dX6_alike_81 (lv_at hl 0 rfl) ?_
              refine k_beq (tgt := 91) E dX6_alike_83 (by decide) (fun c83 => ?_) (fun c83 => ?_)
              · refine lv_iload E.1.1 E.1.2.1 dX6_alike_91 (lv_at hl 3 rfl) ?_
                refine lv_istore (lv' := [(4, .int jr), (9, .int (b2i (SS j2 (q0 - 1)))), (8, .int (b2i (SS j (q0 - 1)))), (7, .int (nI (q0 - 1))), (5, .int br), (6, .int (b2i (dB (∀ n, q0 ≤ n → n < (max (T j) (T j2) + P j / Nat.gcd (P j) (P j2) * P j2) → jw 2 (SS j n) (SS j2 n) = false)))), (0, .ref (A 0)), (1, .int (nI j)), (2, .int (nI j2)), (3, .int (nI wh))]) E.1.1 E.1.2.1 dX6_alike_93 hl (by decide) rfl (fun ls hl => ?_)
                refine lv_iload E.1.1 E.1.2.1 dX6_alike_95 (lv_at hl 2 rfl) ?_
                refine k_if0 (tgt := 110) E dX6_alike_97 (by decide) (fun c97 => ?_) (fun c97 => ?_)
                · refine lv_iload E.1.1 E.1.2.1 dX6_alike_110 (lv_at hl 4 rfl) ?_
                  refine lv_istore (lv' := [(5, .int br), (4, .int jr), (9, .int (b2i (SS j2 (q0 - 1)))), (8, .int (b2i (SS j (q0 - 1)))), (7, .int (nI (q0 - 1))), (6, .int (b2i (dB (∀ n, q0 ≤ n → n < (max (T j) (T j2) + P j / Nat.gcd (P j) (P j2) * P j2) → jw 2 (SS j n) (SS j2 n) = false)))), (0, .ref (A 0)), (1, .int (nI j)), (2, .int (nI j2)), (3, .int (nI wh))]) E.1.1 E.1.2.1 dX6_alike_112 hl (by decide) rfl (fun ls hl => ?_)
                  refine lv_iload E.1.1 E.1.2.1 dX6_alike_114 (lv_at hl 5 rfl) ?_
                  refine k_if0 (tgt := 133) E dX6_alike_116 (by decide) (fun c116 => ?_) (fun c116 => ?_)
                  · refine lv_iconst (v := nI 0) E.1.1 E.1.2.1 dX6_alike_133 rfl ?_
                    refine k_top E (b2i (dB (∀ n, (q0 - 1) ≤ n → n < (max (T j) (T j2) + P j / Nat.gcd (P j) (P j2) * P j2) → jw 2 (SS j n) (SS j2 n) = false))) (by rw [dB_f (fun h => absurd (dB_t (show ∀ n, q0 ≤ n → n < (max (T j) (T j2) + P j / Nat.gcd (P j) (P j2) * P j2) → jw 2 (SS j n) (SS j2 n) = false from fun n h1 h2 => h n (by omega) h2)) (by rw [c116]; decide))]; rfl) ?_
                    refine lv_istore (lv' := [(6, .int (b2i (dB (∀ n, (q0 - 1) ≤ n → n < (max (T j) (T j2) + P j / Nat.gcd (P j) (P j2) * P j2) → jw 2 (SS j n) (SS j2 n) = false)))), (5, .int br), (4, .int jr), (9, .int (b2i (SS j2 (q0 - 1)))), (8, .int (b2i (SS j (q0 - 1)))), (7, .int (nI (q0 - 1))), (0, .ref (A 0)), (1, .int (nI j)), (2, .int (nI j2)), (3, .int (nI wh))]) E.1.1 E.1.2.1 dX6_alike_134 hl (by decide) rfl (fun ls hl => ?_)
                    refine lv_iinc (v := (nI (q0 - 1)) + (-1)) (lv' := [(7, .int ((nI (q0 - 1)) + (-1))), (6, .int (b2i (dB (∀ n, (q0 - 1) ≤ n → n < (max (T j) (T j2) + P j / Nat.gcd (P j) (P j2) * P j2) → jw 2 (SS j n) (SS j2 n) = false)))), (5, .int br), (4, .int jr), (9, .int (b2i (SS j2 (q0 - 1)))), (8, .int (b2i (SS j (q0 - 1)))), (0, .ref (A 0)), (1, .int (nI j)), (2, .int (nI j2)), (3, .int (nI wh))]) E.1.1 E.1.2.1 dX6_alike_136 hl (k := 5) rfl (rfl) (by decide) rfl (fun ls hl => ?_)
                    refine lv_goto (tgt := 56) E.1.1 E.1.2.1 dX6_alike_139 (by decide) ?_
                    have hJ3 := DN_f hJ (by show jw 3 (SS j (q0 - 1)) (SS j2 (q0 - 1)) = false; rw [c83]; cases SS j2 (q0 - 1) <;> rfl)
                    have hO3 := DN_f hO (by show jw 1 (SS j (q0 - 1)) (SS j2 (q0 - 1)) = false; rw [c97]; rfl)
                    exact ih56  (q0 - 1) jr br f H locs ls (by omega) (by omega) (hJ3) (hO3) h_o h_ts h_ps h_bs h_rw h_gs h_fa h_ba h_it hF hw (lv_sub hl [0, 3, 2, 1, 6, 7, 8, 9] rfl)
                  · refine lv_iload E.1.1 E.1.2.1 dX6_alike_119 (lv_at hl 3 rfl) ?_
                    refine k_if0 (tgt := 129) E dX6_alike_121 (by decide) (fun c121 => ?_) (fun c121 => ?_)
                    · refine lv_iconst (v := nI 1) E.1.1 E.1.2.1 dX6_alike_129 rfl ?_
                      refine lv_goto (tgt := 134) E.1.1 E.1.2.1 dX6_alike_130 (by decide) ?_
                      refine k_top E (b2i (dB (∀ n, (q0 - 1) ≤ n → n < (max (T j) (T j2) + P j / Nat.gcd (P j) (P j2) * P j2) → jw 2 (SS j n) (SS j2 n) = false))) (by rw [dB_t (wi_s (X := fun n => jw 2 (SS j n) (SS j2 n)) (dB_iff.mp c116) (by show jw 2 (SS j (q0 - 1)) (SS j2 (q0 - 1)) = false; rw [c121]; rfl))]; rfl) ?_
                      refine lv_istore (lv' := [(6, .int (b2i (dB (∀ n, (q0 - 1) ≤ n → n < (max (T j) (T j2) + P j / Nat.gcd (P j) (P j2) * P j2) → jw 2 (SS j n) (SS j2 n) = false)))), (5, .int br), (4, .int jr), (9, .int (b2i (SS j2 (q0 - 1)))), (8, .int (b2i (SS j (q0 - 1)))), (7, .int (nI (q0 - 1))), (0, .ref (A 0)), (1, .int (nI j)), (2, .int (nI j2)), (3, .int (nI wh))]) E.1.1 E.1.2.1 dX6_alike_134 hl (by decide) rfl (fun ls hl => ?_)
                      refine lv_iinc (v := (nI (q0 - 1)) + (-1)) (lv' := [(7, .int ((nI (q0 - 1)) + (-1))), (6, .int (b2i (dB (∀ n, (q0 - 1) ≤ n → n < (max (T j) (T j2) + P j / Nat.gcd (P j) (P j2) * P j2) → jw 2 (SS j n) (SS j2 n) = false)))), (5, .int br), (4, .int jr), (9, .int (b2i (SS j2 (q0 - 1)))), (8, .int (b2i (SS j (q0 - 1)))), (0, .ref (A 0)), (1, .int (nI j)), (2, .int (nI j2)), (3, .int (nI wh))]) E.1.1 E.1.2.1 dX6_alike_136 hl (k := 5) rfl (rfl) (by decide) rfl (fun ls hl => ?_)
                      refine lv_goto (tgt := 56) E.1.1 E.1.2.1 dX6_alike_139 (by decide) ?_
                      have hJ3 := DN_f hJ (by show jw 3 (SS j (q0 - 1)) (SS j2 (q0 - 1)) = false; rw [c83]; cases SS j2 (q0 - 1) <;> rfl)
                      have hO3 := DN_f hO (by show jw 1 (SS j (q0 - 1)) (SS j2 (q0 - 1)) = false; rw [c97]; rfl)
                      exact ih56  (q0 - 1) jr br f H locs ls (by omega) (by omega) (hJ3) (hO3) h_o h_ts h_ps h_bs h_rw h_gs h_fa h_ba h_it hF hw (lv_sub hl [0, 3, 2, 1, 6, 7, 8, 9] rfl)
                    · refine lv_iload E.1.1 E.1.2.1 dX6_alike_124 (lv_at hl 2 rfl) ?_
                      refine k_if0 (tgt := 133) E dX6_alike_126 (by decide) (fun c126 => ?_) (fun c126 => ?_)
                      · refine lv_iconst (v := nI 0) E.1.1 E.1.2.1 dX6_alike_133 rfl ?_
                        refine k_top E (b2i (dB (∀ n, (q0 - 1) ≤ n → n < (max (T j) (T j2) + P j / Nat.gcd (P j) (P j2) * P j2) → jw 2 (SS j n) (SS j2 n) = false))) (by rw [dB_f (fun h => by have h9 := h (q0 - 1) (by omega) (by omega); rw [c121, c126] at h9; cases h9)]; rfl) ?_
                        refine lv_istore (lv' := [(6, .int (b2i (dB (∀ n, (q0 - 1) ≤ n → n < (max (T j) (T j2) + P j / Nat.gcd (P j) (P j2) * P j2) → jw 2 (SS j n) (SS j2 n) = false)))), (5, .int br), (4, .int jr), (9, .int (b2i (SS j2 (q0 - 1)))), (8, .int (b2i (SS j (q0 - 1)))), (7, .int (nI (q0 - 1))), (0, .ref (A 0)), (1, .int (nI j)), (2, .int (nI j2)), (3, .int (nI wh))]) E.1.1 E.1.2.1 dX6_alike_134 hl (by decide) rfl (fun ls hl => ?_)
                        refine lv_iinc (v := (nI (q0 - 1)) + (-1)) (lv' := [(7, .int ((nI (q0 - 1)) + (-1))), (6, .int (b2i (dB (∀ n, (q0 - 1) ≤ n → n < (max (T j) (T j2) + P j / Nat.gcd (P j) (P j2) * P j2) → jw 2 (SS j n) (SS j2 n) = false)))), (5, .int br), (4, .int jr), (9, .int (b2i (SS j2 (q0 - 1)))), (8, .int (b2i (SS j (q0 - 1)))), (0, .ref (A 0)), (1, .int (nI j)), (2, .int (nI j2)), (3, .int (nI wh))]) E.1.1 E.1.2.1 dX6_alike_136 hl (k := 5) rfl (rfl) (by decide) rfl (fun ls hl => ?_)
                        refine lv_goto (tgt := 56) E.1.1 E.1.2.1 dX6_alike_139 (by decide) ?_
                        have hJ3 := DN_f hJ (by show jw 3 (SS j (q0 - 1)) (SS j2 (q0 - 1)) = false; rw [c83]; cases SS j2 (q0 - 1) <;> rfl)
                        have hO3 := DN_f hO (by show jw 1 (SS j (q0 - 1)) (SS j2 (q0 - 1)) = false; rw [c97]; rfl)
                        exact ih56  (q0 - 1) jr br f H locs ls (by omega) (by omega) (hJ3) (hO3) h_o h_ts h_ps h_bs h_rw h_gs h_fa h_ba h_it hF hw (lv_sub hl [0, 3, 2, 1, 6, 7, 8, 9] rfl)
                      · refine lv_iconst (v := nI 1) E.1.1 E.1.2.1 dX6_alike_129 rfl ?_
                        refine lv_goto (tgt := 134) E.1.1 E.1.2.1 dX6_alike_130 (by decide) ?_
                        refine k_top E (b2i (dB (∀ n, (q0 - 1) ≤ n → n < (max (T j) (T j2) + P j / Nat.gcd (P j) (P j2) * P j2) → jw 2 (SS j n) (SS j2 n) = false))) (by rw [dB_t (wi_s (X := fun n => jw 2 (SS j n) (SS j2 n)) (dB_iff.mp c116) (by show jw 2 (SS j (q0 - 1)) (SS j2 (q0 - 1)) = false; rw [c121, c126]; rfl))]; rfl) ?_
                        refine lv_istore (lv' := [(6, .int (b2i (dB (∀ n, (q0 - 1) ≤ n → n < (max (T j) (T j2) + P j / Nat.gcd (P j) (P j2) * P j2) → jw 2 (SS j n) (SS j2 n) = false)))), (5, .int br), (4, .int jr), (9, .int (b2i (SS j2 (q0 - 1)))), (8, .int (b2i (SS j (q0 - 1)))), (7, .int (nI (q0 - 1))), (0, .ref (A 0)), (1, .int (nI j)), (2, .int (nI j2)), (3, .int (nI wh))]) E.1.1 E.1.2.1 dX6_alike_134 hl (by decide) rfl (fun ls hl => ?_)
                        refine lv_iinc (v := (nI (q0 - 1)) + (-1)) (lv' := [(7, .int ((nI (q0 - 1)) + (-1))), (6, .int (b2i (dB (∀ n, (q0 - 1) ≤ n → n < (max (T j) (T j2) + P j / Nat.gcd (P j) (P j2) * P j2) → jw 2 (SS j n) (SS j2 n) = false)))), (5, .int br), (4, .int jr), (9, .int (b2i (SS j2 (q0 - 1)))), (8, .int (b2i (SS j (q0 - 1)))), (0, .ref (A 0)), (1, .int (nI j)), (2, .int (nI j2)), (3, .int (nI wh))]) E.1.1 E.1.2.1 dX6_alike_136 hl (k := 5) rfl (rfl) (by decide) rfl (fun ls hl => ?_)
                        refine lv_goto (tgt := 56) E.1.1 E.1.2.1 dX6_alike_139 (by decide) ?_
                        have hJ3 := DN_f hJ (by show jw 3 (SS j (q0 - 1)) (SS j2 (q0 - 1)) = false; rw [c83]; cases SS j2 (q0 - 1) <;> rfl)
                        have hO3 := DN_f hO (by show jw 1 (SS j (q0 - 1)) (SS j2 (q0 - 1)) = false; rw [c97]; rfl)
                        exact ih56  (q0 - 1) jr br f H locs ls (by omega) (by omega) (hJ3) (hO3) h_o h_ts h_ps h_bs h_rw h_gs h_fa h_ba h_it hF hw (lv_sub hl [0, 3, 2, 1, 6, 7, 8, 9] rfl)
                · refine lv_iload E.1.1 E.1.2.1 dX6_alike_100 (lv_at hl 1 rfl) ?_
                  refine k_if0 (tgt := 110) E dX6_alike_102 (by decide) (fun c102 => ?_) (fun c102 => ?_)
                  · refine lv_iload E.1.1 E.1.2.1 dX6_alike_110 (lv_at hl 4 rfl) ?_
                    refine lv_istore (lv' := [(5, .int br), (4, .int jr), (9, .int (b2i (SS j2 (q0 - 1)))), (8, .int (b2i (SS j (q0 - 1)))), (7, .int (nI (q0 - 1))), (6, .int (b2i (dB (∀ n, q0 ≤ n → n < (max (T j) (T j2) + P j / Nat.gcd (P j) (P j2) * P j2) → jw 2 (SS j n) (SS j2 n) = false)))), (0, .ref (A 0)), (1, .int (nI j)), (2, .int (nI j2)), (3, .int (nI wh))]) E.1.1 E.1.2.1 dX6_alike_112 hl (by decide) rfl (fun ls hl => ?_)
                    refine lv_iload E.1.1 E.1.2.1 dX6_alike_114 (lv_at hl 5 rfl) ?_
                    refine k_if0 (tgt := 133) E dX6_alike_116 (by decide) (fun c116 => ?_) (fun c116 => ?_)
                    · refine lv_iconst (v := nI 0) E.1.1 E.1.2.1 dX6_alike_133 rfl ?_
                      refine k_top E (b2i (dB (∀ n, (q0 - 1) ≤ n → n < (max (T j) (T j2) + P j / Nat.gcd (P j) (P j2) * P j2) → jw 2 (SS j n) (SS j2 n) = false))) (by rw [dB_f (fun h => absurd (dB_t (show ∀ n, q0 ≤ n → n < (max (T j) (T j2) + P j / Nat.gcd (P j) (P j2) * P j2) → jw 2 (SS j n) (SS j2 n) = false from fun n h1 h2 => h n (by omega) h2)) (by rw [c116]; decide))]; rfl) ?_
                      refine lv_istore (lv' := [(6, .int (b2i (dB (∀ n, (q0 - 1) ≤ n → n < (max (T j) (T j2) + P j / Nat.gcd (P j) (P j2) * P j2) → jw 2 (SS j n) (SS j2 n) = false)))), (5, .int br), (4, .int jr), (9, .int (b2i (SS j2 (q0 - 1)))), (8, .int (b2i (SS j (q0 - 1)))), (7, .int (nI (q0 - 1))), (0, .ref (A 0)), (1, .int (nI j)), (2, .int (nI j2)), (3, .int (nI wh))]) E.1.1 E.1.2.1 dX6_alike_134 hl (by decide) rfl (fun ls hl => ?_)
                      refine lv_iinc (v := (nI (q0 - 1)) + (-1)) (lv' := [(7, .int ((nI (q0 - 1)) + (-1))), (6, .int (b2i (dB (∀ n, (q0 - 1) ≤ n → n < (max (T j) (T j2) + P j / Nat.gcd (P j) (P j2) * P j2) → jw 2 (SS j n) (SS j2 n) = false)))), (5, .int br), (4, .int jr), (9, .int (b2i (SS j2 (q0 - 1)))), (8, .int (b2i (SS j (q0 - 1)))), (0, .ref (A 0)), (1, .int (nI j)), (2, .int (nI j2)), (3, .int (nI wh))]) E.1.1 E.1.2.1 dX6_alike_136 hl (k := 5) rfl (rfl) (by decide) rfl (fun ls hl => ?_)
                      refine lv_goto (tgt := 56) E.1.1 E.1.2.1 dX6_alike_139 (by decide) ?_
                      have hJ3 := DN_f hJ (by show jw 3 (SS j (q0 - 1)) (SS j2 (q0 - 1)) = false; rw [c83]; cases SS j2 (q0 - 1) <;> rfl)
                      have hO3 := DN_f hO (by show jw 1 (SS j (q0 - 1)) (SS j2 (q0 - 1)) = false; rw [c97, c102]; rfl)
                      exact ih56  (q0 - 1) jr br f H locs ls (by omega) (by omega) (hJ3) (hO3) h_o h_ts h_ps h_bs h_rw h_gs h_fa h_ba h_it hF hw (lv_sub hl [0, 3, 2, 1, 6, 7, 8, 9] rfl)
                    · refine lv_iload E.1.1 E.1.2.1 dX6_alike_119 (lv_at hl 3 rfl) ?_
                      refine k_if0 (tgt := 129) E dX6_alike_121 (by decide) (fun c121 => ?_) (fun c121 => ?_)
                      · refine lv_iconst (v := nI 1) E.1.1 E.1.2.1 dX6_alike_129 rfl ?_
                        refine lv_goto (tgt := 134) E.1.1 E.1.2.1 dX6_alike_130 (by decide) ?_
                        refine k_top E (b2i (dB (∀ n, (q0 - 1) ≤ n → n < (max (T j) (T j2) + P j / Nat.gcd (P j) (P j2) * P j2) → jw 2 (SS j n) (SS j2 n) = false))) (by rw [dB_t (wi_s (X := fun n => jw 2 (SS j n) (SS j2 n)) (dB_iff.mp c116) (by show jw 2 (SS j (q0 - 1)) (SS j2 (q0 - 1)) = false; rw [c121]; rfl))]; rfl) ?_
                        refine lv_istore (lv' := [(6, .int (b2i (dB (∀ n, (q0 - 1) ≤ n → n < (max (T j) (T j2) + P j / Nat.gcd (P j) (P j2) * P j2) → jw 2 (SS j n) (SS j2 n) = false)))), (5, .int br), (4, .int jr), (9, .int (b2i (SS j2 (q0 - 1)))), (8, .int (b2i (SS j (q0 - 1)))), (7, .int (nI (q0 - 1))), (0, .ref (A 0)), (1, .int (nI j)), (2, .int (nI j2)), (3, .int (nI wh))]) E.1.1 E.1.2.1 dX6_alike_134 hl (by decide) rfl (fun ls hl => ?_)
                        refine lv_iinc (v := (nI (q0 - 1)) + (-1)) (lv' := [(7, .int ((nI (q0 - 1)) + (-1))), (6, .int (b2i (dB (∀ n, (q0 - 1) ≤ n → n < (max (T j) (T j2) + P j / Nat.gcd (P j) (P j2) * P j2) → jw 2 (SS j n) (SS j2 n) = false)))), (5, .int br), (4, .int jr), (9, .int (b2i (SS j2 (q0 - 1)))), (8, .int (b2i (SS j (q0 - 1)))), (0, .ref (A 0)), (1, .int (nI j)), (2, .int (nI j2)), (3, .int (nI wh))]) E.1.1 E.1.2.1 dX6_alike_136 hl (k := 5) rfl (rfl) (by decide) rfl (fun ls hl => ?_)
                        refine lv_goto (tgt := 56) E.1.1 E.1.2.1 dX6_alike_139 (by decide) ?_
                        have hJ3 := DN_f hJ (by show jw 3 (SS j (q0 - 1)) (SS j2 (q0 - 1)) = false; rw [c83]; cases SS j2 (q0 - 1) <;> rfl)
                        have hO3 := DN_f hO (by show jw 1 (SS j (q0 - 1)) (SS j2 (q0 - 1)) = false; rw [c97, c102]; rfl)
                        exact ih56  (q0 - 1) jr br f H locs ls (by omega) (by omega) (hJ3) (hO3) h_o h_ts h_ps h_bs h_rw h_gs h_fa h_ba h_it hF hw (lv_sub hl [0, 3, 2, 1, 6, 7, 8, 9] rfl)
                      · refine lv_iload E.1.1 E.1.2.1 dX6_alike_124 (lv_at hl 2 rfl) ?_
                        refine k_if0 (tgt := 133) E dX6_alike_126 (by decide) (fun c126 => ?_) (fun c126 => ?_)
                        · refine lv_iconst (v := nI 0) E.1.1 E.1.2.1 dX6_alike_133 rfl ?_
                          refine k_top E (b2i (dB (∀ n, (q0 - 1) ≤ n → n < (max (T j) (T j2) + P j / Nat.gcd (P j) (P j2) * P j2) → jw 2 (SS j n) (SS j2 n) = false))) (by rw [dB_f (fun h => by have h9 := h (q0 - 1) (by omega) (by omega); rw [c121, c126] at h9; cases h9)]; rfl) ?_
                          refine lv_istore (lv' := [(6, .int (b2i (dB (∀ n, (q0 - 1) ≤ n → n < (max (T j) (T j2) + P j / Nat.gcd (P j) (P j2) * P j2) → jw 2 (SS j n) (SS j2 n) = false)))), (5, .int br), (4, .int jr), (9, .int (b2i (SS j2 (q0 - 1)))), (8, .int (b2i (SS j (q0 - 1)))), (7, .int (nI (q0 - 1))), (0, .ref (A 0)), (1, .int (nI j)), (2, .int (nI j2)), (3, .int (nI wh))]) E.1.1 E.1.2.1 dX6_alike_134 hl (by decide) rfl (fun ls hl => ?_)
                          refine lv_iinc (v := (nI (q0 - 1)) + (-1)) (lv' := [(7, .int ((nI (q0 - 1)) + (-1))), (6, .int (b2i (dB (∀ n, (q0 - 1) ≤ n → n < (max (T j) (T j2) + P j / Nat.gcd (P j) (P j2) * P j2) → jw 2 (SS j n) (SS j2 n) = false)))), (5, .int br), (4, .int jr), (9, .int (b2i (SS j2 (q0 - 1)))), (8, .int (b2i (SS j (q0 - 1)))), (0, .ref (A 0)), (1, .int (nI j)), (2, .int (nI j2)), (3, .int (nI wh))]) E.1.1 E.1.2.1 dX6_alike_136 hl (k := 5) rfl (rfl) (by decide) rfl (fun ls hl => ?_)
                          refine lv_goto (tgt := 56) E.1.1 E.1.2.1 dX6_alike_139 (by decide) ?_
                          have hJ3 := DN_f hJ (by show jw 3 (SS j (q0 - 1)) (SS j2 (q0 - 1)) = false; rw [c83]; cases SS j2 (q0 - 1) <;> rfl)
                          have hO3 := DN_f hO (by show jw 1 (SS j (q0 - 1)) (SS j2 (q0 - 1)) = false; rw [c97, c102]; rfl)
                          exact ih56  (q0 - 1) jr br f H locs ls (by omega) (by omega) (hJ3) (hO3) h_o h_ts h_ps h_bs h_rw h_gs h_fa h_ba h_it hF hw (lv_sub hl [0, 3, 2, 1, 6, 7, 8, 9] rfl)
                        · refine lv_iconst (v := nI 1) E.1.1 E.1.2.1 dX6_alike_129 rfl ?_
                          refine lv_goto (tgt := 134) E.1.1 E.1.2.1 dX6_alike_130 (by decide) ?_
                          refine k_top E (b2i (dB (∀ n, (q0 - 1) ≤ n → n < (max (T j) (T j2) + P j / Nat.gcd (P j) (P j2) * P j2) → jw 2 (SS j n) (SS j2 n) = false))) (by rw [dB_t (wi_s (X := fun n => jw 2 (SS j n) (SS j2 n)) (dB_iff.mp c116) (by show jw 2 (SS j (q0 - 1)) (SS j2 (q0 - 1)) = false; rw [c121, c126]; rfl))]; rfl) ?_
                          refine lv_istore (lv' := [(6, .int (b2i (dB (∀ n, (q0 - 1) ≤ n → n < (max (T j) (T j2) + P j / Nat.gcd (P j) (P j2) * P j2) → jw 2 (SS j n) (SS j2 n) = false)))), (5, .int br), (4, .int jr), (9, .int (b2i (SS j2 (q0 - 1)))), (8, .int (b2i (SS j (q0 - 1)))), (7, .int (nI (q0 - 1))), (0, .ref (A 0)), (1, .int (nI j)), (2, .int (nI j2)), (3, .int (nI wh))]) E.1.1 E.1.2.1 dX6_alike_134 hl (by decide) rfl (fun ls hl => ?_)
                          refine lv_iinc (v := (nI (q0 - 1)) + (-1)) (lv' := [(7, .int ((nI (q0 - 1)) + (-1))), (6, .int (b2i (dB (∀ n, (q0 - 1) ≤ n → n < (max (T j) (T j2) + P j / Nat.gcd (P j) (P j2) * P j2) → jw 2 (SS j n) (SS j2 n) = false)))), (5, .int br), (4, .int jr), (9, .int (b2i (SS j2 (q0 - 1)))), (8, .int (b2i (SS j (q0 - 1)))), (0, .ref (A 0)), (1, .int (nI j)), (2, .int (nI j2)), (3, .int (nI wh))]) E.1.1 E.1.2.1 dX6_alike_136 hl (k := 5) rfl (rfl) (by decide) rfl (fun ls hl => ?_)
                          refine lv_goto (tgt := 56) E.1.1 E.1.2.1 dX6_alike_139 (by decide) ?_
                          have hJ3 := DN_f hJ (by show jw 3 (SS j (q0 - 1)) (SS j2 (q0 - 1)) = false; rw [c83]; cases SS j2 (q0 - 1) <;> rfl)
                          have hO3 := DN_f hO (by show jw 1 (SS j (q0 - 1)) (SS j2 (q0 - 1)) = false; rw [c97, c102]; rfl)
                          exact ih56  (q0 - 1) jr br f H locs ls (by omega) (by omega) (hJ3) (hO3) h_o h_ts h_ps h_bs h_rw h_gs h_fa h_ba h_it hF hw (lv_sub hl [0, 3, 2, 1, 6, 7, 8, 9] rfl)
                  · refine lv_iload E.1.1 E.1.2.1 dX6_alike_105 (lv_at hl 3 rfl) ?_
                    refine lv_goto (tgt := 112) E.1.1 E.1.2.1 dX6_alike_107 (by decide) ?_
                    refine lv_istore (lv' := [(5, .int (nI (q0 - 1))), (4, .int jr), (9, .int (b2i (SS j2 (q0 - 1)))), (8, .int (b2i (SS j (q0 - 1)))), (7, .int (nI (q0 - 1))), (6, .int (b2i (dB (∀ n, q0 ≤ n → n < (max (T j) (T j2) + P j / Nat.gcd (P j) (P j2) * P j2) → jw 2 (SS j n) (SS j2 n) = false)))), (0, .ref (A 0)), (1, .int (nI j)), (2, .int (nI j2)), (3, .int (nI wh))]) E.1.1 E.1.2.1 dX6_alike_112 hl (by decide) rfl (fun ls hl => ?_)
                    refine lv_iload E.1.1 E.1.2.1 dX6_alike_114 (lv_at hl 5 rfl) ?_
                    refine k_if0 (tgt := 133) E dX6_alike_116 (by decide) (fun c116 => ?_) (fun c116 => ?_)
                    · refine lv_iconst (v := nI 0) E.1.1 E.1.2.1 dX6_alike_133 rfl ?_
                      refine k_top E (b2i (dB (∀ n, (q0 - 1) ≤ n → n < (max (T j) (T j2) + P j / Nat.gcd (P j) (P j2) * P j2) → jw 2 (SS j n) (SS j2 n) = false))) (by rw [dB_f (fun h => absurd (dB_t (show ∀ n, q0 ≤ n → n < (max (T j) (T j2) + P j / Nat.gcd (P j) (P j2) * P j2) → jw 2 (SS j n) (SS j2 n) = false from fun n h1 h2 => h n (by omega) h2)) (by rw [c116]; decide))]; rfl) ?_
                      refine lv_istore (lv' := [(6, .int (b2i (dB (∀ n, (q0 - 1) ≤ n → n < (max (T j) (T j2) + P j / Nat.gcd (P j) (P j2) * P j2) → jw 2 (SS j n) (SS j2 n) = false)))), (5, .int (nI (q0 - 1))), (4, .int jr), (9, .int (b2i (SS j2 (q0 - 1)))), (8, .int (b2i (SS j (q0 - 1)))), (7, .int (nI (q0 - 1))), (0, .ref (A 0)), (1, .int (nI j)), (2, .int (nI j2)), (3, .int (nI wh))]) E.1.1 E.1.2.1 dX6_alike_134 hl (by decide) rfl (fun ls hl => ?_)
                      refine lv_iinc (v := (nI (q0 - 1)) + (-1)) (lv' := [(7, .int ((nI (q0 - 1)) + (-1))), (6, .int (b2i (dB (∀ n, (q0 - 1) ≤ n → n < (max (T j) (T j2) + P j / Nat.gcd (P j) (P j2) * P j2) → jw 2 (SS j n) (SS j2 n) = false)))), (5, .int (nI (q0 - 1))), (4, .int jr), (9, .int (b2i (SS j2 (q0 - 1)))), (8, .int (b2i (SS j (q0 - 1)))), (0, .ref (A 0)), (1, .int (nI j)), (2, .int (nI j2)), (3, .int (nI wh))]) E.1.1 E.1.2.1 dX6_alike_136 hl (k := 5) rfl (rfl) (by decide) rfl (fun ls hl => ?_)
                      refine lv_goto (tgt := 56) E.1.1 E.1.2.1 dX6_alike_139 (by decide) ?_
                      have hJ3 := DN_f hJ (by show jw 3 (SS j (q0 - 1)) (SS j2 (q0 - 1)) = false; rw [c83]; cases SS j2 (q0 - 1) <;> rfl)
                      have hO3 := DN_t (X := fun n => jw 1 (SS j n) (SS j2 n)) (r := jr) hq0 hqN (by show jw 1 (SS j (q0 - 1)) (SS j2 (q0 - 1)) = true; rw [c97, c102]; rfl)
                      exact ih56  (q0 - 1) jr (nI (q0 - 1)) f H locs ls (by omega) (by omega) (hJ3) (hO3) h_o h_ts h_ps h_bs h_rw h_gs h_fa h_ba h_it hF hw (lv_sub hl [0, 3, 2, 1, 6, 7, 8, 9] rfl)
                    · refine lv_iload E.1.1 E.1.2.1 dX6_alike_119 (lv_at hl 3 rfl) ?_
                      refine k_if0 (tgt := 129) E dX6_alike_121 (by decide) (fun c121 => ?_) (fun c121 => ?_)
                      · refine lv_iconst (v := nI 1) E.1.1 E.1.2.1 dX6_alike_129 rfl ?_
                        refine lv_goto (tgt := 134) E.1.1 E.1.2.1 dX6_alike_130 (by decide) ?_
                        refine k_top E (b2i (dB (∀ n, (q0 - 1) ≤ n → n < (max (T j) (T j2) + P j / Nat.gcd (P j) (P j2) * P j2) → jw 2 (SS j n) (SS j2 n) = false))) (by rw [dB_t (wi_s (X := fun n => jw 2 (SS j n) (SS j2 n)) (dB_iff.mp c116) (by show jw 2 (SS j (q0 - 1)) (SS j2 (q0 - 1)) = false; rw [c121]; rfl))]; rfl) ?_
                        refine lv_istore (lv' := [(6, .int (b2i (dB (∀ n, (q0 - 1) ≤ n → n < (max (T j) (T j2) + P j / Nat.gcd (P j) (P j2) * P j2) → jw 2 (SS j n) (SS j2 n) = false)))), (5, .int (nI (q0 - 1))), (4, .int jr), (9, .int (b2i (SS j2 (q0 - 1)))), (8, .int (b2i (SS j (q0 - 1)))), (7, .int (nI (q0 - 1))), (0, .ref (A 0)), (1, .int (nI j)), (2, .int (nI j2)), (3, .int (nI wh))]) E.1.1 E.1.2.1 dX6_alike_134 hl (by decide) rfl (fun ls hl => ?_)
                        refine lv_iinc (v := (nI (q0 - 1)) + (-1)) (lv' := [(7, .int ((nI (q0 - 1)) + (-1))), (6, .int (b2i (dB (∀ n, (q0 - 1) ≤ n → n < (max (T j) (T j2) + P j / Nat.gcd (P j) (P j2) * P j2) → jw 2 (SS j n) (SS j2 n) = false)))), (5, .int (nI (q0 - 1))), (4, .int jr), (9, .int (b2i (SS j2 (q0 - 1)))), (8, .int (b2i (SS j (q0 - 1)))), (0, .ref (A 0)), (1, .int (nI j)), (2, .int (nI j2)), (3, .int (nI wh))]) E.1.1 E.1.2.1 dX6_alike_136 hl (k := 5) rfl (rfl) (by decide) rfl (fun ls hl => ?_)
                        refine lv_goto (tgt := 56) E.1.1 E.1.2.1 dX6_alike_139 (by decide) ?_
                        have hJ3 := DN_f hJ (by show jw 3 (SS j (q0 - 1)) (SS j2 (q0 - 1)) = false; rw [c83]; cases SS j2 (q0 - 1) <;> rfl)
                        have hO3 := DN_t (X := fun n => jw 1 (SS j n) (SS j2 n)) (r := jr) hq0 hqN (by show jw 1 (SS j (q0 - 1)) (SS j2 (q0 - 1)) = true; rw [c97, c102]; rfl)
                        exact ih56  (q0 - 1) jr (nI (q0 - 1)) f H locs ls (by omega) (by omega) (hJ3) (hO3) h_o h_ts h_ps h_bs h_rw h_gs h_fa h_ba h_it hF hw (lv_sub hl [0, 3, 2, 1, 6, 7, 8, 9] rfl)
                      · refine lv_iload E.1.1 E.1.2.1 dX6_alike_124 (lv_at hl 2 rfl) ?_
                        refine k_if0 (tgt := 133) E dX6_alike_126 (by decide) (fun c126 => ?_) (fun c126 => ?_)
                        · refine lv_iconst (v := nI 0) E.1.1 E.1.2.1 dX6_alike_133 rfl ?_
                          refine k_top E (b2i (dB (∀ n, (q0 - 1) ≤ n → n < (max (T j) (T j2) + P j / Nat.gcd (P j) (P j2) * P j2) → jw 2 (SS j n) (SS j2 n) = false))) (by rw [dB_f (fun h => by have h9 := h (q0 - 1) (by omega) (by omega); rw [c121, c126] at h9; cases h9)]; rfl) ?_
                          refine lv_istore (lv' := [(6, .int (b2i (dB (∀ n, (q0 - 1) ≤ n → n < (max (T j) (T j2) + P j / Nat.gcd (P j) (P j2) * P j2) → jw 2 (SS j n) (SS j2 n) = false)))), (5, .int (nI (q0 - 1))), (4, .int jr), (9, .int (b2i (SS j2 (q0 - 1)))), (8, .int (b2i (SS j (q0 - 1)))), (7, .int (nI (q0 - 1))), (0, .ref (A 0)), (1, .int (nI j)), (2, .int (nI j2)), (3, .int (nI wh))]) E.1.1 E.1.2.1 dX6_alike_134 hl (by decide) rfl (fun ls hl => ?_)
                          refine lv_iinc (v := (nI (q0 - 1)) + (-1)) (lv' := [(7, .int ((nI (q0 - 1)) + (-1))), (6, .int (b2i (dB (∀ n, (q0 - 1) ≤ n → n < (max (T j) (T j2) + P j / Nat.gcd (P j) (P j2) * P j2) → jw 2 (SS j n) (SS j2 n) = false)))), (5, .int (nI (q0 - 1))), (4, .int jr), (9, .int (b2i (SS j2 (q0 - 1)))), (8, .int (b2i (SS j (q0 - 1)))), (0, .ref (A 0)), (1, .int (nI j)), (2, .int (nI j2)), (3, .int (nI wh))]) E.1.1 E.1.2.1 dX6_alike_136 hl (k := 5) rfl (rfl) (by decide) rfl (fun ls hl => ?_)
                          refine lv_goto (tgt := 56) E.1.1 E.1.2.1 dX6_alike_139 (by decide) ?_
                          have hJ3 := DN_f hJ (by show jw 3 (SS j (q0 - 1)) (SS j2 (q0 - 1)) = false; rw [c83]; cases SS j2 (q0 - 1) <;> rfl)
                          have hO3 := DN_t (X := fun n => jw 1 (SS j n) (SS j2 n)) (r := jr) hq0 hqN (by show jw 1 (SS j (q0 - 1)) (SS j2 (q0 - 1)) = true; rw [c97, c102]; rfl)
                          exact ih56  (q0 - 1) jr (nI (q0 - 1)) f H locs ls (by omega) (by omega) (hJ3) (hO3) h_o h_ts h_ps h_bs h_rw h_gs h_fa h_ba h_it hF hw (lv_sub hl [0, 3, 2, 1, 6, 7, 8, 9] rfl)
                        · refine lv_iconst (v := nI 1) E.1.1 E.1.2.1 dX6_alike_129 rfl ?_
                          refine lv_goto (tgt := 134) E.1.1 E.1.2.1 dX6_alike_130 (by decide) ?_
                          refine k_top E (b2i (dB (∀ n, (q0 - 1) ≤ n → n < (max (T j) (T j2) + P j / Nat.gcd (P j) (P j2) * P j2) → jw 2 (SS j n) (SS j2 n) = false))) (by rw [dB_t (wi_s (X := fun n => jw 2 (SS j n) (SS j2 n)) (dB_iff.mp c116) (by show jw 2 (SS j (q0 - 1)) (SS j2 (q0 - 1)) = false; rw [c121, c126]; rfl))]; rfl) ?_
                          refine lv_istore (lv' := [(6, .int (b2i (dB (∀ n, (q0 - 1) ≤ n → n < (max (T j) (T j2) + P j / Nat.gcd (P j) (P j2) * P j2) → jw 2 (SS j n) (SS j2 n) = false)))), (5, .int (nI (q0 - 1))), (4, .int jr), (9, .int (b2i (SS j2 (q0 - 1)))), (8, .int (b2i (SS j (q0 - 1)))), (7, .int (nI (q0 - 1))), (0, .ref (A 0)), (1, .int (nI j)), (2, .int (nI j2)), (3, .int (nI wh))]) E.1.1 E.1.2.1 dX6_alike_134 hl (by decide) rfl (fun ls hl => ?_)
                          refine lv_iinc (v := (nI (q0 - 1)) + (-1)) (lv' := [(7, .int ((nI (q0 - 1)) + (-1))), (6, .int (b2i (dB (∀ n, (q0 - 1) ≤ n → n < (max (T j) (T j2) + P j / Nat.gcd (P j) (P j2) * P j2) → jw 2 (SS j n) (SS j2 n) = false)))), (5, .int (nI (q0 - 1))), (4, .int jr), (9, .int (b2i (SS j2 (q0 - 1)))), (8, .int (b2i (SS j (q0 - 1)))), (0, .ref (A 0)), (1, .int (nI j)), (2, .int (nI j2)), (3, .int (nI wh))]) E.1.1 E.1.2.1 dX6_alike_136 hl (k := 5) rfl (rfl) (by decide) rfl (fun ls hl => ?_)
                          refine lv_goto (tgt := 56) E.1.1 E.1.2.1 dX6_alike_139 (by decide) ?_
                          have hJ3 := DN_f hJ (by show jw 3 (SS j (q0 - 1)) (SS j2 (q0 - 1)) = false; rw [c83]; cases SS j2 (q0 - 1) <;> rfl)
                          have hO3 := DN_t (X := fun n => jw 1 (SS j n) (SS j2 n)) (r := jr) hq0 hqN (by show jw 1 (SS j (q0 - 1)) (SS j2 (q0 - 1)) = true; rw [c97, c102]; rfl)
                          exact ih56  (q0 - 1) jr (nI (q0 - 1)) f H locs ls (by omega) (by omega) (hJ3) (hO3) h_o h_ts h_ps h_bs h_rw h_gs h_fa h_ba h_it hF hw (lv_sub hl [0, 3, 2, 1, 6, 7, 8, 9] rfl)
              · refine lv_iload E.1.1 E.1.2.1 dX6_alike_86 (lv_at hl 2 rfl) ?_
                refine lv_goto (tgt := 93) E.1.1 E.1.2.1 dX6_alike_88 (by decide) ?_
                refine lv_istore (lv' := [(4, .int (nI (q0 - 1))), (9, .int (b2i (SS j2 (q0 - 1)))), (8, .int (b2i (SS j (q0 - 1)))), (7, .int (nI (q0 - 1))), (5, .int br), (6, .int (b2i (dB (∀ n, q0 ≤ n → n < (max (T j) (T j2) + P j / Nat.gcd (P j) (P j2) * P j2) → jw 2 (SS j n) (SS j2 n) = false)))), (0, .ref (A 0)), (1, .int (nI j)), (2, .int (nI j2)), (3, .int (nI wh))]) E.1.1 E.1.2.1 dX6_alike_93 hl (by decide) rfl (fun ls hl => ?_)
                refine lv_iload E.1.1 E.1.2.1 dX6_alike_95 (lv_at hl 2 rfl) ?_
                refine k_if0 (tgt := 110) E dX6_alike_97 (by decide) (fun c97 => ?_) (fun c97 => ?_)
                · refine lv_iload E.1.1 E.1.2.1 dX6_alike_110 (lv_at hl 4 rfl) ?_
                  refine lv_istore (lv' := [(5, .int br), (4, .int (nI (q0 - 1))), (9, .int (b2i (SS j2 (q0 - 1)))), (8, .int (b2i (SS j (q0 - 1)))), (7, .int (nI (q0 - 1))), (6, .int (b2i (dB (∀ n, q0 ≤ n → n < (max (T j) (T j2) + P j / Nat.gcd (P j) (P j2) * P j2) → jw 2 (SS j n) (SS j2 n) = false)))), (0, .ref (A 0)), (1, .int (nI j)), (2, .int (nI j2)), (3, .int (nI wh))]) E.1.1 E.1.2.1 dX6_alike_112 hl (by decide) rfl (fun ls hl => ?_)
                  refine lv_iload E.1.1 E.1.2.1 dX6_alike_114 (lv_at hl 5 rfl) ?_
                  refine k_if0 (tgt := 133) E dX6_alike_116 (by decide) (fun c116 => ?_) (fun c116 => ?_)
                  · refine lv_iconst (v := nI 0) E.1.1 E.1.2.1 dX6_alike_133 rfl ?_
                    refine k_top E (b2i (dB (∀ n, (q0 - 1) ≤ n → n < (max (T j) (T j2) + P j / Nat.gcd (P j) (P j2) * P j2) → jw 2 (SS j n) (SS j2 n) = false))) (by rw [dB_f (fun h => absurd (dB_t (show ∀ n, q0 ≤ n → n < (max (T j) (T j2) + P j / Nat.gcd (P j) (P j2) * P j2) → jw 2 (SS j n) (SS j2 n) = false from fun n h1 h2 => h n (by omega) h2)) (by rw [c116]; decide))]; rfl) ?_
                    refine lv_istore (lv' := [(6, .int (b2i (dB (∀ n, (q0 - 1) ≤ n → n < (max (T j) (T j2) + P j / Nat.gcd (P j) (P j2) * P j2) → jw 2 (SS j n) (SS j2 n) = false)))), (5, .int br), (4, .int (nI (q0 - 1))), (9, .int (b2i (SS j2 (q0 - 1)))), (8, .int (b2i (SS j (q0 - 1)))), (7, .int (nI (q0 - 1))), (0, .ref (A 0)), (1, .int (nI j)), (2, .int (nI j2)), (3, .int (nI wh))]) E.1.1 E.1.2.1 dX6_alike_134 hl (by decide) rfl (fun ls hl => ?_)
                    refine lv_iinc (v := (nI (q0 - 1)) + (-1)) (lv' := [(7, .int ((nI (q0 - 1)) + (-1))), (6, .int (b2i (dB (∀ n, (q0 - 1) ≤ n → n < (max (T j) (T j2) + P j / Nat.gcd (P j) (P j2) * P j2) → jw 2 (SS j n) (SS j2 n) = false)))), (5, .int br), (4, .int (nI (q0 - 1))), (9, .int (b2i (SS j2 (q0 - 1)))), (8, .int (b2i (SS j (q0 - 1)))), (0, .ref (A 0)), (1, .int (nI j)), (2, .int (nI j2)), (3, .int (nI wh))]) E.1.1 E.1.2.1 dX6_alike_136 hl (k := 5) rfl (rfl) (by decide) rfl (fun ls hl => ?_)
                    refine lv_goto (tgt := 56) E.1.1 E.1.2.1 dX6_alike_139 (by decide) ?_
                    have hJ3 := DN_t (X := fun n => jw 3 (SS j n) (SS j2 n)) (r := jr) hq0 hqN (by show jw 3 (SS j (q0 - 1)) (SS j2 (q0 - 1)) = true; exact bne_iff_ne.mpr c83)
                    have hO3 := DN_f hO (by show jw 1 (SS j (q0 - 1)) (SS j2 (q0 - 1)) = false; rw [c97]; rfl)
                    exact ih56  (q0 - 1) (nI (q0 - 1)) br f H locs ls (by omega) (by omega) (hJ3) (hO3) h_o h_ts h_ps h_bs h_rw h_gs h_fa h_ba h_it hF hw (lv_sub hl [0, 3, 2, 1, 6, 7, 8, 9] rfl)
                  · refine lv_iload E.1.1 E.1.2.1 dX6_alike_119 (lv_at hl 3 rfl) ?_
                    refine k_if0 (tgt := 129) E dX6_alike_121 (by decide) (fun c121 => ?_) (fun c121 => ?_)
                    · refine lv_iconst (v := nI 1) E.1.1 E.1.2.1 dX6_alike_129 rfl ?_
                      refine lv_goto (tgt := 134) E.1.1 E.1.2.1 dX6_alike_130 (by decide) ?_
                      refine k_top E (b2i (dB (∀ n, (q0 - 1) ≤ n → n < (max (T j) (T j2) + P j / Nat.gcd (P j) (P j2) * P j2) → jw 2 (SS j n) (SS j2 n) = false))) (by rw [dB_t (wi_s (X := fun n => jw 2 (SS j n) (SS j2 n)) (dB_iff.mp c116) (by show jw 2 (SS j (q0 - 1)) (SS j2 (q0 - 1)) = false; rw [c121]; rfl))]; rfl) ?_
                      refine lv_istore (lv' := [(6, .int (b2i (dB (∀ n, (q0 - 1) ≤ n → n < (max (T j) (T j2) + P j / Nat.gcd (P j) (P j2) * P j2) → jw 2 (SS j n) (SS j2 n) = false)))), (5, .int br), (4, .int (nI (q0 - 1))), (9, .int (b2i (SS j2 (q0 - 1)))), (8, .int (b2i (SS j (q0 - 1)))), (7, .int (nI (q0 - 1))), (0, .ref (A 0)), (1, .int (nI j)), (2, .int (nI j2)), (3, .int (nI wh))]) E.1.1 E.1.2.1 dX6_alike_134 hl (by decide) rfl (fun ls hl => ?_)
                      refine lv_iinc (v := (nI (q0 - 1)) + (-1)) (lv' := [(7, .int ((nI (q0 - 1)) + (-1))), (6, .int (b2i (dB (∀ n, (q0 - 1) ≤ n → n < (max (T j) (T j2) + P j / Nat.gcd (P j) (P j2) * P j2) → jw 2 (SS j n) (SS j2 n) = false)))), (5, .int br), (4, .int (nI (q0 - 1))), (9, .int (b2i (SS j2 (q0 - 1)))), (8, .int (b2i (SS j (q0 - 1)))), (0, .ref (A 0)), (1, .int (nI j)), (2, .int (nI j2)), (3, .int (nI wh))]) E.1.1 E.1.2.1 dX6_alike_136 hl (k := 5) rfl (rfl) (by decide) rfl (fun ls hl => ?_)
                      refine lv_goto (tgt := 56) E.1.1 E.1.2.1 dX6_alike_139 (by decide) ?_
                      have hJ3 := DN_t (X := fun n => jw 3 (SS j n) (SS j2 n)) (r := jr) hq0 hqN (by show jw 3 (SS j (q0 - 1)) (SS j2 (q0 - 1)) = true; exact bne_iff_ne.mpr c83)
                      have hO3 := DN_f hO (by show jw 1 (SS j (q0 - 1)) (SS j2 (q0 - 1)) = false; rw [c97]; rfl)
                      exact ih56  (q0 - 1) (nI (q0 - 1)) br f H locs ls (by omega) (by omega) (hJ3) (hO3) h_o h_ts h_ps h_bs h_rw h_gs h_fa h_ba h_it hF hw (lv_sub hl [0, 3, 2, 1, 6, 7, 8, 9] rfl)
                    · refine lv_iload E.1.1 E.1.2.1 dX6_alike_124 (lv_at hl 2 rfl) ?_
                      refine k_if0 (tgt := 133) E dX6_alike_126 (by decide) (fun c126 => ?_) (fun c126 => ?_)
                      · refine lv_iconst (v := nI 0) E.1.1 E.1.2.1 dX6_alike_133 rfl ?_
                        refine k_top E (b2i (dB (∀ n, (q0 - 1) ≤ n → n < (max (T j) (T j2) + P j / Nat.gcd (P j) (P j2) * P j2) → jw 2 (SS j n) (SS j2 n) = false))) (by rw [dB_f (fun h => by have h9 := h (q0 - 1) (by omega) (by omega); rw [c121, c126] at h9; cases h9)]; rfl) ?_
                        refine lv_istore (lv' := [(6, .int (b2i (dB (∀ n, (q0 - 1) ≤ n → n < (max (T j) (T j2) + P j / Nat.gcd (P j) (P j2) * P j2) → jw 2 (SS j n) (SS j2 n) = false)))), (5, .int br), (4, .int (nI (q0 - 1))), (9, .int (b2i (SS j2 (q0 - 1)))), (8, .int (b2i (SS j (q0 - 1)))), (7, .int (nI (q0 - 1))), (0, .ref (A 0)), (1, .int (nI j)), (2, .int (nI j2)), (3, .int (nI wh))]) E.1.1 E.1.2.1 dX6_alike_134 hl (by decide) rfl (fun ls hl => ?_)
                        refine lv_iinc (v := (nI (q0 - 1)) + (-1)) (lv' := [(7, .int ((nI (q0 - 1)) + (-1))), (6, .int (b2i (dB (∀ n, (q0 - 1) ≤ n → n < (max (T j) (T j2) + P j / Nat.gcd (P j) (P j2) * P j2) → jw 2 (SS j n) (SS j2 n) = false)))), (5, .int br), (4, .int (nI (q0 - 1))), (9, .int (b2i (SS j2 (q0 - 1)))), (8, .int (b2i (SS j (q0 - 1)))), (0, .ref (A 0)), (1, .int (nI j)), (2, .int (nI j2)), (3, .int (nI wh))]) E.1.1 E.1.2.1 dX6_alike_136 hl (k := 5) rfl (rfl) (by decide) rfl (fun ls hl => ?_)
                        refine lv_goto (tgt := 56) E.1.1 E.1.2.1 dX6_alike_139 (by decide) ?_
                        have hJ3 := DN_t (X := fun n => jw 3 (SS j n) (SS j2 n)) (r := jr) hq0 hqN (by show jw 3 (SS j (q0 - 1)) (SS j2 (q0 - 1)) = true; exact bne_iff_ne.mpr c83)
                        have hO3 := DN_f hO (by show jw 1 (SS j (q0 - 1)) (SS j2 (q0 - 1)) = false; rw [c97]; rfl)
                        exact ih56  (q0 - 1) (nI (q0 - 1)) br f H locs ls (by omega) (by omega) (hJ3) (hO3) h_o h_ts h_ps h_bs h_rw h_gs h_fa h_ba h_it hF hw (lv_sub hl [0, 3, 2, 1, 6, 7, 8, 9] rfl)
                      · refine lv_iconst (v := nI 1) E.1.1 E.1.2.1 dX6_alike_129 rfl ?_
                        refine lv_goto (tgt := 134) E.1.1 E.1.2.1 dX6_alike_130 (by decide) ?_
                        refine k_top E (b2i (dB (∀ n, (q0 - 1) ≤ n → n < (max (T j) (T j2) + P j / Nat.gcd (P j) (P j2) * P j2) → jw 2 (SS j n) (SS j2 n) = false))) (by rw [dB_t (wi_s (X := fun n => jw 2 (SS j n) (SS j2 n)) (dB_iff.mp c116) (by show jw 2 (SS j (q0 - 1)) (SS j2 (q0 - 1)) = false; rw [c121, c126]; rfl))]; rfl) ?_
                        refine lv_istore (lv' := [(6, .int (b2i (dB (∀ n, (q0 - 1) ≤ n → n < (max (T j) (T j2) + P j / Nat.gcd (P j) (P j2) * P j2) → jw 2 (SS j n) (SS j2 n) = false)))), (5, .int br), (4, .int (nI (q0 - 1))), (9, .int (b2i (SS j2 (q0 - 1)))), (8, .int (b2i (SS j (q0 - 1)))), (7, .int (nI (q0 - 1))), (0, .ref (A 0)), (1, .int (nI j)), (2, .int (nI j2)), (3, .int (nI wh))]) E.1.1 E.1.2.1 dX6_alike_134 hl (by decide) rfl (fun ls hl => ?_)
                        refine lv_iinc (v := (nI (q0 - 1)) + (-1)) (lv' := [(7, .int ((nI (q0 - 1)) + (-1))), (6, .int (b2i (dB (∀ n, (q0 - 1) ≤ n → n < (max (T j) (T j2) + P j / Nat.gcd (P j) (P j2) * P j2) → jw 2 (SS j n) (SS j2 n) = false)))), (5, .int br), (4, .int (nI (q0 - 1))), (9, .int (b2i (SS j2 (q0 - 1)))), (8, .int (b2i (SS j (q0 - 1)))), (0, .ref (A 0)), (1, .int (nI j)), (2, .int (nI j2)), (3, .int (nI wh))]) E.1.1 E.1.2.1 dX6_alike_136 hl (k := 5) rfl (rfl) (by decide) rfl (fun ls hl => ?_)
                        refine lv_goto (tgt := 56) E.1.1 E.1.2.1 dX6_alike_139 (by decide) ?_
                        have hJ3 := DN_t (X := fun n => jw 3 (SS j n) (SS j2 n)) (r := jr) hq0 hqN (by show jw 3 (SS j (q0 - 1)) (SS j2 (q0 - 1)) = true; exact bne_iff_ne.mpr c83)
                        have hO3 := DN_f hO (by show jw 1 (SS j (q0 - 1)) (SS j2 (q0 - 1)) = false; rw [c97]; rfl)
                        exact ih56  (q0 - 1) (nI (q0 - 1)) br f H locs ls (by omega) (by omega) (hJ3) (hO3) h_o h_ts h_ps h_bs h_rw h_gs h_fa h_ba h_it hF hw (lv_sub hl [0, 3, 2, 1, 6, 7, 8, 9] rfl)
                · refine lv_iload E.1.1 E.1.2.1 dX6_alike_100 (lv_at hl 1 rfl) ?_
                  refine k_if0 (tgt := 110) E dX6_alike_102 (by decide) (fun c102 => ?_) (fun c102 => ?_)
                  · refine lv_iload E.1.1 E.1.2.1 dX6_alike_110 (lv_at hl 4 rfl) ?_
                    refine lv_istore (lv' := [(5, .int br), (4, .int (nI (q0 - 1))), (9, .int (b2i (SS j2 (q0 - 1)))), (8, .int (b2i (SS j (q0 - 1)))), (7, .int (nI (q0 - 1))), (6, .int (b2i (dB (∀ n, q0 ≤ n → n < (max (T j) (T j2) + P j / Nat.gcd (P j) (P j2) * P j2) → jw 2 (SS j n) (SS j2 n) = false)))), (0, .ref (A 0)), (1, .int (nI j)), (2, .int (nI j2)), (3, .int (nI wh))]) E.1.1 E.1.2.1 dX6_alike_112 hl (by decide) rfl (fun ls hl => ?_)
                    refine lv_iload E.1.1 E.1.2.1 dX6_alike_114 (lv_at hl 5 rfl) ?_
                    refine k_if0 (tgt := 133) E dX6_alike_116 (by decide) (fun c116 => ?_) (fun c116 => ?_)
                    · refine lv_iconst (v := nI 0) E.1.1 E.1.2.1 dX6_alike_133 rfl ?_
                      refine k_top E (b2i (dB (∀ n, (q0 - 1) ≤ n → n < (max (T j) (T j2) + P j / Nat.gcd (P j) (P j2) * P j2) → jw 2 (SS j n) (SS j2 n) = false))) (by rw [dB_f (fun h => absurd (dB_t (show ∀ n, q0 ≤ n → n < (max (T j) (T j2) + P j / Nat.gcd (P j) (P j2) * P j2) → jw 2 (SS j n) (SS j2 n) = false from fun n h1 h2 => h n (by omega) h2)) (by rw [c116]; decide))]; rfl) ?_
                      refine lv_istore (lv' := [(6, .int (b2i (dB (∀ n, (q0 - 1) ≤ n → n < (max (T j) (T j2) + P j / Nat.gcd (P j) (P j2) * P j2) → jw 2 (SS j n) (SS j2 n) = false)))), (5, .int br), (4, .int (nI (q0 - 1))), (9, .int (b2i (SS j2 (q0 - 1)))), (8, .int (b2i (SS j (q0 - 1)))), (7, .int (nI (q0 - 1))), (0, .ref (A 0)), (1, .int (nI j)), (2, .int (nI j2)), (3, .int (nI wh))]) E.1.1 E.1.2.1 dX6_alike_134 hl (by decide) rfl (fun ls hl => ?_)
                      refine lv_iinc (v := (nI (q0 - 1)) + (-1)) (lv' := [(7, .int ((nI (q0 - 1)) + (-1))), (6, .int (b2i (dB (∀ n, (q0 - 1) ≤ n → n < (max (T j) (T j2) + P j / Nat.gcd (P j) (P j2) * P j2) → jw 2 (SS j n) (SS j2 n) = false)))), (5, .int br), (4, .int (nI (q0 - 1))), (9, .int (b2i (SS j2 (q0 - 1)))), (8, .int (b2i (SS j (q0 - 1)))), (0, .ref (A 0)), (1, .int (nI j)), (2, .int (nI j2)), (3, .int (nI wh))]) E.1.1 E.1.2.1 dX6_alike_136 hl (k := 5) rfl (rfl) (by decide) rfl (fun ls hl => ?_)
                      refine lv_goto (tgt := 56) E.1.1 E.1.2.1 dX6_alike_139 (by decide) ?_
                      have hJ3 := DN_t (X := fun n => jw 3 (SS j n) (SS j2 n)) (r := jr) hq0 hqN (by show jw 3 (SS j (q0 - 1)) (SS j2 (q0 - 1)) = true; exact bne_iff_ne.mpr c83)
                      have hO3 := DN_f hO (by show jw 1 (SS j (q0 - 1)) (SS j2 (q0 - 1)) = false; rw [c97, c102]; rfl)
                      exact ih56  (q0 - 1) (nI (q0 - 1)) br f H locs ls (by omega) (by omega) (hJ3) (hO3) h_o h_ts h_ps h_bs h_rw h_gs h_fa h_ba h_it hF hw (lv_sub hl [0, 3, 2, 1, 6, 7, 8, 9] rfl)
                    · refine lv_iload E.1.1 E.1.2.1 dX6_alike_119 (lv_at hl 3 rfl) ?_
                      refine k_if0 (tgt := 129) E dX6_alike_121 (by decide) (fun c121 => ?_) (fun c121 => ?_)
                      · refine lv_iconst (v := nI 1) E.1.1 E.1.2.1 dX6_alike_129 rfl ?_
                        refine lv_goto (tgt := 134) E.1.1 E.1.2.1 dX6_alike_130 (by decide) ?_
                        refine k_top E (b2i (dB (∀ n, (q0 - 1) ≤ n → n < (max (T j) (T j2) + P j / Nat.gcd (P j) (P j2) * P j2) → jw 2 (SS j n) (SS j2 n) = false))) (by rw [dB_t (wi_s (X := fun n => jw 2 (SS j n) (SS j2 n)) (dB_iff.mp c116) (by show jw 2 (SS j (q0 - 1)) (SS j2 (q0 - 1)) = false; rw [c121]; rfl))]; rfl) ?_
                        refine lv_istore (lv' := [(6, .int (b2i (dB (∀ n, (q0 - 1) ≤ n → n < (max (T j) (T j2) + P j / Nat.gcd (P j) (P j2) * P j2) → jw 2 (SS j n) (SS j2 n) = false)))), (5, .int br), (4, .int (nI (q0 - 1))), (9, .int (b2i (SS j2 (q0 - 1)))), (8, .int (b2i (SS j (q0 - 1)))), (7, .int (nI (q0 - 1))), (0, .ref (A 0)), (1, .int (nI j)), (2, .int (nI j2)), (3, .int (nI wh))]) E.1.1 E.1.2.1 dX6_alike_134 hl (by decide) rfl (fun ls hl => ?_)
                        refine lv_iinc (v := (nI (q0 - 1)) + (-1)) (lv' := [(7, .int ((nI (q0 - 1)) + (-1))), (6, .int (b2i (dB (∀ n, (q0 - 1) ≤ n → n < (max (T j) (T j2) + P j / Nat.gcd (P j) (P j2) * P j2) → jw 2 (SS j n) (SS j2 n) = false)))), (5, .int br), (4, .int (nI (q0 - 1))), (9, .int (b2i (SS j2 (q0 - 1)))), (8, .int (b2i (SS j (q0 - 1)))), (0, .ref (A 0)), (1, .int (nI j)), (2, .int (nI j2)), (3, .int (nI wh))]) E.1.1 E.1.2.1 dX6_alike_136 hl (k := 5) rfl (rfl) (by decide) rfl (fun ls hl => ?_)
                        refine lv_goto (tgt := 56) E.1.1 E.1.2.1 dX6_alike_139 (by decide) ?_
                        have hJ3 := DN_t (X := fun n => jw 3 (SS j n) (SS j2 n)) (r := jr) hq0 hqN (by show jw 3 (SS j (q0 - 1)) (SS j2 (q0 - 1)) = true; exact bne_iff_ne.mpr c83)
                        have hO3 := DN_f hO (by show jw 1 (SS j (q0 - 1)) (SS j2 (q0 - 1)) = false; rw [c97, c102]; rfl)
                        exact ih56  (q0 - 1) (nI (q0 - 1)) br f H locs ls (by omega) (by omega) (hJ3) (hO3) h_o h_ts h_ps h_bs h_rw h_gs h_fa h_ba h_it hF hw (lv_sub hl [0, 3, 2, 1, 6, 7, 8, 9] rfl)
                      · refine lv_iload E.1.1 E.1.2.1 dX6_alike_124 (lv_at hl 2 rfl) ?_
                        refine k_if0 (tgt := 133) E dX6_alike_126 (by decide) (fun c126 => ?_) (fun c126 => ?_)
                        · refine lv_iconst (v := nI 0) E.1.1 E.1.2.1 dX6_alike_133 rfl ?_
                          refine k_top E (b2i (dB (∀ n, (q0 - 1) ≤ n → n < (max (T j) (T j2) + P j / Nat.gcd (P j) (P j2) * P j2) → jw 2 (SS j n) (SS j2 n) = false))) (by rw [dB_f (fun h => by have h9 := h (q0 - 1) (by omega) (by omega); rw [c121, c126] at h9; cases h9)]; rfl) ?_
                          refine lv_istore (lv' := [(6, .int (b2i (dB (∀ n, (q0 - 1) ≤ n → n < (max (T j) (T j2) + P j / Nat.gcd (P j) (P j2) * P j2) → jw 2 (SS j n) (SS j2 n) = false)))), (5, .int br), (4, .int (nI (q0 - 1))), (9, .int (b2i (SS j2 (q0 - 1)))), (8, .int (b2i (SS j (q0 - 1)))), (7, .int (nI (q0 - 1))), (0, .ref (A 0)), (1, .int (nI j)), (2, .int (nI j2)), (3, .int (nI wh))]) E.1.1 E.1.2.1 dX6_alike_134 hl (by decide) rfl (fun ls hl => ?_)
                          refine lv_iinc (v := (nI (q0 - 1)) + (-1)) (lv' := [(7, .int ((nI (q0 - 1)) + (-1))), (6, .int (b2i (dB (∀ n, (q0 - 1) ≤ n → n < (max (T j) (T j2) + P j / Nat.gcd (P j) (P j2) * P j2) → jw 2 (SS j n) (SS j2 n) = false)))), (5, .int br), (4, .int (nI (q0 - 1))), (9, .int (b2i (SS j2 (q0 - 1)))), (8, .int (b2i (SS j (q0 - 1)))), (0, .ref (A 0)), (1, .int (nI j)), (2, .int (nI j2)), (3, .int (nI wh))]) E.1.1 E.1.2.1 dX6_alike_136 hl (k := 5) rfl (rfl) (by decide) rfl (fun ls hl => ?_)
                          refine lv_goto (tgt := 56) E.1.1 E.1.2.1 dX6_alike_139 (by decide) ?_
                          have hJ3 := DN_t (X := fun n => jw 3 (SS j n) (SS j2 n)) (r := jr) hq0 hqN (by show jw 3 (SS j (q0 - 1)) (SS j2 (q0 - 1)) = true; exact bne_iff_ne.mpr c83)
                          have hO3 := DN_f hO (by show jw 1 (SS j (q0 - 1)) (SS j2 (q0 - 1)) = false; rw [c97, c102]; rfl)
                          exact ih56  (q0 - 1) (nI (q0 - 1)) br f H locs ls (by omega) (by omega) (hJ3) (hO3) h_o h_ts h_ps h_bs h_rw h_gs h_fa h_ba h_it hF hw (lv_sub hl [0, 3, 2, 1, 6, 7, 8, 9] rfl)
                        · refine lv_iconst (v := nI 1) E.1.1 E.1.2.1 dX6_alike_129 rfl ?_
                          refine lv_goto (tgt := 134) E.1.1 E.1.2.1 dX6_alike_130 (by decide) ?_
                          refine k_top E (b2i (dB (∀ n, (q0 - 1) ≤ n → n < (max (T j) (T j2) + P j / Nat.gcd (P j) (P j2) * P j2) → jw 2 (SS j n) (SS j2 n) = false))) (by rw [dB_t (wi_s (X := fun n => jw 2 (SS j n) (SS j2 n)) (dB_iff.mp c116) (by show jw 2 (SS j (q0 - 1)) (SS j2 (q0 - 1)) = false; rw [c121, c126]; rfl))]; rfl) ?_
                          refine lv_istore (lv' := [(6, .int (b2i (dB (∀ n, (q0 - 1) ≤ n → n < (max (T j) (T j2) + P j / Nat.gcd (P j) (P j2) * P j2) → jw 2 (SS j n) (SS j2 n) = false)))), (5, .int br), (4, .int (nI (q0 - 1))), (9, .int (b2i (SS j2 (q0 - 1)))), (8, .int (b2i (SS j (q0 - 1)))), (7, .int (nI (q0 - 1))), (0, .ref (A 0)), (1, .int (nI j)), (2, .int (nI j2)), (3, .int (nI wh))]) E.1.1 E.1.2.1 dX6_alike_134 hl (by decide) rfl (fun ls hl => ?_)
                          refine lv_iinc (v := (nI (q0 - 1)) + (-1)) (lv' := [(7, .int ((nI (q0 - 1)) + (-1))), (6, .int (b2i (dB (∀ n, (q0 - 1) ≤ n → n < (max (T j) (T j2) + P j / Nat.gcd (P j) (P j2) * P j2) → jw 2 (SS j n) (SS j2 n) = false)))), (5, .int br), (4, .int (nI (q0 - 1))), (9, .int (b2i (SS j2 (q0 - 1)))), (8, .int (b2i (SS j (q0 - 1)))), (0, .ref (A 0)), (1, .int (nI j)), (2, .int (nI j2)), (3, .int (nI wh))]) E.1.1 E.1.2.1 dX6_alike_136 hl (k := 5) rfl (rfl) (by decide) rfl (fun ls hl => ?_)
                          refine lv_goto (tgt := 56) E.1.1 E.1.2.1 dX6_alike_139 (by decide) ?_
                          have hJ3 := DN_t (X := fun n => jw 3 (SS j n) (SS j2 n)) (r := jr) hq0 hqN (by show jw 3 (SS j (q0 - 1)) (SS j2 (q0 - 1)) = true; exact bne_iff_ne.mpr c83)
                          have hO3 := DN_f hO (by show jw 1 (SS j (q0 - 1)) (SS j2 (q0 - 1)) = false; rw [c97, c102]; rfl)
                          exact ih56  (q0 - 1) (nI (q0 - 1)) br f H locs ls (by omega) (by omega) (hJ3) (hO3) h_o h_ts h_ps h_bs h_rw h_gs h_fa h_ba h_it hF hw (lv_sub hl [0, 3, 2, 1, 6, 7, 8, 9] rfl)
                  · refine lv_iload E.1.1 E.1.2.1 dX6_alike_105 (lv_at hl 3 rfl) ?_
                    refine lv_goto (tgt := 112) E.1.1 E.1.2.1 dX6_alike_107 (by decide) ?_
                    refine lv_istore (lv' := [(5, .int (nI (q0 - 1))), (4, .int (nI (q0 - 1))), (9, .int (b2i (SS j2 (q0 - 1)))), (8, .int (b2i (SS j (q0 - 1)))), (7, .int (nI (q0 - 1))), (6, .int (b2i (dB (∀ n, q0 ≤ n → n < (max (T j) (T j2) + P j / Nat.gcd (P j) (P j2) * P j2) → jw 2 (SS j n) (SS j2 n) = false)))), (0, .ref (A 0)), (1, .int (nI j)), (2, .int (nI j2)), (3, .int (nI wh))]) E.1.1 E.1.2.1 dX6_alike_112 hl (by decide) rfl (fun ls hl => ?_)
                    refine lv_iload E.1.1 E.1.2.1 dX6_alike_114 (lv_at hl 5 rfl) ?_
                    refine k_if0 (tgt := 133) E dX6_alike_116 (by decide) (fun c116 => ?_) (fun c116 => ?_)
                    · refine lv_iconst (v := nI 0) E.1.1 E.1.2.1 dX6_alike_133 rfl ?_
                      refine k_top E (b2i (dB (∀ n, (q0 - 1) ≤ n → n < (max (T j) (T j2) + P j / Nat.gcd (P j) (P j2) * P j2) → jw 2 (SS j n) (SS j2 n) = false))) (by rw [dB_f (fun h => absurd (dB_t (show ∀ n, q0 ≤ n → n < (max (T j) (T j2) + P j / Nat.gcd (P j) (P j2) * P j2) → jw 2 (SS j n) (SS j2 n) = false from fun n h1 h2 => h n (by omega) h2)) (by rw [c116]; decide))]; rfl) ?_
                      refine lv_istore (lv' := [(6, .int (b2i (dB (∀ n, (q0 - 1) ≤ n → n < (max (T j) (T j2) + P j / Nat.gcd (P j) (P j2) * P j2) → jw 2 (SS j n) (SS j2 n) = false)))), (5, .int (nI (q0 - 1))), (4, .int (nI (q0 - 1))), (9, .int (b2i (SS j2 (q0 - 1)))), (8, .int (b2i (SS j (q0 - 1)))), (7, .int (nI (q0 - 1))), (0, .ref (A 0)), (1, .int (nI j)), (2, .int (nI j2)), (3, .int (nI wh))]) E.1.1 E.1.2.1 dX6_alike_134 hl (by decide) rfl (fun ls hl => ?_)
                      refine lv_iinc (v := (nI (q0 - 1)) + (-1)) (lv' := [(7, .int ((nI (q0 - 1)) + (-1))), (6, .int (b2i (dB (∀ n, (q0 - 1) ≤ n → n < (max (T j) (T j2) + P j / Nat.gcd (P j) (P j2) * P j2) → jw 2 (SS j n) (SS j2 n) = false)))), (5, .int (nI (q0 - 1))), (4, .int (nI (q0 - 1))), (9, .int (b2i (SS j2 (q0 - 1)))), (8, .int (b2i (SS j (q0 - 1)))), (0, .ref (A 0)), (1, .int (nI j)), (2, .int (nI j2)), (3, .int (nI wh))]) E.1.1 E.1.2.1 dX6_alike_136 hl (k := 5) rfl (rfl) (by decide) rfl (fun ls hl => ?_)
                      refine lv_goto (tgt := 56) E.1.1 E.1.2.1 dX6_alike_139 (by decide) ?_
                      have hJ3 := DN_t (X := fun n => jw 3 (SS j n) (SS j2 n)) (r := jr) hq0 hqN (by show jw 3 (SS j (q0 - 1)) (SS j2 (q0 - 1)) = true; exact bne_iff_ne.mpr c83)
                      have hO3 := DN_t (X := fun n => jw 1 (SS j n) (SS j2 n)) (r := jr) hq0 hqN (by show jw 1 (SS j (q0 - 1)) (SS j2 (q0 - 1)) = true; rw [c97, c102]; rfl)
                      exact ih56  (q0 - 1) (nI (q0 - 1)) (nI (q0 - 1)) f H locs ls (by omega) (by omega) (hJ3) (hO3) h_o h_ts h_ps h_bs h_rw h_gs h_fa h_ba h_it hF hw (lv_sub hl [0, 3, 2, 1, 6, 7, 8, 9] rfl)
                    · refine lv_iload E.1.1 E.1.2.1 dX6_alike_119 (lv_at hl 3 rfl) ?_
                      refine k_if0 (tgt := 129) E dX6_alike_121 (by decide) (fun c121 => ?_) (fun c121 => ?_)
                      · refine lv_iconst (v := nI 1) E.1.1 E.1.2.1 dX6_alike_129 rfl ?_
                        refine lv_goto (tgt := 134) E.1.1 E.1.2.1 dX6_alike_130 (by decide) ?_
                        refine k_top E (b2i (dB (∀ n, (q0 - 1) ≤ n → n < (max (T j) (T j2) + P j / Nat.gcd (P j) (P j2) * P j2) → jw 2 (SS j n) (SS j2 n) = false))) (by rw [dB_t (wi_s (X := fun n => jw 2 (SS j n) (SS j2 n)) (dB_iff.mp c116) (by show jw 2 (SS j (q0 - 1)) (SS j2 (q0 - 1)) = false; rw [c121]; rfl))]; rfl) ?_
                        refine lv_istore (lv' := [(6, .int (b2i (dB (∀ n, (q0 - 1) ≤ n → n < (max (T j) (T j2) + P j / Nat.gcd (P j) (P j2) * P j2) → jw 2 (SS j n) (SS j2 n) = false)))), (5, .int (nI (q0 - 1))), (4, .int (nI (q0 - 1))), (9, .int (b2i (SS j2 (q0 - 1)))), (8, .int (b2i (SS j (q0 - 1)))), (7, .int (nI (q0 - 1))), (0, .ref (A 0)), (1, .int (nI j)), (2, .int (nI j2)), (3, .int (nI wh))]) E.1.1 E.1.2.1 dX6_alike_134 hl (by decide) rfl (fun ls hl => ?_)
                        refine lv_iinc (v := (nI (q0 - 1)) + (-1)) (lv' := [(7, .int ((nI (q0 - 1)) + (-1))), (6, .int (b2i (dB (∀ n, (q0 - 1) ≤ n → n < (max (T j) (T j2) + P j / Nat.gcd (P j) (P j2) * P j2) → jw 2 (SS j n) (SS j2 n) = false)))), (5, .int (nI (q0 - 1))), (4, .int (nI (q0 - 1))), (9, .int (b2i (SS j2 (q0 - 1)))), (8, .int (b2i (SS j (q0 - 1)))), (0, .ref (A 0)), (1, .int (nI j)), (2, .int (nI j2)), (3, .int (nI wh))]) E.1.1 E.1.2.1 dX6_alike_136 hl (k := 5) rfl (rfl) (by decide) rfl (fun ls hl => ?_)
                        refine lv_goto (tgt := 56) E.1.1 E.1.2.1 dX6_alike_139 (by decide) ?_
                        have hJ3 := DN_t (X := fun n => jw 3 (SS j n) (SS j2 n)) (r := jr) hq0 hqN (by show jw 3 (SS j (q0 - 1)) (SS j2 (q0 - 1)) = true; exact bne_iff_ne.mpr c83)
                        have hO3 := DN_t (X := fun n => jw 1 (SS j n) (SS j2 n)) (r := jr) hq0 hqN (by show jw 1 (SS j (q0 - 1)) (SS j2 (q0 - 1)) = true; rw [c97, c102]; rfl)
                        exact ih56  (q0 - 1) (nI (q0 - 1)) (nI (q0 - 1)) f H locs ls (by omega) (by omega) (hJ3) (hO3) h_o h_ts h_ps h_bs h_rw h_gs h_fa h_ba h_it hF hw (lv_sub hl [0, 3, 2, 1, 6, 7, 8, 9] rfl)
                      · refine lv_iload E.1.1 E.1.2.1 dX6_alike_124 (lv_at hl 2 rfl) ?_
                        refine k_if0 (tgt := 133) E dX6_alike_126 (by decide) (fun c126 => ?_) (fun c126 => ?_)
                        · refine lv_iconst (v := nI 0) E.1.1 E.1.2.1 dX6_alike_133 rfl ?_
                          refine k_top E (b2i (dB (∀ n, (q0 - 1) ≤ n → n < (max (T j) (T j2) + P j / Nat.gcd (P j) (P j2) * P j2) → jw 2 (SS j n) (SS j2 n) = false))) (by rw [dB_f (fun h => by have h9 := h (q0 - 1) (by omega) (by omega); rw [c121, c126] at h9; cases h9)]; rfl) ?_
                          refine lv_istore (lv' := [(6, .int (b2i (dB (∀ n, (q0 - 1) ≤ n → n < (max (T j) (T j2) + P j / Nat.gcd (P j) (P j2) * P j2) → jw 2 (SS j n) (SS j2 n) = false)))), (5, .int (nI (q0 - 1))), (4, .int (nI (q0 - 1))), (9, .int (b2i (SS j2 (q0 - 1)))), (8, .int (b2i (SS j (q0 - 1)))), (7, .int (nI (q0 - 1))), (0, .ref (A 0)), (1, .int (nI j)), (2, .int (nI j2)), (3, .int (nI wh))]) E.1.1 E.1.2.1 dX6_alike_134 hl (by decide) rfl (fun ls hl => ?_)
                          refine lv_iinc (v := (nI (q0 - 1)) + (-1)) (lv' := [(7, .int ((nI (q0 - 1)) + (-1))), (6, .int (b2i (dB (∀ n, (q0 - 1) ≤ n → n < (max (T j) (T j2) + P j / Nat.gcd (P j) (P j2) * P j2) → jw 2 (SS j n) (SS j2 n) = false)))), (5, .int (nI (q0 - 1))), (4, .int (nI (q0 - 1))), (9, .int (b2i (SS j2 (q0 - 1)))), (8, .int (b2i (SS j (q0 - 1)))), (0, .ref (A 0)), (1, .int (nI j)), (2, .int (nI j2)), (3, .int (nI wh))]) E.1.1 E.1.2.1 dX6_alike_136 hl (k := 5) rfl (rfl) (by decide) rfl (fun ls hl => ?_)
                          refine lv_goto (tgt := 56) E.1.1 E.1.2.1 dX6_alike_139 (by decide) ?_
                          have hJ3 := DN_t (X := fun n => jw 3 (SS j n) (SS j2 n)) (r := jr) hq0 hqN (by show jw 3 (SS j (q0 - 1)) (SS j2 (q0 - 1)) = true; exact bne_iff_ne.mpr c83)
                          have hO3 := DN_t (X := fun n => jw 1 (SS j n) (SS j2 n)) (r := jr) hq0 hqN (by show jw 1 (SS j (q0 - 1)) (SS j2 (q0 - 1)) = true; rw [c97, c102]; rfl)
                          exact ih56  (q0 - 1) (nI (q0 - 1)) (nI (q0 - 1)) f H locs ls (by omega) (by omega) (hJ3) (hO3) h_o h_ts h_ps h_bs h_rw h_gs h_fa h_ba h_it hF hw (lv_sub hl [0, 3, 2, 1, 6, 7, 8, 9] rfl)
                        · refine lv_iconst (v := nI 1) E.1.1 E.1.2.1 dX6_alike_129 rfl ?_
                          refine lv_goto (tgt := 134) E.1.1 E.1.2.1 dX6_alike_130 (by decide) ?_
                          refine k_top E (b2i (dB (∀ n, (q0 - 1) ≤ n → n < (max (T j) (T j2) + P j / Nat.gcd (P j) (P j2) * P j2) → jw 2 (SS j n) (SS j2 n) = false))) (by rw [dB_t (wi_s (X := fun n => jw 2 (SS j n) (SS j2 n)) (dB_iff.mp c116) (by show jw 2 (SS j (q0 - 1)) (SS j2 (q0 - 1)) = false; rw [c121, c126]; rfl))]; rfl) ?_
                          refine lv_istore (lv' := [(6, .int (b2i (dB (∀ n, (q0 - 1) ≤ n → n < (max (T j) (T j2) + P j / Nat.gcd (P j) (P j2) * P j2) → jw 2 (SS j n) (SS j2 n) = false)))), (5, .int (nI (q0 - 1))), (4, .int (nI (q0 - 1))), (9, .int (b2i (SS j2 (q0 - 1)))), (8, .int (b2i (SS j (q0 - 1)))), (7, .int (nI (q0 - 1))), (0, .ref (A 0)), (1, .int (nI j)), (2, .int (nI j2)), (3, .int (nI wh))]) E.1.1 E.1.2.1 dX6_alike_134 hl (by decide) rfl (fun ls hl => ?_)
                          refine lv_iinc (v := (nI (q0 - 1)) + (-1)) (lv' := [(7, .int ((nI (q0 - 1)) + (-1))), (6, .int (b2i (dB (∀ n, (q0 - 1) ≤ n → n < (max (T j) (T j2) + P j / Nat.gcd (P j) (P j2) * P j2) → jw 2 (SS j n) (SS j2 n) = false)))), (5, .int (nI (q0 - 1))), (4, .int (nI (q0 - 1))), (9, .int (b2i (SS j2 (q0 - 1)))), (8, .int (b2i (SS j (q0 - 1)))), (0, .ref (A 0)), (1, .int (nI j)), (2, .int (nI j2)), (3, .int (nI wh))]) E.1.1 E.1.2.1 dX6_alike_136 hl (k := 5) rfl (rfl) (by decide) rfl (fun ls hl => ?_)
                          refine lv_goto (tgt := 56) E.1.1 E.1.2.1 dX6_alike_139 (by decide) ?_
                          have hJ3 := DN_t (X := fun n => jw 3 (SS j n) (SS j2 n)) (r := jr) hq0 hqN (by show jw 3 (SS j (q0 - 1)) (SS j2 (q0 - 1)) = true; exact bne_iff_ne.mpr c83)
                          have hO3 := DN_t (X := fun n => jw 1 (SS j n) (SS j2 n)) (r := jr) hq0 hqN (by show jw 1 (SS j (q0 - 1)) (SS j2 (q0 - 1)) = true; rw [c97, c102]; rfl)
                          exact ih56  (q0 - 1) (nI (q0 - 1)) (nI (q0 - 1)) f H locs ls (by omega) (by omega) (hJ3) (hO3) h_o h_ts h_ps h_bs h_rw h_gs h_fa h_ba h_it hF hw (lv_sub hl [0, 3, 2, 1, 6, 7, 8, 9] rfl)
        exact lp56 ((max (T j) (T j2) + P j / Nat.gcd (P j) (P j2) * P j2) + 1) (max (T j) (T j2) + P j / Nat.gcd (P j) (P j2) * P j2) (-6) (-6) f H locs ls (Nat.lt_succ_self _) (Nat.le_refl _) (DN_0 _ _) (DN_0 _ _) h_o h_ts h_ps h_bs h_rw h_gs h_fa h_ba h_it hF hw (lv_sub hl [0, 3, 2, 1, 4, 5, 6, 7] rfl)
      · refine lv_bipush (v := -2) E.1.1 E.1.2.1 dX6_alike_25 rfl ?_
        exact k_miret E hQ hlk hr hw (Nat.le_of_ble_eq_true rfl) (Nat.le_of_ble_eq_true rfl) (⟨rfl, fun b hb _ => hF b hb, ⟨hB, _, _, _, _, _, _, _, _, _, _, ⟨h_o, h_ts, h_ps, h_bs, h_rw, h_gs, h_fa, h_ba, h_it⟩, hTP, hMS, hMK⟩, by unfold rd_alike; rw [if_neg (by rintro (q | q); exact inS_t hj q; exact inS_t hj2 q), if_pos (show i32in what 0 (nI 4) = false from c22)]⟩) dX6_alike_27
    · refine lv_iconst (v := -1) E.1.1 E.1.2.1 dX6_alike_14 rfl ?_
      exact k_miret E hQ hlk hr hw (Nat.le_of_ble_eq_true rfl) (Nat.le_of_ble_eq_true rfl) (⟨rfl, fun b hb _ => hF b hb, ⟨hB, _, _, _, _, _, _, _, _, _, _, ⟨h_o, h_ts, h_ps, h_bs, h_rw, h_gs, h_fa, h_ba, h_it⟩, hTP, hMS, hMK⟩, by unfold rd_alike; rw [if_pos (Or.inr (show inS _ = false from c11))]⟩) dX6_alike_15
