/-! the model -/
def MAd (A : Nat → Nat) : Prop := ∀ i j, i < 9 → j < 9 → A i = A j → i = j
theorem MAd.ne {A : Nat → Nat} (h : MAd A) {i j : Nat} (hi : i < 9) (hj : j < 9) (hn : i ≠ j) : A i ≠ A j := fun e => hn (h i j hi hj e)
def TP (T P : Nat → Nat) : Prop := ∀ x, x < 84 → T x ≤ 120 ∧ 0 < P x ∧ P x ≤ 60
theorem TP.up {T P : Nat → Nat} (h : TP T P) {y t q : Nat} (ht : t ≤ 120) (hq : 0 < q) (hq2 : q ≤ 60) : TP (va_up T y t) (va_up P y q) := by
  intro x hx
  by_cases e : x = y
  · rw [e, va_up_self, va_up_self]; exact ⟨ht, hq, hq2⟩
  · rw [va_up_ne _ _ e, va_up_ne _ _ e]; exact h x hx
theorem up_st (T : Nat → Nat) (y v i : Nat) : (if i = y then nI v else nI (T i)) = nI (va_up T y v i) := by
  by_cases h : i = y
  · rw [if_pos h, h, va_up_self]
  · rw [if_neg h, va_up_ne _ _ h]
theorem sh63 : ∀ i, i < 64 → (((nI i).toInt64 &&& 63).toBitVec.smod 64) = BitVec.ofNat 64 i := by decide +kernel
theorem tb1 {j : Nat} (h : ¬ j = 0) : Nat.testBit 1 j = false := Bool.eq_false_iff.mpr (fun q => h (Nat.testBit_one_eq_true_iff_self_eq_zero.mp q))
theorem sar_nat {a i : Nat} (hi : i < 64) : (lN a >>> ((nI i).toInt64 &&& 63)) &&& 1 = lN (if a.testBit i then 1 else 0) := by
  apply Int64.toBitVec_inj.mp
  rw [Int64.toBitVec_and, Int64.toBitVec_shiftRight, sh63 i hi]
  apply BitVec.eq_of_getLsbD_eq
  intro j hj
  rw [BitVec.getLsbD_and, BitVec.sshiftRight', BitVec.getLsbD_sshiftRight]
  have e1 : (BitVec.ofNat 64 i).toNat = i := by rw [BitVec.toNat_ofNat]; exact Nat.mod_eq_of_lt (by omega)
  have e2 : (lN a).toBitVec = BitVec.ofNat 64 a := rfl
  have e3 : (1 : Int64).toBitVec = BitVec.ofNat 64 1 := rfl
  have e4 : (lN (if a.testBit i then 1 else 0)).toBitVec = BitVec.ofNat 64 (if a.testBit i then 1 else 0) := rfl
  rw [e1, e2, e3, e4]
  by_cases h0 : j = 0
  · subst h0
    simp only [BitVec.getLsbD_ofNat]
    cases h : a.testBit i <;> simp [h, hi]
  · have e5 : (BitVec.ofNat 64 1).getLsbD j = false := by
      rw [BitVec.getLsbD_ofNat]
      rw [tb1 h0, Bool.and_false]
    rw [e5, Bool.and_false, BitVec.getLsbD_ofNat]
    split
    · rw [tb1 h0, Bool.and_false]
    · simp
theorem sar_bit {b : Nat → Bool} {n i : Nat} : ((wd b i) >>> ((nI (n % 64)).toInt64 &&& 63)) &&& 1 = lN (if b (64 * i + n % 64) then 1 else 0) := by
  unfold wd
  rw [sar_nat (by omega), wd_tb (by omega)]
theorem cmp_1e (x : Bool) : lg_cmp (lN (if x then 1 else 0)) 1 = 0 ↔ x = true := by cases x <;> decide +kernel
/-- words copied from the set x to the set y, the first i of them -/
def cpw (B : Nat → Nat → Bool) (x y i : Nat) : Nat → Int64 := fun w => if w / 3 = y ∧ w % 3 < i then rw3 B (3 * x + w % 3) else rw3 B w
theorem cpw_0 (B : Nat → Nat → Bool) (x y : Nat) : cpw B x y 0 = rw3 B := by
  funext w
  simp [cpw]
theorem cpw_ld (B : Nat → Nat → Bool) (x y : Nat) {i : Nat} (hi : i < 3) : cpw B x y i (3 * x + i) = wd (B x) i := by
  unfold cpw
  rw [if_neg (by omega), rw3_at' B x hi]
theorem cpw_s (B : Nat → Nat → Bool) (x y : Nat) {i : Nat} (hi : i < 3) (w : Nat) : (if w = 3 * y + i then wd (B x) i else cpw B x y i w) = cpw B x y (i + 1) w := by
  unfold cpw
  by_cases h : w = 3 * y + i
  · rw [if_pos h, if_pos (by omega), show w % 3 = i by omega, rw3_at' B x hi]
  · rw [if_neg h]
    by_cases h2 : w / 3 = y ∧ w % 3 < i
    · rw [if_pos h2, if_pos (by omega)]
    · rw [if_neg h2, if_neg (by omega)]
theorem cpw_3 (B : Nat → Nat → Bool) (x y : Nat) : cpw B x y 3 = rw3 (va_up B y (B x)) := by
  funext w
  unfold cpw
  by_cases h : w / 3 = y
  · rw [if_pos ⟨h, by omega⟩, rw3_at' B x (by omega)]
    unfold rw3
    rw [h, va_up_self]
  · rw [if_neg (fun q => h q.1)]
    unfold rw3
    rw [va_up_ne _ _ h]
theorem rz_s' (B : Nat → Nat → Bool) {x i : Nat} (hi : i < 3) (w : Nat) : (if w = 3 * x + i then 0 else rz B x i w) = rz B x (i + 1) w := by
  rw [Nat.mul_comm]; exact rz_s B hi w
theorem st_rest' (B : Nat → Nat → Bool) (X : Nat → Bool) (x : Nat) {u : Nat} (hu : u < 192) (w : Nat) : (if w = 3 * x + u / 64 then wd (rb X u) (u / 64) ||| lN (if X u then 2 ^ (u % 64) else 0) else rw3 (va_up B x (rb X u)) w) = rw3 (va_up B x (rb X (u + 1))) w := by
  rw [Nat.mul_comm]; exact st_rest B X x hu w
def CRm (rr : Nat → Bool) (fr pb q : Nat) : Prop := pb % q = 0 ∧ ∀ i, i < pb → rr (fr + i) = rr (fr + (i + q) % pb)
theorem crm_ev {rr : Nat → Bool} {fr pb q : Nat} (hp : 0 < pb) (h : CRm rr fr pb q) : EvP (den fr pb rr) fr q := by
  intro n hn
  unfold den
  rw [fold_ge hp hn, fold_ge hp (by omega)]
  have h1 := h.2 ((n - fr) % pb) (Nat.mod_lt _ hp)
  rw [h1, show n + q - fr = (n - fr) + q by omega, Nat.mod_add_mod]
theorem ev_crm {rr : Nat → Bool} {fr pb q : Nat} (hp : 0 < pb) (hd : pb % q = 0) (h : EvP (den fr pb rr) fr q) : CRm rr fr pb q := by
  refine ⟨hd, fun i hi => ?_⟩
  have h1 := h (fr + i) (by omega)
  unfold den at h1
  rw [fold_ge hp (by omega), fold_ge hp (by omega), show fr + i - fr = i by omega, show fr + i + q - fr = i + q by omega, Nat.mod_eq_of_lt hi] at h1
  exact h1
theorem crm_self (rr : Nat → Bool) (fr pb : Nat) : CRm rr fr pb pb := ⟨Nat.mod_self pb, fun i hi => by rw [Nat.add_mod_right, Nat.mod_eq_of_lt hi]⟩
theorem ev_bk {S : Nat → Bool} {t0 g fr pb : Nat} (hp : 0 < pb) (h0 : EvP S fr pb) (h : EvP S t0 g) : EvP S fr g := by
  intro n hn
  have h3 := h0.mul t0
  have h4 : t0 ≤ t0 * pb := Nat.le_mul_of_pos_right t0 hp
  rw [h3 n hn, h3 (n + g) (by omega), h (n + t0 * pb) (by omega)]
  congr 1
  omega
theorem short_canon {rr : Nat → Bool} {fr pb q t : Nat} (hp : 0 < pb) (hq : 0 < q) (hmin : ∀ j, 1 ≤ j → j < q → ¬ CRm rr fr pb j) (ht : EvP (den fr pb rr) t q) (hlast : t = 0 ∨ den fr pb rr (t - 1) ≠ den fr pb rr (t - 1 + q)) : Canon (den fr pb rr) t q := by
  have h0 := den_ev (t := fr) (per := pb) rr hp
  refine ⟨hq, ht, fun q' t' hq' hE => ?_, fun t' hE => ?_⟩
  · obtain ⟨t2, hg⟩ := EvP.gcd (q' + pb) q' pb t' fr (Nat.le_refl _) hq' hp hE h0
    have hgp : 0 < Nat.gcd q' pb := Nat.gcd_pos_of_pos_left _ hq'
    have hle : Nat.gcd q' pb ≤ q' := Nat.gcd_le_left _ hq'
    rcases Nat.lt_or_ge (Nat.gcd q' pb) q with z | z
    · exact absurd (ev_crm hp (Nat.mod_eq_zero_of_dvd (Nat.gcd_dvd_right q' pb)) (ev_bk hp h0 hg)) (hmin _ hgp z)
    · omega
  · rcases Nat.lt_or_ge t' t with z | z
    · rcases hlast with e | e
      · omega
      · exact absurd (hE (t - 1) (by omega)) e
    · exact z
theorem ev_down {S : Nat → Bool} {t q : Nat} (h : EvP S t q) (h2 : S (t - 1) = S (t - 1 + q)) : EvP S (t - 1) q := by
  intro n hn
  by_cases e : n = t - 1
  · rw [e]; exact h2
  · exact h n (by omega)
theorem kept_set {X rr : Nat → Bool} {t q : Nat} (h : Canon X t q) (hq : q ≤ 60) (ht : t ≤ 120) (hx : ∀ n, n < t + q → rr n = X n) : SetIs X t q (rb rr (t + q)) := by
  refine ⟨h, hq, ht, fun n hn => ?_, fun n hn _ => ?_⟩
  · simp only [rb]; rw [if_pos hn, hx n hn]
  · simp only [rb]; rw [if_neg (by omega)]
theorem kept_no {X : Nat → Bool} {t q : Nat} (h : Canon X t q) (hb : 60 < q ∨ 120 < t) : ¬ Fits X := by
  rintro ⟨t', q', hc, h1, h2⟩
  obtain ⟨e1, e2⟩ := hc.uni h
  omega
/-- a rest of a set is one that can be kept -/
theorem rest_fits {S : Nat → Bool} {t q base d : Nat} (hb : 0 < base) (ht : t ≤ 120) (hq0 : 0 < q) (hq : q ≤ 60) (h : EvP S t q) {t' q' : Nat} (hc : Canon (skD S base d) t' q') : q' ≤ 60 ∧ t' ≤ 120 := by
  have h1 := skD_ev (d := d) hb h
  have h2 := hc.2.2.1 q t hq0 h1
  have h3 := hc.2.2.2 t (ev_bk hq0 h1 hc.2.1)
  omega
set_option maxHeartbeats 4000000 in
set_option maxRecDepth 100000 in
theorem m_in (l : Launch) (D : va_G) (cy : Nat → ClassId) (L : List Nat) (f : Nat → va_E) (sz : Nat) (x lo hi : Int32) : Met l yX6_in (.code yX6_in cX6_in 3 (Option.some FieldType.boolean) :: wsL_law) { frames := 0, cells := 0, slots := 0, locals := 0 } (va_Pc [.int x, .int lo, .int hi] (PW D cy L f sz)) (vp_Si (fun r => r = b2i (i32in x lo hi))) 0 0 (fun _ => False) := by
  refine m_start (by decide) (Nat.le_of_ble_eq_true rfl) ?_
  intro p e R Q s m args below meth c ls hsz hR hQ E hr hlk hnm hw hl
  have hl : lv_has ls 3 [(0, .int x), (1, .int lo), (2, .int hi)] := hl
  refine lv_iload_n E.1.1 E.1.2.1 dX6_in_0 rfl (lv_at hl 0 rfl) ?_
  refine lv_iload_n E.1.1 E.1.2.1 dX6_in_1 rfl (lv_at hl 1 rfl) ?_
  refine lv_icmp_lt (tgt := 14) E.1.1 E.1.2.1 dX6_in_2 (by decide) (fun c2 => ?_) (fun c2 => ?_)
  · refine lv_iconst (v := nI 0) E.1.1 E.1.2.1 dX6_in_14 rfl ?_
    refine k_top E (b2i false) rfl ?_
    exact k_zret E hQ hlk hr (by rw [i32in, decide_eq_false (fa_lt_nle c2)]; rfl) dX6_in_15
  · refine lv_iload_n E.1.1 E.1.2.1 dX6_in_5 rfl (lv_at hl 0 rfl) ?_
    refine lv_iload_n E.1.1 E.1.2.1 dX6_in_6 rfl (lv_at hl 2 rfl) ?_
    refine lv_icmp_gt (tgt := 14) E.1.1 E.1.2.1 dX6_in_7 (by decide) (fun c7 => ?_) (fun c7 => ?_)
    · refine lv_iconst (v := nI 0) E.1.1 E.1.2.1 dX6_in_14 rfl ?_
      refine k_top E (b2i false) rfl ?_
      exact k_zret E hQ hlk hr (by rw [i32in, decide_eq_true (fa_of_nlt c2), decide_eq_false (fa_lt_nle c7)]; rfl) dX6_in_15
    · refine lv_iconst (v := nI 1) E.1.1 E.1.2.1 dX6_in_10 rfl ?_
      refine lv_goto (tgt := 15) E.1.1 E.1.2.1 dX6_in_11 (by decide) ?_
      refine k_top E (b2i true) rfl ?_
      exact k_zret E hQ hlk hr (by rw [i32in, decide_eq_true (fa_of_nlt c2), decide_eq_true (fa_of_nlt c7)]; rfl) dX6_in_15

set_option maxHeartbeats 4000000 in
set_option maxRecDepth 100000 in
theorem m_isSlot (l : Launch) (D : va_G) (cy : Nat → ClassId) (L : List Nat) (f : Nat → va_E) (sz : Nat) (x : Int32) : Met l yX6_isSlot (.code yX6_isSlot cX6_isSlot 1 (Option.some FieldType.boolean) :: wsL_law) { frames := 1, cells := 0, slots := 0, locals := 22 } (va_Pc [.int x] (PW D cy L f sz)) (vp_Si (fun r => r = b2i (i32in x 0 (nI 5)))) 0 0 (fun _ => False) := by
  refine m_start (by decide) (Nat.le_of_ble_eq_true rfl) ?_
  intro p e R Q s m args below meth c ls hsz hR hQ E hr hlk hnm hw hl
  have hl : lv_has ls 1 [(0, .int x)] := hl
  refine lv_iload_n E.1.1 E.1.2.1 dX6_isSlot_0 rfl (lv_at hl 0 rfl) ?_
  refine lv_iconst (v := nI 0) E.1.1 E.1.2.1 dX6_isSlot_1 rfl ?_
  refine lv_iconst (v := nI 5) E.1.1 E.1.2.1 dX6_isSlot_2 rfl ?_
  refine k_ri (va_runS (As := [.int x, .int (nI 0), .int (nI 5)]) (rest := []) E.1 (m_in l D cy L f s.heap.size x (nI 0) (nI 5)) ⟨callB_of 3 E.1.2.2.2.2 (gd_own w3_43) rfl rfl rfl (E.1.2.2.2.2 _ w1_10) (E.1.2.2.2.2 _ w3_41) hd_X6_in (by rw [hR]; exact ⟨Nat.le_of_ble_eq_true rfl, Nat.le_of_ble_eq_true rfl⟩), E.1.2.2.2.2 _ w3_42⟩ (pw_pre E.2 hw) rfl rfl hl.1 rfl (lv_room (Nat.le_of_ble_eq_true rfl)) dX6_isSlot_3 ⟨Nat.zero_le _, Nat.zero_le _⟩) ?_
  exact k_zret E hQ hlk hr (rfl) dX6_isSlot_6

set_option maxHeartbeats 4000000 in
set_option maxRecDepth 100000 in
theorem m_isIn (l : Launch) (D : va_G) (cy : Nat → ClassId) (L : List Nat) (f : Nat → va_E) (sz : Nat) (A : Nat → Nat) (base fr pb ns : Nat) (T P : Nat → Nat) (B : Nat → Nat → Bool) (rr : Nat → Bool) (G : Nat → Int32) (hA : MAd A) (hTP : TP T P) (x n : Nat) (hx : x < 84) (hn : n < 2147483648) (h_o : cel L f (A 0) (.inr (6, [.int (nI base), .ref (A 1), .ref (A 2), .ref (A 3), .ref (A 4), .int (nI fr), .int (nI pb), .ref (A 5), .int (nI ns), .ref (A 6), .ref (A 7), .ref (A 8)]))) (h_ts : cel L f (A 1) (.inl (cy 0, 84, .inl (fun k => nI (T k))))) (h_ps : cel L f (A 2) (.inl (cy 0, 84, .inl (fun k => nI (P k))))) (h_bs : cel L f (A 3) (.inl (cy 1, 252, .inr (.inl (rw3 B))))) : Met l yX6_isIn (.code yX6_isIn cX6_isIn 6 (Option.some FieldType.boolean) :: wsL_law) { frames := 0, cells := 0, slots := 0, locals := 0 } (va_Pc [.ref (A 0), .int (nI x), .int (nI n)] (PW D cy L f sz)) (vp_Si (fun r => r = b2i (den (T x) (P x) (B x) n))) 0 0 (fun _ => False) := by
  refine m_start (by decide) (Nat.le_of_ble_eq_true rfl) ?_
  intro p e R Q s m args below meth c ls hsz hR hQ E hr hlk hnm hw hl
  have hl : lv_has ls 6 [(0, .ref (A 0)), (1, .int (nI x)), (2, .int (nI n))] := hl
  have hTx := hTP x hx
  refine lv_aload_n E.1.1 E.1.2.1 dX6_isIn_0 rfl (lv_at hl 0 rfl) ?_
  refine k_get (v := .ref (A 1)) E inlX6 rfl 1 (by decide) w2_233 rfl hw h_o rfl dX6_isIn_1 ?_
  refine lv_iload_n E.1.1 E.1.2.1 dX6_isIn_4 rfl (lv_at hl 1 rfl) ?_
  refine k_iald E hw (v := nI (T x)) h_ts (by omega) (by omega) (rfl) dX6_isIn_5 ?_
  refine lv_istore_n (lv' := [(3, .int (nI (T x))), (0, .ref (A 0)), (1, .int (nI x)), (2, .int (nI n))]) E.1.1 E.1.2.1 dX6_isIn_6 rfl hl (by decide) rfl (fun ls hl => ?_)
  refine lv_aload_n E.1.1 E.1.2.1 dX6_isIn_7 rfl (lv_at hl 1 rfl) ?_
  refine k_get (v := .ref (A 2)) E inlX6 rfl 2 (by decide) w2_234 rfl hw h_o rfl dX6_isIn_8 ?_
  refine lv_iload_n E.1.1 E.1.2.1 dX6_isIn_11 rfl (lv_at hl 2 rfl) ?_
  refine k_iald E hw (v := nI (P x)) h_ps (by omega) (by omega) (rfl) dX6_isIn_12 ?_
  refine lv_istore (lv' := [(4, .int (nI (P x))), (3, .int (nI (T x))), (0, .ref (A 0)), (1, .int (nI x)), (2, .int (nI n))]) E.1.1 E.1.2.1 dX6_isIn_13 hl (by decide) rfl (fun ls hl => ?_)
  refine lv_iload_n E.1.1 E.1.2.1 dX6_isIn_15 rfl (lv_at hl 4 rfl) ?_
  refine lv_iload_n E.1.1 E.1.2.1 dX6_isIn_16 rfl (lv_at hl 1 rfl) ?_
  refine lv_iload E.1.1 E.1.2.1 dX6_isIn_17 (lv_at hl 0 rfl) ?_
  refine k_add E dX6_isIn_19 ?_
  refine k_ge (tgt := 27) E dX6_isIn_20 (by decide) (by omega) (by omega) (fun c20 => ?_) (fun c20 => ?_)
  · refine lv_iload_n E.1.1 E.1.2.1 dX6_isIn_27 rfl (lv_at hl 1 rfl) ?_
    refine lv_iload_n E.1.1 E.1.2.1 dX6_isIn_28 rfl (lv_at hl 4 rfl) ?_
    refine lv_iload_n E.1.1 E.1.2.1 dX6_isIn_29 rfl (lv_at hl 1 rfl) ?_
    refine k_sub E dX6_isIn_30 (by omega) ?_
    refine lv_iload E.1.1 E.1.2.1 dX6_isIn_31 (lv_at hl 0 rfl) ?_
    refine k_rem E dX6_isIn_33 (by omega) (by omega) (by omega) ?_
    refine k_add E dX6_isIn_34 ?_
    refine k_top E (nI (fold (T x) (P x) n)) (by rw [fold, if_neg (by omega)]) ?_
    have hfo := fold_lt (t := T x) (p := P x) (n := n) hTx.2.1
    refine lv_istore (lv' := [(5, .int (nI (fold (T x) (P x) n))), (4, .int (nI (P x))), (3, .int (nI (T x))), (0, .ref (A 0)), (1, .int (nI x)), (2, .int (nI n))]) E.1.1 E.1.2.1 dX6_isIn_35 hl (by decide) rfl (fun ls hl => ?_)
    refine lv_aload_n E.1.1 E.1.2.1 dX6_isIn_37 rfl (lv_at hl 3 rfl) ?_
    refine k_get (v := .ref (A 3)) E inlX6 rfl 3 (by decide) w2_235 rfl hw h_o rfl dX6_isIn_38 ?_
    refine lv_iconst (v := nI 3) E.1.1 E.1.2.1 dX6_isIn_41 rfl ?_
    refine lv_iload_n E.1.1 E.1.2.1 dX6_isIn_42 rfl (lv_at hl 4 rfl) ?_
    refine k_mul E dX6_isIn_43 ?_
    refine lv_iload E.1.1 E.1.2.1 dX6_isIn_44 (lv_at hl 0 rfl) ?_
    refine lv_bipush (v := nI 64) E.1.1 E.1.2.1 dX6_isIn_46 rfl ?_
    refine k_div E dX6_isIn_48 (by omega) (by omega) (by omega) ?_
    refine k_add E dX6_isIn_49 ?_
    refine k_lald E hw (v := wd (B x) ((fold (T x) (P x) n) / 64)) h_bs (by omega) (by omega) (rw3_at' B x (by omega)) dX6_isIn_50 ?_
    refine lv_iload E.1.1 E.1.2.1 dX6_isIn_51 (lv_at hl 0 rfl) ?_
    refine lv_bipush (v := nI 64) E.1.1 E.1.2.1 dX6_isIn_53 rfl ?_
    refine k_rem E dX6_isIn_55 (by omega) (by omega) (by omega) ?_
    refine lv_lshr E.1.1 E.1.2.1 dX6_isIn_56 rfl ?_
    refine lv_lconst (v := 1) E.1.1 E.1.2.1 dX6_isIn_57 rfl ?_
    refine lv_land E.1.1 E.1.2.1 dX6_isIn_58 ?_
    refine k_topl E (lN (if B x (fold (T x) (P x) n) then 1 else 0)) (by rw [sar_bit, show 64 * ((fold (T x) (P x) n) / 64) + (fold (T x) (P x) n) % 64 = fold (T x) (P x) n by omega]) ?_
    refine lv_lconst (v := 1) E.1.1 E.1.2.1 dX6_isIn_59 rfl ?_
    refine W.lcmp E.1.1 E.1.2.1 dX6_isIn_60 ?_
    refine lv_if_ne (tgt := 68) E.1.1 E.1.2.1 dX6_isIn_61 (by decide) (fun c61 => ?_) (fun c61 => ?_)
    · refine lv_iconst (v := nI 0) E.1.1 E.1.2.1 dX6_isIn_68 rfl ?_
      refine k_top E (b2i false) rfl ?_
      exact k_zret E hQ hlk hr (by rw [den, show B x (fold (T x) (P x) n) = false from Bool.eq_false_iff.mpr (fun q => c61 ((cmp_1e _).mpr q))]) dX6_isIn_69
    · refine lv_iconst (v := nI 1) E.1.1 E.1.2.1 dX6_isIn_64 rfl ?_
      refine lv_goto (tgt := 69) E.1.1 E.1.2.1 dX6_isIn_65 (by decide) ?_
      refine k_top E (b2i true) rfl ?_
      exact k_zret E hQ hlk hr (by rw [den, (cmp_1e _).mp c61]) dX6_isIn_69
  · refine lv_iload_n E.1.1 E.1.2.1 dX6_isIn_23 rfl (lv_at hl 4 rfl) ?_
    refine lv_goto (tgt := 35) E.1.1 E.1.2.1 dX6_isIn_24 (by decide) ?_
    refine k_top E (nI (fold (T x) (P x) n)) (by rw [fold, if_pos c20]) ?_
    have hfo := fold_lt (t := T x) (p := P x) (n := n) hTx.2.1
    refine lv_istore (lv' := [(5, .int (nI (fold (T x) (P x) n))), (4, .int (nI (P x))), (3, .int (nI (T x))), (0, .ref (A 0)), (1, .int (nI x)), (2, .int (nI n))]) E.1.1 E.1.2.1 dX6_isIn_35 hl (by decide) rfl (fun ls hl => ?_)
    refine lv_aload_n E.1.1 E.1.2.1 dX6_isIn_37 rfl (lv_at hl 3 rfl) ?_
    refine k_get (v := .ref (A 3)) E inlX6 rfl 3 (by decide) w2_235 rfl hw h_o rfl dX6_isIn_38 ?_
    refine lv_iconst (v := nI 3) E.1.1 E.1.2.1 dX6_isIn_41 rfl ?_
    refine lv_iload_n E.1.1 E.1.2.1 dX6_isIn_42 rfl (lv_at hl 4 rfl) ?_
    refine k_mul E dX6_isIn_43 ?_
    refine lv_iload E.1.1 E.1.2.1 dX6_isIn_44 (lv_at hl 0 rfl) ?_
    refine lv_bipush (v := nI 64) E.1.1 E.1.2.1 dX6_isIn_46 rfl ?_
    refine k_div E dX6_isIn_48 (by omega) (by omega) (by omega) ?_
    refine k_add E dX6_isIn_49 ?_
    refine k_lald E hw (v := wd (B x) ((fold (T x) (P x) n) / 64)) h_bs (by omega) (by omega) (rw3_at' B x (by omega)) dX6_isIn_50 ?_
    refine lv_iload E.1.1 E.1.2.1 dX6_isIn_51 (lv_at hl 0 rfl) ?_
    refine lv_bipush (v := nI 64) E.1.1 E.1.2.1 dX6_isIn_53 rfl ?_
    refine k_rem E dX6_isIn_55 (by omega) (by omega) (by omega) ?_
    refine lv_lshr E.1.1 E.1.2.1 dX6_isIn_56 rfl ?_
    refine lv_lconst (v := 1) E.1.1 E.1.2.1 dX6_isIn_57 rfl ?_
    refine lv_land E.1.1 E.1.2.1 dX6_isIn_58 ?_
    refine k_topl E (lN (if B x (fold (T x) (P x) n) then 1 else 0)) (by rw [sar_bit, show 64 * ((fold (T x) (P x) n) / 64) + (fold (T x) (P x) n) % 64 = fold (T x) (P x) n by omega]) ?_
    refine lv_lconst (v := 1) E.1.1 E.1.2.1 dX6_isIn_59 rfl ?_
    refine W.lcmp E.1.1 E.1.2.1 dX6_isIn_60 ?_
    refine lv_if_ne (tgt := 68) E.1.1 E.1.2.1 dX6_isIn_61 (by decide) (fun c61 => ?_) (fun c61 => ?_)
    · refine lv_iconst (v := nI 0) E.1.1 E.1.2.1 dX6_isIn_68 rfl ?_
      refine k_top E (b2i false) rfl ?_
      exact k_zret E hQ hlk hr (by rw [den, show B x (fold (T x) (P x) n) = false from Bool.eq_false_iff.mpr (fun q => c61 ((cmp_1e _).mpr q))]) dX6_isIn_69
    · refine lv_iconst (v := nI 1) E.1.1 E.1.2.1 dX6_isIn_64 rfl ?_
      refine lv_goto (tgt := 69) E.1.1 E.1.2.1 dX6_isIn_65 (by decide) ?_
      refine k_top E (b2i true) rfl ?_
      exact k_zret E hQ hlk hr (by rw [den, (cmp_1e _).mp c61]) dX6_isIn_69

set_option maxHeartbeats 4000000 in
set_option maxRecDepth 100000 in
theorem m_copy (l : Launch) (D : va_G) (cy : Nat → ClassId) (L : List Nat) (f0 : Nat → va_E) (sz : Nat) (A : Nat → Nat) (base fr pb ns : Nat) (T P : Nat → Nat) (B : Nat → Nat → Bool) (rr : Nat → Bool) (G : Nat → Int32) (hA : MAd A) (hTP : TP T P) (x y : Nat) (hx : x < 84) (hy : y < 84) (h_o : cel L f0 (A 0) (.inr (6, [.int (nI base), .ref (A 1), .ref (A 2), .ref (A 3), .ref (A 4), .int (nI fr), .int (nI pb), .ref (A 5), .int (nI ns), .ref (A 6), .ref (A 7), .ref (A 8)]))) (h_ts : cel L f0 (A 1) (.inl (cy 0, 84, .inl (fun k => nI (T k))))) (h_ps : cel L f0 (A 2) (.inl (cy 0, 84, .inl (fun k => nI (P k))))) (h_bs : cel L f0 (A 3) (.inl (cy 1, 252, .inr (.inl (rw3 B))))) : Met l yX6_copy (.code yX6_copy cX6_copy 4 none :: wsL_law) { frames := 0, cells := 0, slots := 0, locals := 0 } (va_Pc [.ref (A 0), .int (nI x), .int (nI y)] (PW D cy L f0 sz)) (va_Qv (fun u : List Nat × (Nat → va_E) => L = u.1 ∧ (∀ b ∈ L, b ≠ (A 1) → b ≠ (A 2) → b ≠ (A 3) → u.2 b = f0 b) ∧ cel L u.2 (A 1) (.inl (cy 0, 84, .inl (fun k => nI ((va_up T y (T x)) k)))) ∧ cel L u.2 (A 2) (.inl (cy 0, 84, .inl (fun k => nI ((va_up P y (P x)) k)))) ∧ cel L u.2 (A 3) (.inl (cy 1, 252, .inr (.inl (rw3 (va_up B y (B x))))))) (PB D (AW L sz)) (AW L sz)) 0 0 (AW L sz) := by
  refine m_start (by decide) (Nat.le_of_ble_eq_true rfl) ?_
  intro p e R Q s m args below meth c ls hsz hR hQ E hr hlk hnm hw hl
  have hl : lv_has ls 4 [(0, .ref (A 0)), (1, .int (nI x)), (2, .int (nI y))] := hl
  obtain ⟨H, hH⟩ : ∃ X, X = s.heap := ⟨_, rfl⟩
  obtain ⟨locs, hlocs⟩ : ∃ X : List Loc, X = [] := ⟨_, rfl⟩
  have hw0 := hw
  obtain ⟨f, hf0⟩ : ∃ X, X = f0 := ⟨_, rfl⟩
  rw [← hf0] at h_o h_ts h_ps h_bs
  have hw : WW D (AW L sz) s.heap L f H locs := by rw [hH, hlocs, hf0]; exact hw
  have hF : ∀ b ∈ L, b ≠ (A 1) → b ≠ (A 2) → b ≠ (A 3) → f b = f0 b := fun b hb h0 h1 h2 => by rw [hf0]
  suffices hgo : W p l e R s m args below meth c H locs 0 0 Q (F0 m 0 ls []) by rw [hH, hlocs] at hgo; exact hgo
  clear hH hlocs hw0 hf0
  have hLs : ∀ b ∈ L, b ∈ L := fun _ h => h
  have n_o_ts : A 0 ≠ A 1 := hA.ne (by decide) (by decide) (by decide)
  have n_o_ps : A 0 ≠ A 2 := hA.ne (by decide) (by decide) (by decide)
  have n_o_bs : A 0 ≠ A 3 := hA.ne (by decide) (by decide) (by decide)
  have n_ts_ps : A 1 ≠ A 2 := hA.ne (by decide) (by decide) (by decide)
  have n_ts_bs : A 1 ≠ A 3 := hA.ne (by decide) (by decide) (by decide)
  have n_ps_bs : A 2 ≠ A 3 := hA.ne (by decide) (by decide) (by decide)
  have hTx := hTP x hx
  refine lv_aload_n E.1.1 E.1.2.1 dX6_copy_0 rfl (lv_at hl 0 rfl) ?_
  refine k_get (v := .ref (A 1)) E inlX6 rfl 1 (by decide) w2_233 rfl hw h_o rfl dX6_copy_1 ?_
  refine lv_iload_n E.1.1 E.1.2.1 dX6_copy_4 rfl (lv_at hl 2 rfl) ?_
  refine lv_aload_n E.1.1 E.1.2.1 dX6_copy_5 rfl (lv_at hl 0 rfl) ?_
  refine k_get (v := .ref (A 1)) E inlX6 rfl 1 (by decide) w2_233 rfl hw h_o rfl dX6_copy_6 ?_
  refine lv_iload_n E.1.1 E.1.2.1 dX6_copy_9 rfl (lv_at hl 1 rfl) ?_
  refine k_iald E hw (v := nI (T x)) h_ts (by omega) (by omega) (rfl) dX6_copy_10 ?_
  refine k_iast E hw (fun k => nI (va_up T y (T x) k)) h_ts (by omega) (by omega) (fun i _ => up_st T _ _ i) dX6_copy_11 (fun f H locs h_ts hfr hw => ?_)
  have h_o := h_o.kp hfr n_o_ts
  have h_ps := h_ps.kp hfr (Ne.symm n_ts_ps)
  have h_bs := h_bs.kp hfr (Ne.symm n_ts_bs)
  have hF : ∀ b ∈ L, b ≠ (A 1) → b ≠ (A 2) → b ≠ (A 3) → f b = f0 b := fun b hb h0 h1 h2 => (hfr b h0).trans (hF b hb h0 h1 h2)
  refine lv_aload_n E.1.1 E.1.2.1 dX6_copy_12 rfl (lv_at hl 0 rfl) ?_
  refine k_get (v := .ref (A 2)) E inlX6 rfl 2 (by decide) w2_234 rfl hw h_o rfl dX6_copy_13 ?_
  refine lv_iload_n E.1.1 E.1.2.1 dX6_copy_16 rfl (lv_at hl 2 rfl) ?_
  refine lv_aload_n E.1.1 E.1.2.1 dX6_copy_17 rfl (lv_at hl 0 rfl) ?_
  refine k_get (v := .ref (A 2)) E inlX6 rfl 2 (by decide) w2_234 rfl hw h_o rfl dX6_copy_18 ?_
  refine lv_iload_n E.1.1 E.1.2.1 dX6_copy_21 rfl (lv_at hl 1 rfl) ?_
  refine k_iald E hw (v := nI (P x)) h_ps (by omega) (by omega) (rfl) dX6_copy_22 ?_
  refine k_iast E hw (fun k => nI (va_up P y (P x) k)) h_ps (by omega) (by omega) (fun i _ => up_st P _ _ i) dX6_copy_23 (fun f H locs h_ps hfr hw => ?_)
  have h_o := h_o.kp hfr n_o_ps
  have h_ts := h_ts.kp hfr n_ts_ps
  have h_bs := h_bs.kp hfr (Ne.symm n_ps_bs)
  have hF : ∀ b ∈ L, b ≠ (A 1) → b ≠ (A 2) → b ≠ (A 3) → f b = f0 b := fun b hb h0 h1 h2 => (hfr b h1).trans (hF b hb h0 h1 h2)
  rw [← cpw_0 B x y] at h_bs
  refine lv_iconst (v := nI 0) E.1.1 E.1.2.1 dX6_copy_24 rfl ?_
  refine lv_istore_n (lv' := [(3, .int (nI 0)), (0, .ref (A 0)), (1, .int (nI x)), (2, .int (nI y))]) E.1.1 E.1.2.1 dX6_copy_25 rfl hl (by decide) rfl (fun ls hl => ?_)
  have lp26 : ∀ (k : Nat) (i : Nat) (f : Nat → va_E) (H : Heap) (locs : List Loc) (ls : Array Slot), (3 - i < k) → (i ≤ 3) → (cel L f (A 0) (.inr (6, [.int (nI base), .ref (A 1), .ref (A 2), .ref (A 3), .ref (A 4), .int (nI fr), .int (nI pb), .ref (A 5), .int (nI ns), .ref (A 6), .ref (A 7), .ref (A 8)]))) → (cel L f (A 1) (.inl (cy 0, 84, .inl (fun k => nI (va_up T y (T x) k))))) → (cel L f (A 2) (.inl (cy 0, 84, .inl (fun k => nI (va_up P y (P x) k))))) → (cel L f (A 3) (.inl (cy 1, 252, .inr (.inl (cpw B x y i))))) → (∀ b ∈ L, b ≠ (A 1) → b ≠ (A 2) → b ≠ (A 3) → f b = f0 b) → (WW D (AW L sz) s.heap L f H locs) → (lv_has ls 4 [(3, .int (nI i)), (0, .ref (A 0)), (1, .int (nI x)), (2, .int (nI y))]) → W p l e R s m args below meth c H locs 0 0 Q (F0 m 26 ls []) := by
    intro k
    induction k with
    | zero => intro _ _ _ _ _ hk; exact absurd hk (Nat.not_lt_zero _)
    | succ k ih26 =>
      intro i f H locs ls hk hi h_o h_ts h_ps h_bs hF hw hl
      refine lv_iload_n E.1.1 E.1.2.1 dX6_copy_26 rfl (lv_at hl 0 rfl) ?_
      refine lv_iconst (v := nI 3) E.1.1 E.1.2.1 dX6_copy_27 rfl ?_
      refine k_ge (tgt := 57) E dX6_copy_28 (by decide) (by omega) (by omega) (fun c28 => ?_) (fun c28 => ?_)
      · rw [show i = 3 by omega, cpw_3 B x y] at h_bs
        exact k_mvret E hQ hlk hr hw (Nat.le_of_ble_eq_true rfl) (Nat.le_of_ble_eq_true rfl) (⟨rfl, hF, h_ts, h_ps, h_bs⟩) dX6_copy_57
      · refine lv_aload_n E.1.1 E.1.2.1 dX6_copy_31 rfl (lv_at hl 1 rfl) ?_
        refine k_get (v := .ref (A 3)) E inlX6 rfl 3 (by decide) w2_235 rfl hw h_o rfl dX6_copy_32 ?_
        refine lv_iconst (v := nI 3) E.1.1 E.1.2.1 dX6_copy_35 rfl ?_
        refine lv_iload_n E.1.1 E.1.2.1 dX6_copy_36 rfl (lv_at hl 3 rfl) ?_
        refine k_mul E dX6_copy_37 ?_
        refine lv_iload_n E.1.1 E.1.2.1 dX6_copy_38 rfl (lv_at hl 0 rfl) ?_
        refine k_add E dX6_copy_39 ?_
        refine lv_aload_n E.1.1 E.1.2.1 dX6_copy_40 rfl (lv_at hl 1 rfl) ?_
        refine k_get (v := .ref (A 3)) E inlX6 rfl 3 (by decide) w2_235 rfl hw h_o rfl dX6_copy_41 ?_
        refine lv_iconst (v := nI 3) E.1.1 E.1.2.1 dX6_copy_44 rfl ?_
        refine lv_iload_n E.1.1 E.1.2.1 dX6_copy_45 rfl (lv_at hl 2 rfl) ?_
        refine k_mul E dX6_copy_46 ?_
        refine lv_iload_n E.1.1 E.1.2.1 dX6_copy_47 rfl (lv_at hl 0 rfl) ?_
        refine k_add E dX6_copy_48 ?_
        refine k_lald E hw (v := wd (B x) i) h_bs (by omega) (by omega) (cpw_ld B x y (by omega)) dX6_copy_49 ?_
        refine k_last E hw (cpw B x y (i + 1)) h_bs (by omega) (by omega) (fun w _ => cpw_s B x y (by omega) w) dX6_copy_50 (fun f H locs h_bs hfr hw => ?_)
        have h_o := h_o.kp hfr n_o_bs
        have h_ts := h_ts.kp hfr n_ts_bs
        have h_ps := h_ps.kp hfr n_ps_bs
        have hF : ∀ b ∈ L, b ≠ (A 1) → b ≠ (A 2) → b ≠ (A 3) → f b = f0 b := fun b hb h0 h1 h2 => (hfr b h2).trans (hF b hb h0 h1 h2)
        refine lv_iinc (v := nI (i + 1)) (lv' := [(3, .int (nI (i + 1))), (0, .ref (A 0)), (1, .int (nI x)), (2, .int (nI y))]) E.1.1 E.1.2.1 dX6_copy_51 hl (k := 0) rfl (nI_1 _) (by decide) rfl (fun ls hl => ?_)
        refine lv_goto (tgt := 26) E.1.1 E.1.2.1 dX6_copy_54 (by decide) ?_
        exact ih26  (i + 1) f H locs ls (by omega) (by omega) h_o h_ts h_ps h_bs hF hw (lv_sub hl [0, 1, 2, 3] rfl)
  exact lp26 (3 - 0 + 1) 0 f H locs ls (Nat.lt_succ_self _) (by omega) h_o h_ts h_ps h_bs hF hw (lv_sub hl [0, 1, 2, 3] rfl)

set_option maxHeartbeats 4000000 in
set_option maxRecDepth 100000 in
theorem m_areSame (l : Launch) (D : va_G) (cy : Nat → ClassId) (L : List Nat) (f : Nat → va_E) (sz : Nat) (A : Nat → Nat) (base fr pb ns : Nat) (T P : Nat → Nat) (B : Nat → Nat → Bool) (rr : Nat → Bool) (G : Nat → Int32) (hA : MAd A) (hTP : TP T P) (x y : Nat) (hx : x < 84) (hy : y < 84) (h_o : cel L f (A 0) (.inr (6, [.int (nI base), .ref (A 1), .ref (A 2), .ref (A 3), .ref (A 4), .int (nI fr), .int (nI pb), .ref (A 5), .int (nI ns), .ref (A 6), .ref (A 7), .ref (A 8)]))) (h_ts : cel L f (A 1) (.inl (cy 0, 84, .inl (fun k => nI (T k))))) (h_ps : cel L f (A 2) (.inl (cy 0, 84, .inl (fun k => nI (P k))))) (h_bs : cel L f (A 3) (.inl (cy 1, 252, .inr (.inl (rw3 B))))) : Met l yX6_areSame (.code yX6_areSame cX6_areSame 5 (Option.some FieldType.boolean) :: wsL_law) { frames := 0, cells := 0, slots := 0, locals := 0 } (va_Pc [.ref (A 0), .int (nI x), .int (nI y)] (PW D cy L f sz)) (vp_Si (fun r => r = b2i (dB (T x = T y ∧ P x = P y ∧ SameR (B x) (B y))))) 0 0 (fun _ => False) := by
  refine m_start (by decide) (Nat.le_of_ble_eq_true rfl) ?_
  intro p e R Q s m args below meth c ls hsz hR hQ E hr hlk hnm hw hl
  have hl : lv_has ls 5 [(0, .ref (A 0)), (1, .int (nI x)), (2, .int (nI y))] := hl
  have hTx := hTP x hx
  have hTy := hTP y hy
  refine lv_aload_n E.1.1 E.1.2.1 dX6_areSame_0 rfl (lv_at hl 0 rfl) ?_
  refine k_get (v := .ref (A 1)) E inlX6 rfl 1 (by decide) w2_233 rfl hw h_o rfl dX6_areSame_1 ?_
  refine lv_iload_n E.1.1 E.1.2.1 dX6_areSame_4 rfl (lv_at hl 1 rfl) ?_
  refine k_iald E hw (v := nI (T x)) h_ts (by omega) (by omega) (rfl) dX6_areSame_5 ?_
  refine lv_aload_n E.1.1 E.1.2.1 dX6_areSame_6 rfl (lv_at hl 0 rfl) ?_
  refine k_get (v := .ref (A 1)) E inlX6 rfl 1 (by decide) w2_233 rfl hw h_o rfl dX6_areSame_7 ?_
  refine lv_iload_n E.1.1 E.1.2.1 dX6_areSame_10 rfl (lv_at hl 2 rfl) ?_
  refine k_iald E hw (v := nI (T y)) h_ts (by omega) (by omega) (rfl) dX6_areSame_11 ?_
  refine k_ne (tgt := 34) E dX6_areSame_12 (by decide) (by omega) (by omega) (fun c12 => ?_) (fun c12 => ?_)
  · refine lv_iconst (v := nI 0) E.1.1 E.1.2.1 dX6_areSame_34 rfl ?_
    refine k_top E (b2i (dB (T x = T y ∧ P x = P y ∧ ∀ j, j < 0 → wd (B x) j = wd (B y) j))) (by rw [dB_f (fun h => c12 h.1)]; rfl) ?_
    refine lv_istore_n (lv' := [(3, .int (b2i (dB (T x = T y ∧ P x = P y ∧ ∀ j, j < 0 → wd (B x) j = wd (B y) j)))), (0, .ref (A 0)), (1, .int (nI x)), (2, .int (nI y))]) E.1.1 E.1.2.1 dX6_areSame_35 rfl hl (by decide) rfl (fun ls hl => ?_)
    refine lv_iconst (v := nI 0) E.1.1 E.1.2.1 dX6_areSame_36 rfl ?_
    refine lv_istore (lv' := [(4, .int (nI 0)), (3, .int (b2i (dB (T x = T y ∧ P x = P y ∧ ∀ j, j < 0 → wd (B x) j = wd (B y) j)))), (0, .ref (A 0)), (1, .int (nI x)), (2, .int (nI y))]) E.1.1 E.1.2.1 dX6_areSame_37 hl (by decide) rfl (fun ls hl => ?_)
    have lp39 : ∀ (k : Nat) (i : Nat) (ls : Array Slot), (3 - i < k) → (i ≤ 3) → (lv_has ls 5 [(4, .int (nI i)), (3, .int (b2i (dB (T x = T y ∧ P x = P y ∧ ∀ j, j < i → wd (B x) j = wd (B y) j)))), (0, .ref (A 0)), (1, .int (nI x)), (2, .int (nI y))]) → W p l e R s m args below meth c s.heap [] 0 0 Q (F0 m 39 ls []) := by
      intro k
      induction k with
      | zero => intro _ _ hk; exact absurd hk (Nat.not_lt_zero _)
      | succ k ih39 =>
        intro i  ls hk hi hl
        refine lv_iload E.1.1 E.1.2.1 dX6_areSame_39 (lv_at hl 0 rfl) ?_
        refine lv_iconst (v := nI 3) E.1.1 E.1.2.1 dX6_areSame_41 rfl ?_
        refine k_ge (tgt := 87) E dX6_areSame_42 (by decide) (by omega) (by omega) (fun c42 => ?_) (fun c42 => ?_)
        · refine lv_iload_n E.1.1 E.1.2.1 dX6_areSame_87 rfl (lv_at hl 1 rfl) ?_
          exact k_zret E hQ hlk hr (by rw [show i = 3 by omega, same_wd]) dX6_areSame_88
        · refine lv_iload_n E.1.1 E.1.2.1 dX6_areSame_45 rfl (lv_at hl 1 rfl) ?_
          refine k_if0 (tgt := 79) E dX6_areSame_46 (by decide) (fun c46 => ?_) (fun c46 => ?_)
          · refine lv_iconst (v := nI 0) E.1.1 E.1.2.1 dX6_areSame_79 rfl ?_
            refine k_top E (b2i (dB (T x = T y ∧ P x = P y ∧ ∀ j, j < (i + 1) → wd (B x) j = wd (B y) j))) (by rw [dB_f (fun h => absurd (dB_t (show T x = T y ∧ P x = P y ∧ ∀ j, j < i → wd (B x) j = wd (B y) j from ⟨h.1, h.2.1, fun j hj => h.2.2 j (by omega)⟩)) (by rw [c46]; decide))]; rfl) ?_
            refine lv_istore_n (lv' := [(3, .int (b2i (dB (T x = T y ∧ P x = P y ∧ ∀ j, j < (i + 1) → wd (B x) j = wd (B y) j)))), (4, .int (nI i)), (0, .ref (A 0)), (1, .int (nI x)), (2, .int (nI y))]) E.1.1 E.1.2.1 dX6_areSame_80 rfl hl (by decide) rfl (fun ls hl => ?_)
            refine lv_iinc (v := nI (i + 1)) (lv' := [(4, .int (nI (i + 1))), (3, .int (b2i (dB (T x = T y ∧ P x = P y ∧ ∀ j, j < (i + 1) → wd (B x) j = wd (B y) j)))), (0, .ref (A 0)), (1, .int (nI x)), (2, .int (nI y))]) E.1.1 E.1.2.1 dX6_areSame_81 hl (k := 1) rfl (nI_1 _) (by decide) rfl (fun ls hl => ?_)
            refine lv_goto (tgt := 39) E.1.1 E.1.2.1 dX6_areSame_84 (by decide) ?_
            exact ih39  (i + 1) ls (by omega) (by omega)  (lv_sub hl [0, 1, 2, 3, 4] rfl)
          · refine lv_aload_n E.1.1 E.1.2.1 dX6_areSame_49 rfl (lv_at hl 2 rfl) ?_
            refine k_get (v := .ref (A 3)) E inlX6 rfl 3 (by decide) w2_235 rfl hw h_o rfl dX6_areSame_50 ?_
            refine lv_iconst (v := nI 3) E.1.1 E.1.2.1 dX6_areSame_53 rfl ?_
            refine lv_iload_n E.1.1 E.1.2.1 dX6_areSame_54 rfl (lv_at hl 3 rfl) ?_
            refine k_mul E dX6_areSame_55 ?_
            refine lv_iload E.1.1 E.1.2.1 dX6_areSame_56 (lv_at hl 0 rfl) ?_
            refine k_add E dX6_areSame_58 ?_
            refine k_lald E hw (v := wd (B x) i) h_bs (by omega) (by omega) (rw3_at' B x (by omega)) dX6_areSame_59 ?_
            refine lv_aload_n E.1.1 E.1.2.1 dX6_areSame_60 rfl (lv_at hl 2 rfl) ?_
            refine k_get (v := .ref (A 3)) E inlX6 rfl 3 (by decide) w2_235 rfl hw h_o rfl dX6_areSame_61 ?_
            refine lv_iconst (v := nI 3) E.1.1 E.1.2.1 dX6_areSame_64 rfl ?_
            refine lv_iload_n E.1.1 E.1.2.1 dX6_areSame_65 rfl (lv_at hl 4 rfl) ?_
            refine k_mul E dX6_areSame_66 ?_
            refine lv_iload E.1.1 E.1.2.1 dX6_areSame_67 (lv_at hl 0 rfl) ?_
            refine k_add E dX6_areSame_69 ?_
            refine k_lald E hw (v := wd (B y) i) h_bs (by omega) (by omega) (rw3_at' B y (by omega)) dX6_areSame_70 ?_
            refine W.lcmp E.1.1 E.1.2.1 dX6_areSame_71 ?_
            refine lv_if_ne (tgt := 79) E.1.1 E.1.2.1 dX6_areSame_72 (by decide) (fun c72 => ?_) (fun c72 => ?_)
            · refine lv_iconst (v := nI 0) E.1.1 E.1.2.1 dX6_areSame_79 rfl ?_
              refine k_top E (b2i (dB (T x = T y ∧ P x = P y ∧ ∀ j, j < (i + 1) → wd (B x) j = wd (B y) j))) (by rw [dB_f (fun h => c72 ((lg_cmp_eq _ _).mpr (h.2.2 i (by omega))))]; rfl) ?_
              refine lv_istore_n (lv' := [(3, .int (b2i (dB (T x = T y ∧ P x = P y ∧ ∀ j, j < (i + 1) → wd (B x) j = wd (B y) j)))), (4, .int (nI i)), (0, .ref (A 0)), (1, .int (nI x)), (2, .int (nI y))]) E.1.1 E.1.2.1 dX6_areSame_80 rfl hl (by decide) rfl (fun ls hl => ?_)
              refine lv_iinc (v := nI (i + 1)) (lv' := [(4, .int (nI (i + 1))), (3, .int (b2i (dB (T x = T y ∧ P x = P y ∧ ∀ j, j < (i + 1) → wd (B x) j = wd (B y) j)))), (0, .ref (A 0)), (1, .int (nI x)), (2, .int (nI y))]) E.1.1 E.1.2.1 dX6_areSame_81 hl (k := 1) rfl (nI_1 _) (by decide) rfl (fun ls hl => ?_)
              refine lv_goto (tgt := 39) E.1.1 E.1.2.1 dX6_areSame_84 (by decide) ?_
              exact ih39  (i + 1) ls (by omega) (by omega)  (lv_sub hl [0, 1, 2, 3, 4] rfl)
            · refine lv_iconst (v := nI 1) E.1.1 E.1.2.1 dX6_areSame_75 rfl ?_
              refine lv_goto (tgt := 80) E.1.1 E.1.2.1 dX6_areSame_76 (by decide) ?_
              refine k_top E (b2i (dB (T x = T y ∧ P x = P y ∧ ∀ j, j < (i + 1) → wd (B x) j = wd (B y) j))) (by rw [dB_t ⟨(dB_iff.mp c46).1, (dB_iff.mp c46).2.1, lt_s (dB_iff.mp c46).2.2 ((lg_cmp_eq _ _).mp c72)⟩]; rfl) ?_
              refine lv_istore_n (lv' := [(3, .int (b2i (dB (T x = T y ∧ P x = P y ∧ ∀ j, j < (i + 1) → wd (B x) j = wd (B y) j)))), (4, .int (nI i)), (0, .ref (A 0)), (1, .int (nI x)), (2, .int (nI y))]) E.1.1 E.1.2.1 dX6_areSame_80 rfl hl (by decide) rfl (fun ls hl => ?_)
              refine lv_iinc (v := nI (i + 1)) (lv' := [(4, .int (nI (i + 1))), (3, .int (b2i (dB (T x = T y ∧ P x = P y ∧ ∀ j, j < (i + 1) → wd (B x) j = wd (B y) j)))), (0, .ref (A 0)), (1, .int (nI x)), (2, .int (nI y))]) E.1.1 E.1.2.1 dX6_areSame_81 hl (k := 1) rfl (nI_1 _) (by decide) rfl (fun ls hl => ?_)
              refine lv_goto (tgt := 39) E.1.1 E.1.2.1 dX6_areSame_84 (by decide) ?_
              exact ih39  (i + 1) ls (by omega) (by omega)  (lv_sub hl [0, 1, 2, 3, 4] rfl)
    exact lp39 (3 - 0 + 1) 0 ls (Nat.lt_succ_self _) (by omega)  (lv_sub hl [0, 1, 2, 3, 4] rfl)
  · refine lv_aload_n E.1.1 E.1.2.1 dX6_areSame_15 rfl (lv_at hl 0 rfl) ?_
    refine k_get (v := .ref (A 2)) E inlX6 rfl 2 (by decide) w2_234 rfl hw h_o rfl dX6_areSame_16 ?_
    refine lv_iload_n E.1.1 E.1.2.1 dX6_areSame_19 rfl (lv_at hl 1 rfl) ?_
    refine k_iald E hw (v := nI (P x)) h_ps (by omega) (by omega) (rfl) dX6_areSame_20 ?_
    refine lv_aload_n E.1.1 E.1.2.1 dX6_areSame_21 rfl (lv_at hl 0 rfl) ?_
    refine k_get (v := .ref (A 2)) E inlX6 rfl 2 (by decide) w2_234 rfl hw h_o rfl dX6_areSame_22 ?_
    refine lv_iload_n E.1.1 E.1.2.1 dX6_areSame_25 rfl (lv_at hl 2 rfl) ?_
    refine k_iald E hw (v := nI (P y)) h_ps (by omega) (by omega) (rfl) dX6_areSame_26 ?_
    refine k_ne (tgt := 34) E dX6_areSame_27 (by decide) (by omega) (by omega) (fun c27 => ?_) (fun c27 => ?_)
    · refine lv_iconst (v := nI 0) E.1.1 E.1.2.1 dX6_areSame_34 rfl ?_
      refine k_top E (b2i (dB (T x = T y ∧ P x = P y ∧ ∀ j, j < 0 → wd (B x) j = wd (B y) j))) (by rw [dB_f (fun h => c27 h.2.1)]; rfl) ?_
      refine lv_istore_n (lv' := [(3, .int (b2i (dB (T x = T y ∧ P x = P y ∧ ∀ j, j < 0 → wd (B x) j = wd (B y) j)))), (0, .ref (A 0)), (1, .int (nI x)), (2, .int (nI y))]) E.1.1 E.1.2.1 dX6_areSame_35 rfl hl (by decide) rfl (fun ls hl => ?_)
      refine lv_iconst (v := nI 0) E.1.1 E.1.2.1 dX6_areSame_36 rfl ?_
      refine lv_istore (lv' := [(4, .int (nI 0)), (3, .int (b2i (dB (T x = T y ∧ P x = P y ∧ ∀ j, j < 0 → wd (B x) j = wd (B y) j)))), (0, .ref (A 0)), (1, .int (nI x)), (2, .int (nI y))]) E.1.1 E.1.2.1 dX6_areSame_37 hl (by decide) rfl (fun ls hl => ?_)
      have lp39 : ∀ (k : Nat) (i : Nat) (ls : Array Slot), (3 - i < k) → (i ≤ 3) → (lv_has ls 5 [(4, .int (nI i)), (3, .int (b2i (dB (T x = T y ∧ P x = P y ∧ ∀ j, j < i → wd (B x) j = wd (B y) j)))), (0, .ref (A 0)), (1, .int (nI x)), (2, .int (nI y))]) → W p l e R s m args below meth c s.heap [] 0 0 Q (F0 m 39 ls []) := by
        intro k
        induction k with
        | zero => intro _ _ hk; exact absurd hk (Nat.not_lt_zero _)
        | succ k ih39 =>
          intro i  ls hk hi hl
          refine lv_iload E.1.1 E.1.2.1 dX6_areSame_39 (lv_at hl 0 rfl) ?_
          refine lv_iconst (v := nI 3) E.1.1 E.1.2.1 dX6_areSame_41 rfl ?_
          refine k_ge (tgt := 87) E dX6_areSame_42 (by decide) (by omega) (by omega) (fun c42 => ?_) (fun c42 => ?_)
          · refine lv_iload_n E.1.1 E.1.2.1 dX6_areSame_87 rfl (lv_at hl 1 rfl) ?_
            exact k_zret E hQ hlk hr (by rw [show i = 3 by omega, same_wd]) dX6_areSame_88
          · refine lv_iload_n E.1.1 E.1.2.1 dX6_areSame_45 rfl (lv_at hl 1 rfl) ?_
            refine k_if0 (tgt := 79) E dX6_areSame_46 (by decide) (fun c46 => ?_) (fun c46 => ?_)
            · refine lv_iconst (v := nI 0) E.1.1 E.1.2.1 dX6_areSame_79 rfl ?_
              refine k_top E (b2i (dB (T x = T y ∧ P x = P y ∧ ∀ j, j < (i + 1) → wd (B x) j = wd (B y) j))) (by rw [dB_f (fun h => absurd (dB_t (show T x = T y ∧ P x = P y ∧ ∀ j, j < i → wd (B x) j = wd (B y) j from ⟨h.1, h.2.1, fun j hj => h.2.2 j (by omega)⟩)) (by rw [c46]; decide))]; rfl) ?_
              refine lv_istore_n (lv' := [(3, .int (b2i (dB (T x = T y ∧ P x = P y ∧ ∀ j, j < (i + 1) → wd (B x) j = wd (B y) j)))), (4, .int (nI i)), (0, .ref (A 0)), (1, .int (nI x)), (2, .int (nI y))]) E.1.1 E.1.2.1 dX6_areSame_80 rfl hl (by decide) rfl (fun ls hl => ?_)
              refine lv_iinc (v := nI (i + 1)) (lv' := [(4, .int (nI (i + 1))), (3, .int (b2i (dB (T x = T y ∧ P x = P y ∧ ∀ j, j < (i + 1) → wd (B x) j = wd (B y) j)))), (0, .ref (A 0)), (1, .int (nI x)), (2, .int (nI y))]) E.1.1 E.1.2.1 dX6_areSame_81 hl (k := 1) rfl (nI_1 _) (by decide) rfl (fun ls hl => ?_)
              refine lv_goto (tgt := 39) E.1.1 E.1.2.1 dX6_areSame_84 (by decide) ?_
              exact ih39  (i + 1) ls (by omega) (by omega)  (lv_sub hl [0, 1, 2, 3, 4] rfl)
            · refine lv_aload_n E.1.1 E.1.2.1 dX6_areSame_49 rfl (lv_at hl 2 rfl) ?_
              refine k_get (v := .ref (A 3)) E inlX6 rfl 3 (by decide) w2_235 rfl hw h_o rfl dX6_areSame_50 ?_
              refine lv_iconst (v := nI 3) E.1.1 E.1.2.1 dX6_areSame_53 rfl ?_
              refine lv_iload_n E.1.1 E.1.2.1 dX6_areSame_54 rfl (lv_at hl 3 rfl) ?_
              refine k_mul E dX6_areSame_55 ?_
              refine lv_iload E.1.1 E.1.2.1 dX6_areSame_56 (lv_at hl 0 rfl) ?_
              refine k_add E dX6_areSame_58 ?_
              refine k_lald E hw (v := wd (B x) i) h_bs (by omega) (by omega) (rw3_at' B x (by omega)) dX6_areSame_59 ?_
              refine lv_aload_n E.1.1 E.1.2.1 dX6_areSame_60 rfl (lv_at hl 2 rfl) ?_
              refine k_get (v := .ref (A 3)) E inlX6 rfl 3 (by decide) w2_235 rfl hw h_o rfl dX6_areSame_61 ?_
              refine lv_iconst (v := nI 3) E.1.1 E.1.2.1 dX6_areSame_64 rfl ?_
              refine lv_iload_n E.1.1 E.1.2.1 dX6_areSame_65 rfl (lv_at hl 4 rfl) ?_
              refine k_mul E dX6_areSame_66 ?_
              refine lv_iload E.1.1 E.1.2.1 dX6_areSame_67 (lv_at hl 0 rfl) ?_
              refine k_add E dX6_areSame_69 ?_
              refine k_lald E hw (v := wd (B y) i) h_bs (by omega) (by omega) (rw3_at' B y (by omega)) dX6_areSame_70 ?_
              refine W.lcmp E.1.1 E.1.2.1 dX6_areSame_71 ?_
              refine lv_if_ne (tgt := 79) E.1.1 E.1.2.1 dX6_areSame_72 (by decide) (fun c72 => ?_) (fun c72 => ?_)
              · refine lv_iconst (v := nI 0) E.1.1 E.1.2.1 dX6_areSame_79 rfl ?_
                refine k_top E (b2i (dB (T x = T y ∧ P x = P y ∧ ∀ j, j < (i + 1) → wd (B x) j = wd (B y) j))) (by rw [dB_f (fun h => c72 ((lg_cmp_eq _ _).mpr (h.2.2 i (by omega))))]; rfl) ?_
                refine lv_istore_n (lv' := [(3, .int (b2i (dB (T x = T y ∧ P x = P y ∧ ∀ j, j < (i + 1) → wd (B x) j = wd (B y) j)))), (4, .int (nI i)), (0, .ref (A 0)), (1, .int (nI x)), (2, .int (nI y))]) E.1.1 E.1.2.1 dX6_areSame_80 rfl hl (by decide) rfl (fun ls hl => ?_)
                refine lv_iinc (v := nI (i + 1)) (lv' := [(4, .int (nI (i + 1))), (3, .int (b2i (dB (T x = T y ∧ P x = P y ∧ ∀ j, j < (i + 1) → wd (B x) j = wd (B y) j)))), (0, .ref (A 0)), (1, .int (nI x)), (2, .int (nI y))]) E.1.1 E.1.2.1 dX6_areSame_81 hl (k := 1) rfl (nI_1 _) (by decide) rfl (fun ls hl => ?_)
                refine lv_goto (tgt := 39) E.1.1 E.1.2.1 dX6_areSame_84 (by decide) ?_
                exact ih39  (i + 1) ls (by omega) (by omega)  (lv_sub hl [0, 1, 2, 3, 4] rfl)
              · refine lv_iconst (v := nI 1) E.1.1 E.1.2.1 dX6_areSame_75 rfl ?_
                refine lv_goto (tgt := 80) E.1.1 E.1.2.1 dX6_areSame_76 (by decide) ?_
                refine k_top E (b2i (dB (T x = T y ∧ P x = P y ∧ ∀ j, j < (i + 1) → wd (B x) j = wd (B y) j))) (by rw [dB_t ⟨(dB_iff.mp c46).1, (dB_iff.mp c46).2.1, lt_s (dB_iff.mp c46).2.2 ((lg_cmp_eq _ _).mp c72)⟩]; rfl) ?_
                refine lv_istore_n (lv' := [(3, .int (b2i (dB (T x = T y ∧ P x = P y ∧ ∀ j, j < (i + 1) → wd (B x) j = wd (B y) j)))), (4, .int (nI i)), (0, .ref (A 0)), (1, .int (nI x)), (2, .int (nI y))]) E.1.1 E.1.2.1 dX6_areSame_80 rfl hl (by decide) rfl (fun ls hl => ?_)
                refine lv_iinc (v := nI (i + 1)) (lv' := [(4, .int (nI (i + 1))), (3, .int (b2i (dB (T x = T y ∧ P x = P y ∧ ∀ j, j < (i + 1) → wd (B x) j = wd (B y) j)))), (0, .ref (A 0)), (1, .int (nI x)), (2, .int (nI y))]) E.1.1 E.1.2.1 dX6_areSame_81 hl (k := 1) rfl (nI_1 _) (by decide) rfl (fun ls hl => ?_)
                refine lv_goto (tgt := 39) E.1.1 E.1.2.1 dX6_areSame_84 (by decide) ?_
                exact ih39  (i + 1) ls (by omega) (by omega)  (lv_sub hl [0, 1, 2, 3, 4] rfl)
      exact lp39 (3 - 0 + 1) 0 ls (Nat.lt_succ_self _) (by omega)  (lv_sub hl [0, 1, 2, 3, 4] rfl)
    · refine lv_iconst (v := nI 1) E.1.1 E.1.2.1 dX6_areSame_30 rfl ?_
      refine lv_goto (tgt := 35) E.1.1 E.1.2.1 dX6_areSame_31 (by decide) ?_
      refine k_top E (b2i (dB (T x = T y ∧ P x = P y ∧ ∀ j, j < 0 → wd (B x) j = wd (B y) j))) (by rw [dB_t ⟨c12, c27, fun j hj => absurd hj (by omega)⟩]; rfl) ?_
      refine lv_istore_n (lv' := [(3, .int (b2i (dB (T x = T y ∧ P x = P y ∧ ∀ j, j < 0 → wd (B x) j = wd (B y) j)))), (0, .ref (A 0)), (1, .int (nI x)), (2, .int (nI y))]) E.1.1 E.1.2.1 dX6_areSame_35 rfl hl (by decide) rfl (fun ls hl => ?_)
      refine lv_iconst (v := nI 0) E.1.1 E.1.2.1 dX6_areSame_36 rfl ?_
      refine lv_istore (lv' := [(4, .int (nI 0)), (3, .int (b2i (dB (T x = T y ∧ P x = P y ∧ ∀ j, j < 0 → wd (B x) j = wd (B y) j)))), (0, .ref (A 0)), (1, .int (nI x)), (2, .int (nI y))]) E.1.1 E.1.2.1 dX6_areSame_37 hl (by decide) rfl (fun ls hl => ?_)
      have lp39 : ∀ (k : Nat) (i : Nat) (ls : Array Slot), (3 - i < k) → (i ≤ 3) → (lv_has ls 5 [(4, .int (nI i)), (3, .int (b2i (dB (T x = T y ∧ P x = P y ∧ ∀ j, j < i → wd (B x) j = wd (B y) j)))), (0, .ref (A 0)), (1, .int (nI x)), (2, .int (nI y))]) → W p l e R s m args below meth c s.heap [] 0 0 Q (F0 m 39 ls []) := by
        intro k
        induction k with
        | zero => intro _ _ hk; exact absurd hk (Nat.not_lt_zero _)
        | succ k ih39 =>
          intro i  ls hk hi hl
          refine lv_iload E.1.1 E.1.2.1 dX6_areSame_39 (lv_at hl 0 rfl) ?_
          refine lv_iconst (v := nI 3) E.1.1 E.1.2.1 dX6_areSame_41 rfl ?_
          refine k_ge (tgt := 87) E dX6_areSame_42 (by decide) (by omega) (by omega) (fun c42 => ?_) (fun c42 => ?_)
          · refine lv_iload_n E.1.1 E.1.2.1 dX6_areSame_87 rfl (lv_at hl 1 rfl) ?_
            exact k_zret E hQ hlk hr (by rw [show i = 3 by omega, same_wd]) dX6_areSame_88
          · refine lv_iload_n E.1.1 E.1.2.1 dX6_areSame_45 rfl (lv_at hl 1 rfl) ?_
            refine k_if0 (tgt := 79) E dX6_areSame_46 (by decide) (fun c46 => ?_) (fun c46 => ?_)
            · refine lv_iconst (v := nI 0) E.1.1 E.1.2.1 dX6_areSame_79 rfl ?_
              refine k_top E (b2i (dB (T x = T y ∧ P x = P y ∧ ∀ j, j < (i + 1) → wd (B x) j = wd (B y) j))) (by rw [dB_f (fun h => absurd (dB_t (show T x = T y ∧ P x = P y ∧ ∀ j, j < i → wd (B x) j = wd (B y) j from ⟨h.1, h.2.1, fun j hj => h.2.2 j (by omega)⟩)) (by rw [c46]; decide))]; rfl) ?_
              refine lv_istore_n (lv' := [(3, .int (b2i (dB (T x = T y ∧ P x = P y ∧ ∀ j, j < (i + 1) → wd (B x) j = wd (B y) j)))), (4, .int (nI i)), (0, .ref (A 0)), (1, .int (nI x)), (2, .int (nI y))]) E.1.1 E.1.2.1 dX6_areSame_80 rfl hl (by decide) rfl (fun ls hl => ?_)
              refine lv_iinc (v := nI (i + 1)) (lv' := [(4, .int (nI (i + 1))), (3, .int (b2i (dB (T x = T y ∧ P x = P y ∧ ∀ j, j < (i + 1) → wd (B x) j = wd (B y) j)))), (0, .ref (A 0)), (1, .int (nI x)), (2, .int (nI y))]) E.1.1 E.1.2.1 dX6_areSame_81 hl (k := 1) rfl (nI_1 _) (by decide) rfl (fun ls hl => ?_)
              refine lv_goto (tgt := 39) E.1.1 E.1.2.1 dX6_areSame_84 (by decide) ?_
              exact ih39  (i + 1) ls (by omega) (by omega)  (lv_sub hl [0, 1, 2, 3, 4] rfl)
            · refine lv_aload_n E.1.1 E.1.2.1 dX6_areSame_49 rfl (lv_at hl 2 rfl) ?_
              refine k_get (v := .ref (A 3)) E inlX6 rfl 3 (by decide) w2_235 rfl hw h_o rfl dX6_areSame_50 ?_
              refine lv_iconst (v := nI 3) E.1.1 E.1.2.1 dX6_areSame_53 rfl ?_
              refine lv_iload_n E.1.1 E.1.2.1 dX6_areSame_54 rfl (lv_at hl 3 rfl) ?_
              refine k_mul E dX6_areSame_55 ?_
              refine lv_iload E.1.1 E.1.2.1 dX6_areSame_56 (lv_at hl 0 rfl) ?_
              refine k_add E dX6_areSame_58 ?_
              refine k_lald E hw (v := wd (B x) i) h_bs (by omega) (by omega) (rw3_at' B x (by omega)) dX6_areSame_59 ?_
              refine lv_aload_n E.1.1 E.1.2.1 dX6_areSame_60 rfl (lv_at hl 2 rfl) ?_
              refine k_get (v := .ref (A 3)) E inlX6 rfl 3 (by decide) w2_235 rfl hw h_o rfl dX6_areSame_61 ?_
              refine lv_iconst (v := nI 3) E.1.1 E.1.2.1 dX6_areSame_64 rfl ?_
              refine lv_iload_n E.1.1 E.1.2.1 dX6_areSame_65 rfl (lv_at hl 4 rfl) ?_
              refine k_mul E dX6_areSame_66 ?_
              refine lv_iload E.1.1 E.1.2.1 dX6_areSame_67 (lv_at hl 0 rfl) ?_
              refine k_add E dX6_areSame_69 ?_
              refine k_lald E hw (v := wd (B y) i) h_bs (by omega) (by omega) (rw3_at' B y (by omega)) dX6_areSame_70 ?_
              refine W.lcmp E.1.1 E.1.2.1 dX6_areSame_71 ?_
              refine lv_if_ne (tgt := 79) E.1.1 E.1.2.1 dX6_areSame_72 (by decide) (fun c72 => ?_) (fun c72 => ?_)
              · refine lv_iconst (v := nI 0) E.1.1 E.1.2.1 dX6_areSame_79 rfl ?_
                refine k_top E (b2i (dB (T x = T y ∧ P x = P y ∧ ∀ j, j < (i + 1) → wd (B x) j = wd (B y) j))) (by rw [dB_f (fun h => c72 ((lg_cmp_eq _ _).mpr (h.2.2 i (by omega))))]; rfl) ?_
                refine lv_istore_n (lv' := [(3, .int (b2i (dB (T x = T y ∧ P x = P y ∧ ∀ j, j < (i + 1) → wd (B x) j = wd (B y) j)))), (4, .int (nI i)), (0, .ref (A 0)), (1, .int (nI x)), (2, .int (nI y))]) E.1.1 E.1.2.1 dX6_areSame_80 rfl hl (by decide) rfl (fun ls hl => ?_)
                refine lv_iinc (v := nI (i + 1)) (lv' := [(4, .int (nI (i + 1))), (3, .int (b2i (dB (T x = T y ∧ P x = P y ∧ ∀ j, j < (i + 1) → wd (B x) j = wd (B y) j)))), (0, .ref (A 0)), (1, .int (nI x)), (2, .int (nI y))]) E.1.1 E.1.2.1 dX6_areSame_81 hl (k := 1) rfl (nI_1 _) (by decide) rfl (fun ls hl => ?_)
                refine lv_goto (tgt := 39) E.1.1 E.1.2.1 dX6_areSame_84 (by decide) ?_
                exact ih39  (i + 1) ls (by omega) (by omega)  (lv_sub hl [0, 1, 2, 3, 4] rfl)
              · refine lv_iconst (v := nI 1) E.1.1 E.1.2.1 dX6_areSame_75 rfl ?_
                refine lv_goto (tgt := 80) E.1.1 E.1.2.1 dX6_areSame_76 (by decide) ?_
                refine k_top E (b2i (dB (T x = T y ∧ P x = P y ∧ ∀ j, j < (i + 1) → wd (B x) j = wd (B y) j))) (by rw [dB_t ⟨(dB_iff.mp c46).1, (dB_iff.mp c46).2.1, lt_s (dB_iff.mp c46).2.2 ((lg_cmp_eq _ _).mp c72)⟩]; rfl) ?_
                refine lv_istore_n (lv' := [(3, .int (b2i (dB (T x = T y ∧ P x = P y ∧ ∀ j, j < (i + 1) → wd (B x) j = wd (B y) j)))), (4, .int (nI i)), (0, .ref (A 0)), (1, .int (nI x)), (2, .int (nI y))]) E.1.1 E.1.2.1 dX6_areSame_80 rfl hl (by decide) rfl (fun ls hl => ?_)
                refine lv_iinc (v := nI (i + 1)) (lv' := [(4, .int (nI (i + 1))), (3, .int (b2i (dB (T x = T y ∧ P x = P y ∧ ∀ j, j < (i + 1) → wd (B x) j = wd (B y) j)))), (0, .ref (A 0)), (1, .int (nI x)), (2, .int (nI y))]) E.1.1 E.1.2.1 dX6_areSame_81 hl (k := 1) rfl (nI_1 _) (by decide) rfl (fun ls hl => ?_)
                refine lv_goto (tgt := 39) E.1.1 E.1.2.1 dX6_areSame_84 (by decide) ?_
                exact ih39  (i + 1) ls (by omega) (by omega)  (lv_sub hl [0, 1, 2, 3, 4] rfl)
      exact lp39 (3 - 0 + 1) 0 ls (Nat.lt_succ_self _) (by omega)  (lv_sub hl [0, 1, 2, 3, 4] rfl)

set_option maxHeartbeats 4000000 in
set_option maxRecDepth 100000 in
theorem m_inRow (l : Launch) (D : va_G) (cy : Nat → ClassId) (L : List Nat) (f : Nat → va_E) (sz : Nat) (A : Nat → Nat) (base fr pb ns : Nat) (T P : Nat → Nat) (B : Nat → Nat → Bool) (rr : Nat → Bool) (G : Nat → Int32) (hA : MAd A) (hTP : TP T P) (n : Nat) (hpb : 0 < pb) (hfp : fr + pb ≤ 4096) (hn : n < 2147483648) (h_o : cel L f (A 0) (.inr (6, [.int (nI base), .ref (A 1), .ref (A 2), .ref (A 3), .ref (A 4), .int (nI fr), .int (nI pb), .ref (A 5), .int (nI ns), .ref (A 6), .ref (A 7), .ref (A 8)]))) (h_rw : cel L f (A 4) (.inl (cy 2, 4096, .inl (fun k => b2i (rr k))))) : Met l yX6_inRow (.code yX6_inRow cX6_inRow 2 (Option.some FieldType.boolean) :: wsL_law) { frames := 0, cells := 0, slots := 0, locals := 0 } (va_Pc [.ref (A 0), .int (nI n)] (PW D cy L f sz)) (vp_Si (fun r => r = b2i (den fr pb rr n))) 0 0 (fun _ => False) := by
  refine m_start (by decide) (Nat.le_of_ble_eq_true rfl) ?_
  intro p e R Q s m args below meth c ls hsz hR hQ E hr hlk hnm hw hl
  have hl : lv_has ls 2 [(0, .ref (A 0)), (1, .int (nI n))] := hl
  have hmo := Nat.mod_lt (n - fr) hpb
  refine lv_aload_n E.1.1 E.1.2.1 dX6_inRow_0 rfl (lv_at hl 0 rfl) ?_
  refine k_get (v := .ref (A 4)) E inlX6 rfl 4 (by decide) w2_236 rfl hw h_o rfl dX6_inRow_1 ?_
  refine lv_iload_n E.1.1 E.1.2.1 dX6_inRow_4 rfl (lv_at hl 1 rfl) ?_
  refine lv_aload_n E.1.1 E.1.2.1 dX6_inRow_5 rfl (lv_at hl 0 rfl) ?_
  refine k_get (v := .int (nI fr)) E inlX6 rfl 5 (by decide) w2_237 rfl hw h_o rfl dX6_inRow_6 ?_
  refine lv_aload_n E.1.1 E.1.2.1 dX6_inRow_9 rfl (lv_at hl 0 rfl) ?_
  refine k_get (v := .int (nI pb)) E inlX6 rfl 6 (by decide) w2_238 rfl hw h_o rfl dX6_inRow_10 ?_
  refine k_add E dX6_inRow_13 ?_
  refine k_ge (tgt := 21) E dX6_inRow_14 (by decide) (by omega) (by omega) (fun c14 => ?_) (fun c14 => ?_)
  · refine lv_aload_n E.1.1 E.1.2.1 dX6_inRow_21 rfl (lv_at hl 0 rfl) ?_
    refine k_get (v := .int (nI fr)) E inlX6 rfl 5 (by decide) w2_237 rfl hw h_o rfl dX6_inRow_22 ?_
    refine lv_iload_n E.1.1 E.1.2.1 dX6_inRow_25 rfl (lv_at hl 1 rfl) ?_
    refine lv_aload_n E.1.1 E.1.2.1 dX6_inRow_26 rfl (lv_at hl 0 rfl) ?_
    refine k_get (v := .int (nI fr)) E inlX6 rfl 5 (by decide) w2_237 rfl hw h_o rfl dX6_inRow_27 ?_
    refine k_sub E dX6_inRow_30 (by omega) ?_
    refine lv_aload_n E.1.1 E.1.2.1 dX6_inRow_31 rfl (lv_at hl 0 rfl) ?_
    refine k_get (v := .int (nI pb)) E inlX6 rfl 6 (by decide) w2_238 rfl hw h_o rfl dX6_inRow_32 ?_
    refine k_rem E dX6_inRow_35 (by omega) (by omega) (by omega) ?_
    refine k_add E dX6_inRow_36 ?_
    refine k_zald E hw (v := b2i (rr (fr + ((n - fr) % pb)))) h_rw (by omega) (by omega) (rfl) dX6_inRow_37 ?_
    exact k_zret E hQ hlk hr (by rw [den, fold, if_neg (by omega)]) dX6_inRow_38
  · refine lv_iload_n E.1.1 E.1.2.1 dX6_inRow_17 rfl (lv_at hl 1 rfl) ?_
    refine lv_goto (tgt := 37) E.1.1 E.1.2.1 dX6_inRow_18 (by decide) ?_
    refine k_zald E hw (v := b2i (rr n)) h_rw (by omega) (by omega) (rfl) dX6_inRow_37 ?_
    exact k_zret E hQ hlk hr (by rw [den, fold, if_pos c14]) dX6_inRow_38

set_option maxHeartbeats 4000000 in
set_option maxRecDepth 100000 in
theorem m_comesRound (l : Launch) (D : va_G) (cy : Nat → ClassId) (L : List Nat) (f : Nat → va_E) (sz : Nat) (A : Nat → Nat) (base fr pb ns : Nat) (T P : Nat → Nat) (B : Nat → Nat → Bool) (rr : Nat → Bool) (G : Nat → Int32) (hA : MAd A) (hTP : TP T P) (q : Nat) (hpb : 0 < pb) (hfp : fr + pb ≤ 4096) (hq : 0 < q) (hqp : q ≤ pb) (h_o : cel L f (A 0) (.inr (6, [.int (nI base), .ref (A 1), .ref (A 2), .ref (A 3), .ref (A 4), .int (nI fr), .int (nI pb), .ref (A 5), .int (nI ns), .ref (A 6), .ref (A 7), .ref (A 8)]))) (h_rw : cel L f (A 4) (.inl (cy 2, 4096, .inl (fun k => b2i (rr k))))) : Met l yX6_comesRound (.code yX6_comesRound cX6_comesRound 4 (Option.some FieldType.boolean) :: wsL_law) { frames := 0, cells := 0, slots := 0, locals := 0 } (va_Pc [.ref (A 0), .int (nI q)] (PW D cy L f sz)) (vp_Si (fun r => r = b2i (dB (CRm rr fr pb q)))) 0 0 (fun _ => False) := by
  refine m_start (by decide) (Nat.le_of_ble_eq_true rfl) ?_
  intro p e R Q s m args below meth c ls hsz hR hQ E hr hlk hnm hw hl
  have hl : lv_has ls 4 [(0, .ref (A 0)), (1, .int (nI q))] := hl
  refine lv_aload_n E.1.1 E.1.2.1 dX6_comesRound_0 rfl (lv_at hl 0 rfl) ?_
  refine k_get (v := .int (nI pb)) E inlX6 rfl 6 (by decide) w2_238 rfl hw h_o rfl dX6_comesRound_1 ?_
  refine lv_iload_n E.1.1 E.1.2.1 dX6_comesRound_4 rfl (lv_at hl 1 rfl) ?_
  refine k_rem E dX6_comesRound_5 (by omega) (by omega) (by omega) ?_
  refine k_z0 (tgt := 11) E dX6_comesRound_6 (by decide) (by have := Nat.mod_lt pb hq; omega) (fun c6 => ?_) (fun c6 => ?_)
  · refine lv_iconst (v := nI 1) E.1.1 E.1.2.1 dX6_comesRound_11 rfl ?_
    refine k_top E (b2i (dB (∀ j, j < 0 → rr (fr + j) = rr (fr + (j + q) % pb)))) (by rw [dB_t (fun j hj => absurd hj (by omega))]; rfl) ?_
    refine lv_istore_n (lv' := [(2, .int (b2i (dB (∀ j, j < 0 → rr (fr + j) = rr (fr + (j + q) % pb))))), (0, .ref (A 0)), (1, .int (nI q))]) E.1.1 E.1.2.1 dX6_comesRound_12 rfl hl (by decide) rfl (fun ls hl => ?_)
    refine lv_iconst (v := nI 0) E.1.1 E.1.2.1 dX6_comesRound_13 rfl ?_
    refine lv_istore_n (lv' := [(3, .int (nI 0)), (2, .int (b2i (dB (∀ j, j < 0 → rr (fr + j) = rr (fr + (j + q) % pb))))), (0, .ref (A 0)), (1, .int (nI q))]) E.1.1 E.1.2.1 dX6_comesRound_14 rfl hl (by decide) rfl (fun ls hl => ?_)
    have lp15 : ∀ (k : Nat) (i : Nat) (ls : Array Slot), (pb - i < k) → (i ≤ pb) → (lv_has ls 4 [(3, .int (nI i)), (2, .int (b2i (dB (∀ j, j < i → rr (fr + j) = rr (fr + (j + q) % pb))))), (0, .ref (A 0)), (1, .int (nI q))]) → W p l e R s m args below meth c s.heap [] 0 0 Q (F0 m 15 ls []) := by
      intro k
      induction k with
      | zero => intro _ _ hk; exact absurd hk (Nat.not_lt_zero _)
      | succ k ih15 =>
        intro i  ls hk hi hl
        refine lv_iload_n E.1.1 E.1.2.1 dX6_comesRound_15 rfl (lv_at hl 0 rfl) ?_
        refine lv_aload_n E.1.1 E.1.2.1 dX6_comesRound_16 rfl (lv_at hl 2 rfl) ?_
        refine k_get (v := .int (nI pb)) E inlX6 rfl 6 (by decide) w2_238 rfl hw h_o rfl dX6_comesRound_17 ?_
        refine k_ge (tgt := 71) E dX6_comesRound_20 (by decide) (by omega) (by omega) (fun c20 => ?_) (fun c20 => ?_)
        · refine lv_iload_n E.1.1 E.1.2.1 dX6_comesRound_71 rfl (lv_at hl 1 rfl) ?_
          exact k_zret E hQ hlk hr (by rw [show i = pb by omega]; exact congrArg b2i (dB_cong ⟨fun h => ⟨c6, h⟩, fun h => h.2⟩)) dX6_comesRound_72
        · refine lv_iload_n E.1.1 E.1.2.1 dX6_comesRound_23 rfl (lv_at hl 1 rfl) ?_
          refine k_if0 (tgt := 63) E dX6_comesRound_24 (by decide) (fun c24 => ?_) (fun c24 => ?_)
          · refine lv_iconst (v := nI 0) E.1.1 E.1.2.1 dX6_comesRound_63 rfl ?_
            refine k_top E (b2i (dB (∀ j, j < (i + 1) → rr (fr + j) = rr (fr + (j + q) % pb)))) (by rw [dB_f (fun h => absurd (dB_t (show ∀ j, j < i → rr (fr + j) = rr (fr + (j + q) % pb) from fun j hj => h j (by omega))) (by rw [c24]; decide))]; rfl) ?_
            refine lv_istore_n (lv' := [(2, .int (b2i (dB (∀ j, j < (i + 1) → rr (fr + j) = rr (fr + (j + q) % pb))))), (3, .int (nI i)), (0, .ref (A 0)), (1, .int (nI q))]) E.1.1 E.1.2.1 dX6_comesRound_64 rfl hl (by decide) rfl (fun ls hl => ?_)
            refine lv_iinc (v := nI (i + 1)) (lv' := [(3, .int (nI (i + 1))), (2, .int (b2i (dB (∀ j, j < (i + 1) → rr (fr + j) = rr (fr + (j + q) % pb))))), (0, .ref (A 0)), (1, .int (nI q))]) E.1.1 E.1.2.1 dX6_comesRound_65 hl (k := 1) rfl (nI_1 _) (by decide) rfl (fun ls hl => ?_)
            refine lv_goto (tgt := 15) E.1.1 E.1.2.1 dX6_comesRound_68 (by decide) ?_
            exact ih15  (i + 1) ls (by omega) (by omega)  (lv_sub hl [0, 1, 2, 3] rfl)
          · refine lv_aload_n E.1.1 E.1.2.1 dX6_comesRound_27 rfl (lv_at hl 2 rfl) ?_
            refine k_get (v := .ref (A 4)) E inlX6 rfl 4 (by decide) w2_236 rfl hw h_o rfl dX6_comesRound_28 ?_
            refine lv_aload_n E.1.1 E.1.2.1 dX6_comesRound_31 rfl (lv_at hl 2 rfl) ?_
            refine k_get (v := .int (nI fr)) E inlX6 rfl 5 (by decide) w2_237 rfl hw h_o rfl dX6_comesRound_32 ?_
            refine lv_iload_n E.1.1 E.1.2.1 dX6_comesRound_35 rfl (lv_at hl 0 rfl) ?_
            refine k_add E dX6_comesRound_36 ?_
            refine k_zald E hw (v := b2i (rr (fr + i))) h_rw (by omega) (by omega) (rfl) dX6_comesRound_37 ?_
            refine lv_aload_n E.1.1 E.1.2.1 dX6_comesRound_38 rfl (lv_at hl 2 rfl) ?_
            refine k_get (v := .ref (A 4)) E inlX6 rfl 4 (by decide) w2_236 rfl hw h_o rfl dX6_comesRound_39 ?_
            refine lv_aload_n E.1.1 E.1.2.1 dX6_comesRound_42 rfl (lv_at hl 2 rfl) ?_
            refine k_get (v := .int (nI fr)) E inlX6 rfl 5 (by decide) w2_237 rfl hw h_o rfl dX6_comesRound_43 ?_
            refine lv_iload_n E.1.1 E.1.2.1 dX6_comesRound_46 rfl (lv_at hl 0 rfl) ?_
            have hmo := Nat.mod_lt (i + q) hpb
            refine lv_iload_n E.1.1 E.1.2.1 dX6_comesRound_47 rfl (lv_at hl 3 rfl) ?_
            refine k_add E dX6_comesRound_48 ?_
            refine lv_aload_n E.1.1 E.1.2.1 dX6_comesRound_49 rfl (lv_at hl 2 rfl) ?_
            refine k_get (v := .int (nI pb)) E inlX6 rfl 6 (by decide) w2_238 rfl hw h_o rfl dX6_comesRound_50 ?_
            refine k_rem E dX6_comesRound_53 (by omega) (by omega) (by omega) ?_
            refine k_add E dX6_comesRound_54 ?_
            refine k_zald E hw (v := b2i (rr (fr + ((i + q) % pb)))) h_rw (by omega) (by omega) (rfl) dX6_comesRound_55 ?_
            refine k_bne (tgt := 63) E dX6_comesRound_56 (by decide) (fun c56 => ?_) (fun c56 => ?_)
            · refine lv_iconst (v := nI 0) E.1.1 E.1.2.1 dX6_comesRound_63 rfl ?_
              refine k_top E (b2i (dB (∀ j, j < (i + 1) → rr (fr + j) = rr (fr + (j + q) % pb)))) (by rw [dB_f (fun h => c56 (h i (by omega)))]; rfl) ?_
              refine lv_istore_n (lv' := [(2, .int (b2i (dB (∀ j, j < (i + 1) → rr (fr + j) = rr (fr + (j + q) % pb))))), (3, .int (nI i)), (0, .ref (A 0)), (1, .int (nI q))]) E.1.1 E.1.2.1 dX6_comesRound_64 rfl hl (by decide) rfl (fun ls hl => ?_)
              refine lv_iinc (v := nI (i + 1)) (lv' := [(3, .int (nI (i + 1))), (2, .int (b2i (dB (∀ j, j < (i + 1) → rr (fr + j) = rr (fr + (j + q) % pb))))), (0, .ref (A 0)), (1, .int (nI q))]) E.1.1 E.1.2.1 dX6_comesRound_65 hl (k := 1) rfl (nI_1 _) (by decide) rfl (fun ls hl => ?_)
              refine lv_goto (tgt := 15) E.1.1 E.1.2.1 dX6_comesRound_68 (by decide) ?_
              exact ih15  (i + 1) ls (by omega) (by omega)  (lv_sub hl [0, 1, 2, 3] rfl)
            · refine lv_iconst (v := nI 1) E.1.1 E.1.2.1 dX6_comesRound_59 rfl ?_
              refine lv_goto (tgt := 64) E.1.1 E.1.2.1 dX6_comesRound_60 (by decide) ?_
              refine k_top E (b2i (dB (∀ j, j < (i + 1) → rr (fr + j) = rr (fr + (j + q) % pb)))) (by rw [dB_t (lt_s (dB_iff.mp c24) c56)]; rfl) ?_
              refine lv_istore_n (lv' := [(2, .int (b2i (dB (∀ j, j < (i + 1) → rr (fr + j) = rr (fr + (j + q) % pb))))), (3, .int (nI i)), (0, .ref (A 0)), (1, .int (nI q))]) E.1.1 E.1.2.1 dX6_comesRound_64 rfl hl (by decide) rfl (fun ls hl => ?_)
              refine lv_iinc (v := nI (i + 1)) (lv' := [(3, .int (nI (i + 1))), (2, .int (b2i (dB (∀ j, j < (i + 1) → rr (fr + j) = rr (fr + (j + q) % pb))))), (0, .ref (A 0)), (1, .int (nI q))]) E.1.1 E.1.2.1 dX6_comesRound_65 hl (k := 1) rfl (nI_1 _) (by decide) rfl (fun ls hl => ?_)
              refine lv_goto (tgt := 15) E.1.1 E.1.2.1 dX6_comesRound_68 (by decide) ?_
              exact ih15  (i + 1) ls (by omega) (by omega)  (lv_sub hl [0, 1, 2, 3] rfl)
    exact lp15 (pb - 0 + 1) 0 ls (Nat.lt_succ_self _) (by omega)  (lv_sub hl [0, 1, 2, 3] rfl)
  · refine lv_iconst (v := nI 0) E.1.1 E.1.2.1 dX6_comesRound_9 rfl ?_
    refine k_top E (b2i false) rfl ?_
    exact k_zret E hQ hlk hr (by rw [dB_f (fun h => c6 h.1)]) dX6_comesRound_10

set_option maxHeartbeats 4000000 in
set_option maxRecDepth 100000 in
theorem m_shorten (l : Launch) (D : va_G) (cy : Nat → ClassId) (L : List Nat) (f0 : Nat → va_E) (sz : Nat) (A : Nat → Nat) (base fr pb ns : Nat) (T P : Nat → Nat) (B : Nat → Nat → Bool) (rr : Nat → Bool) (G : Nat → Int32) (hA : MAd A) (hTP : TP T P) (hpb : 0 < pb) (hfp : fr + pb ≤ 4096) (h_o : cel L f0 (A 0) (.inr (6, [.int (nI base), .ref (A 1), .ref (A 2), .ref (A 3), .ref (A 4), .int (nI fr), .int (nI pb), .ref (A 5), .int (nI ns), .ref (A 6), .ref (A 7), .ref (A 8)]))) (h_rw : cel L f0 (A 4) (.inl (cy 2, 4096, .inl (fun k => b2i (rr k))))) : Met l yX6_shorten (.code yX6_shorten cX6_shorten 3 none :: wsL_law) { frames := 1, cells := 0, slots := 0, locals := 23 } (va_Pc [.ref (A 0)] (PW D cy L f0 sz)) (va_Qv (fun u : List Nat × (Nat → va_E) => L = u.1 ∧ (∀ b ∈ L, b ≠ A 0 → u.2 b = f0 b) ∧ ∃ t q, cel L u.2 (A 0) (.inr (6, [.int (nI base), .ref (A 1), .ref (A 2), .ref (A 3), .ref (A 4), .int (nI t), .int (nI q), .ref (A 5), .int (nI ns), .ref (A 6), .ref (A 7), .ref (A 8)])) ∧ Canon (den fr pb rr) t q ∧ t ≤ fr ∧ q ≤ pb) (PB D (AW L sz)) (AW L sz)) 0 0 (AW L sz) := by
  refine m_start (by decide) (Nat.le_of_ble_eq_true rfl) ?_
  intro p e R Q s m args below meth c ls hsz hR hQ E hr hlk hnm hw hl
  have hl : lv_has ls 3 [(0, .ref (A 0))] := hl
  obtain ⟨H, hH⟩ : ∃ X, X = s.heap := ⟨_, rfl⟩
  obtain ⟨locs, hlocs⟩ : ∃ X : List Loc, X = [] := ⟨_, rfl⟩
  have hw0 := hw
  obtain ⟨f, hf0⟩ : ∃ X, X = f0 := ⟨_, rfl⟩
  rw [← hf0] at h_o h_rw
  have hw : WW D (AW L sz) s.heap L f H locs := by rw [hH, hlocs, hf0]; exact hw
  have hF : ∀ b ∈ L, b ≠ (A 0) → f b = f0 b := fun b hb h0 => by rw [hf0]
  suffices hgo : W p l e R s m args below meth c H locs 0 0 Q (F0 m 0 ls []) by rw [hH, hlocs] at hgo; exact hgo
  clear hH hlocs hw0 hf0
  have hLs : ∀ b ∈ L, b ∈ L := fun _ h => h
  have n_o_rw : A 0 ≠ A 4 := hA.ne (by decide) (by decide) (by decide)
  refine lv_iconst (v := nI 1) E.1.1 E.1.2.1 dX6_shorten_0 rfl ?_
  refine lv_istore_n (lv' := [(1, .int (nI 1)), (0, .ref (A 0))]) E.1.1 E.1.2.1 dX6_shorten_1 rfl hl (by decide) rfl (fun ls hl => ?_)
  have lp2 : ∀ (k : Nat) (q : Nat) (f : Nat → va_E) (H : Heap) (locs : List Loc) (ls : Array Slot), (pb - q < k) → (1 ≤ q) → (q ≤ pb) → (∀ j, 1 ≤ j → j < q → ¬ CRm rr fr pb j) → (cel L f (A 0) (.inr (6, [.int (nI base), .ref (A 1), .ref (A 2), .ref (A 3), .ref (A 4), .int (nI fr), .int (nI pb), .ref (A 5), .int (nI ns), .ref (A 6), .ref (A 7), .ref (A 8)]))) → (cel L f (A 4) (.inl (cy 2, 4096, .inl (fun k => b2i (rr k))))) → (∀ b ∈ L, b ≠ (A 0) → f b = f0 b) → (WW D (AW L sz) s.heap L f H locs) → (lv_has ls 3 [(1, .int (nI q)), (0, .ref (A 0))]) → W p l e R s m args below meth c H locs 0 0 Q (F0 m 2 ls []) := by
    intro k
    induction k with
    | zero => intro _ _ _ _ _ hk; exact absurd hk (Nat.not_lt_zero _)
    | succ k ih2 =>
      intro q f H locs ls hk hq1 hq2 hq3 h_o h_rw hF hw hl
      refine lv_aload_n E.1.1 E.1.2.1 dX6_shorten_2 rfl (lv_at hl 1 rfl) ?_
      refine lv_iload_n E.1.1 E.1.2.1 dX6_shorten_3 rfl (lv_at hl 0 rfl) ?_
      refine k_ri (va_runV (As := [.int (nI q)]) (rest := []) E.1 (m_comesRound l D cy L f H.size A base fr pb ns T P B rr G hA hTP q hpb hfp (by omega) (by omega) h_o h_rw) ⟨callB_of 1 E.1.2.2.2.2 (gd_own w3_59) rfl rfl rfl (E.1.2.2.2.2 _ w1_10) (E.1.2.2.2.2 _ w3_56) hd_X6_comesRound (by rw [hR]; exact ⟨Nat.le_of_ble_eq_true rfl, Nat.le_of_ble_eq_true rfl⟩), E.1.2.2.2.2 _ w3_58, E.1.2.2.2.2 _ ws_28⟩ (pw_preV (q := (RX6, TX6, 12)) E.2 hw h_o rfl) rfl rfl hl.1 rfl (lv_room (Nat.le_of_ble_eq_true rfl)) dX6_shorten_4 ⟨Nat.zero_le _, Nat.zero_le _⟩) ?_
      refine k_if1 (tgt := 16) E dX6_shorten_7 (by decide) (fun c7 => ?_) (fun c7 => ?_)
      · refine lv_aload_n E.1.1 E.1.2.1 dX6_shorten_16 rfl (lv_at hl 1 rfl) ?_
        refine k_get (v := .int (nI fr)) E inlX6 rfl 5 (by decide) w2_237 rfl hw h_o rfl dX6_shorten_17 ?_
        refine lv_istore_n (lv' := [(2, .int (nI fr)), (1, .int (nI q)), (0, .ref (A 0))]) E.1.1 E.1.2.1 dX6_shorten_20 rfl hl (by decide) rfl (fun ls hl => ?_)
        have lp21 : ∀ (k : Nat) (t : Nat) (f : Nat → va_E) (H : Heap) (locs : List Loc) (ls : Array Slot), (t < k) → (t ≤ fr) → (EvP (den fr pb rr) t q) → (cel L f (A 0) (.inr (6, [.int (nI base), .ref (A 1), .ref (A 2), .ref (A 3), .ref (A 4), .int (nI fr), .int (nI pb), .ref (A 5), .int (nI ns), .ref (A 6), .ref (A 7), .ref (A 8)]))) → (cel L f (A 4) (.inl (cy 2, 4096, .inl (fun k => b2i (rr k))))) → (∀ b ∈ L, b ≠ (A 0) → f b = f0 b) → (WW D (AW L sz) s.heap L f H locs) → (lv_has ls 3 [(2, .int (nI t)), (1, .int (nI q)), (0, .ref (A 0))]) → W p l e R s m args below meth c H locs 0 0 Q (F0 m 21 ls []) := by
          intro k
          induction k with
          | zero => intro _ _ _ _ _ hk; exact absurd hk (Nat.not_lt_zero _)
          | succ k ih21 =>
            intro t f H locs ls hk ht ht2 h_o h_rw hF hw hl
            refine lv_iload_n E.1.1 E.1.2.1 dX6_shorten_21 rfl (lv_at hl 0 rfl) ?_
            refine k_zle (tgt := 51) E dX6_shorten_22 (by decide) (by omega) (fun c22 => ?_) (fun c22 => ?_)
            · refine lv_aload_n E.1.1 E.1.2.1 dX6_shorten_51 rfl (lv_at hl 2 rfl) ?_
              refine lv_iload_n E.1.1 E.1.2.1 dX6_shorten_52 rfl (lv_at hl 0 rfl) ?_
              refine k_put (ty0 := tyX6) E inlX6 rfl tyX6_ok nmX6 5 (by decide) w2_237 rfl rfl hw [.int (nI base), .ref (A 1), .ref (A 2), .ref (A 3), .ref (A 4), .int (nI t), .int (nI pb), .ref (A 5), .int (nI ns), .ref (A 6), .ref (A 7), .ref (A 8)] h_o (rfl) (rfl) (Nat.le_of_ble_eq_true rfl) rfl dX6_shorten_53 (fun f H locs h_o hfr hw => ?_)
              have h_rw := h_rw.kp hfr (Ne.symm n_o_rw)
              have hF : ∀ b ∈ L, b ≠ (A 0) → f b = f0 b := fun b hb h0 => (hfr b h0).trans (hF b hb h0)
              refine lv_aload_n E.1.1 E.1.2.1 dX6_shorten_56 rfl (lv_at hl 2 rfl) ?_
              refine lv_iload_n E.1.1 E.1.2.1 dX6_shorten_57 rfl (lv_at hl 1 rfl) ?_
              refine k_put (ty0 := tyX6) E inlX6 rfl tyX6_ok nmX6 6 (by decide) w2_238 rfl rfl hw [.int (nI base), .ref (A 1), .ref (A 2), .ref (A 3), .ref (A 4), .int (nI t), .int (nI q), .ref (A 5), .int (nI ns), .ref (A 6), .ref (A 7), .ref (A 8)] h_o (rfl) (rfl) (Nat.le_of_ble_eq_true rfl) rfl dX6_shorten_58 (fun f H locs h_o hfr hw => ?_)
              have h_rw := h_rw.kp hfr (Ne.symm n_o_rw)
              have hF : ∀ b ∈ L, b ≠ (A 0) → f b = f0 b := fun b hb h0 => (hfr b h0).trans (hF b hb h0)
              exact k_mvret E hQ hlk hr hw (Nat.le_of_ble_eq_true rfl) (Nat.le_of_ble_eq_true rfl) (⟨rfl, hF, t, q, h_o, short_canon hpb (by omega) hq3 ht2 (Or.inl c22), ht, hq2⟩) dX6_shorten_61
            · refine lv_aload_n E.1.1 E.1.2.1 dX6_shorten_25 rfl (lv_at hl 2 rfl) ?_
              refine k_get (v := .ref (A 4)) E inlX6 rfl 4 (by decide) w2_236 rfl hw h_o rfl dX6_shorten_26 ?_
              refine lv_iload_n E.1.1 E.1.2.1 dX6_shorten_29 rfl (lv_at hl 0 rfl) ?_
              refine lv_iconst (v := nI 1) E.1.1 E.1.2.1 dX6_shorten_30 rfl ?_
              refine k_sub E dX6_shorten_31 (by omega) ?_
              refine k_zald E hw (v := b2i (rr (t - 1))) h_rw (by omega) (by omega) (rfl) dX6_shorten_32 ?_
              refine lv_aload_n E.1.1 E.1.2.1 dX6_shorten_33 rfl (lv_at hl 2 rfl) ?_
              refine lv_iload_n E.1.1 E.1.2.1 dX6_shorten_34 rfl (lv_at hl 0 rfl) ?_
              refine lv_iconst (v := nI 1) E.1.1 E.1.2.1 dX6_shorten_35 rfl ?_
              refine k_sub E dX6_shorten_36 (by omega) ?_
              refine lv_iload_n E.1.1 E.1.2.1 dX6_shorten_37 rfl (lv_at hl 1 rfl) ?_
              refine k_add E dX6_shorten_38 ?_
              refine k_ri (va_runV (As := [.int (nI ((t - 1) + q))]) (rest := [.int (b2i (rr (t - 1)))]) E.1 (m_inRow l D cy L f H.size A base fr pb ns T P B rr G hA hTP (t - 1 + q) hpb hfp (by omega) h_o h_rw) ⟨callB_of 1 E.1.2.2.2.2 (gd_own w3_63) rfl rfl rfl (E.1.2.2.2.2 _ w1_10) (E.1.2.2.2.2 _ w3_60) hd_X6_inRow (by rw [hR]; exact ⟨Nat.le_of_ble_eq_true rfl, Nat.le_of_ble_eq_true rfl⟩), E.1.2.2.2.2 _ w3_62, E.1.2.2.2.2 _ ws_29⟩ (pw_preV (q := (RX6, TX6, 12)) E.2 hw h_o rfl) rfl rfl hl.1 rfl (lv_room (Nat.le_of_ble_eq_true rfl)) dX6_shorten_39 ⟨Nat.zero_le _, Nat.zero_le _⟩) ?_
              refine k_bne (tgt := 51) E dX6_shorten_42 (by decide) (fun c42 => ?_) (fun c42 => ?_)
              · refine lv_aload_n E.1.1 E.1.2.1 dX6_shorten_51 rfl (lv_at hl 2 rfl) ?_
                refine lv_iload_n E.1.1 E.1.2.1 dX6_shorten_52 rfl (lv_at hl 0 rfl) ?_
                refine k_put (ty0 := tyX6) E inlX6 rfl tyX6_ok nmX6 5 (by decide) w2_237 rfl rfl hw [.int (nI base), .ref (A 1), .ref (A 2), .ref (A 3), .ref (A 4), .int (nI t), .int (nI pb), .ref (A 5), .int (nI ns), .ref (A 6), .ref (A 7), .ref (A 8)] h_o (rfl) (rfl) (Nat.le_of_ble_eq_true rfl) rfl dX6_shorten_53 (fun f H locs h_o hfr hw => ?_)
                have h_rw := h_rw.kp hfr (Ne.symm n_o_rw)
                have hF : ∀ b ∈ L, b ≠ (A 0) → f b = f0 b := fun b hb h0 => (hfr b h0).trans (hF b hb h0)
                refine lv_aload_n E.1.1 E.1.2.1 dX6_shorten_56 rfl (lv_at hl 2 rfl) ?_
                refine lv_iload_n E.1.1 E.1.2.1 dX6_shorten_57 rfl (lv_at hl 1 rfl) ?_
                refine k_put (ty0 := tyX6) E inlX6 rfl tyX6_ok nmX6 6 (by decide) w2_238 rfl rfl hw [.int (nI base), .ref (A 1), .ref (A 2), .ref (A 3), .ref (A 4), .int (nI t), .int (nI q), .ref (A 5), .int (nI ns), .ref (A 6), .ref (A 7), .ref (A 8)] h_o (rfl) (rfl) (Nat.le_of_ble_eq_true rfl) rfl dX6_shorten_58 (fun f H locs h_o hfr hw => ?_)
                have h_rw := h_rw.kp hfr (Ne.symm n_o_rw)
                have hF : ∀ b ∈ L, b ≠ (A 0) → f b = f0 b := fun b hb h0 => (hfr b h0).trans (hF b hb h0)
                exact k_mvret E hQ hlk hr hw (Nat.le_of_ble_eq_true rfl) (Nat.le_of_ble_eq_true rfl) (⟨rfl, hF, t, q, h_o, short_canon hpb (by omega) hq3 ht2 (Or.inr (by rw [den_in rr (by omega)]; exact c42)), ht, hq2⟩) dX6_shorten_61
              · refine lv_iinc (v := nI (t - 1)) (lv' := [(2, .int (nI (t - 1))), (1, .int (nI q)), (0, .ref (A 0))]) E.1.1 E.1.2.1 dX6_shorten_45 hl (k := 0) rfl (sb_m1 (by omega)) (by decide) rfl (fun ls hl => ?_)
                refine lv_goto (tgt := 21) E.1.1 E.1.2.1 dX6_shorten_48 (by decide) ?_
                exact ih21  (t - 1) f H locs ls (by omega) (by omega) (ev_down ht2 (by rw [den_in rr (by omega)]; exact c42)) h_o h_rw hF hw (lv_sub hl [0, 1, 2] rfl)
        exact lp21 (fr + 1) fr f H locs ls (Nat.lt_succ_self _) (by omega) (crm_ev hpb (dB_iff.mp c7)) h_o h_rw hF hw (lv_sub hl [0, 1, 2] rfl)
      · refine lv_iinc (v := nI (q + 1)) (lv' := [(1, .int (nI (q + 1))), (0, .ref (A 0))]) E.1.1 E.1.2.1 dX6_shorten_10 hl (k := 0) rfl (nI_1 _) (by decide) rfl (fun ls hl => ?_)
        refine lv_goto (tgt := 2) E.1.1 E.1.2.1 dX6_shorten_13 (by decide) ?_
        exact ih2  (q + 1) f H locs ls (by
        rcases Nat.lt_or_ge q pb with z | z
        · omega
        · exact absurd (dB_t (crm_self rr fr pb)) (by rw [show q = pb by omega] at c7; rw [c7]; decide)) (by omega) (by
        rcases Nat.lt_or_ge q pb with z | z
        · exact z
        · exact absurd (dB_t (crm_self rr fr pb)) (by rw [show q = pb by omega] at c7; rw [c7]; decide)) (fun j h1 h2 => by
        by_cases h : j = q
        · rw [h]; exact fun z => absurd (dB_t z) (by rw [c7]; decide)
        · exact hq3 j h1 (by omega)) h_o h_rw hF hw (lv_sub hl [0, 1] rfl)
  exact lp2 (pb - 1 + 1) 1 f H locs ls (Nat.lt_succ_self _) (by omega) (by omega) (fun j h1 h2 => absurd h2 (by omega)) h_o h_rw hF hw (lv_sub hl [0, 1] rfl)

set_option maxHeartbeats 4000000 in
set_option maxRecDepth 100000 in
theorem m_isKept (l : Launch) (D : va_G) (cy : Nat → ClassId) (L : List Nat) (f0 : Nat → va_E) (sz : Nat) (A : Nat → Nat) (base fr pb ns : Nat) (T P : Nat → Nat) (B : Nat → Nat → Bool) (rr : Nat → Bool) (G : Nat → Int32) (hA : MAd A) (hTP : TP T P) (x : Nat) (hx : x < 84) (hpb : 0 < pb) (hfp : fr + pb ≤ 4096) (h_o : cel L f0 (A 0) (.inr (6, [.int (nI base), .ref (A 1), .ref (A 2), .ref (A 3), .ref (A 4), .int (nI fr), .int (nI pb), .ref (A 5), .int (nI ns), .ref (A 6), .ref (A 7), .ref (A 8)]))) (h_ts : cel L f0 (A 1) (.inl (cy 0, 84, .inl (fun k => nI (T k))))) (h_ps : cel L f0 (A 2) (.inl (cy 0, 84, .inl (fun k => nI (P k))))) (h_bs : cel L f0 (A 3) (.inl (cy 1, 252, .inr (.inl (rw3 B))))) (h_rw : cel L f0 (A 4) (.inl (cy 2, 4096, .inl (fun k => b2i (rr k))))) : Met l yX6_isKept (.code yX6_isKept cX6_isKept 3 (Option.some FieldType.boolean) :: wsL_law) { frames := 2, cells := 0, slots := 0, locals := 45 } (va_Pc [.ref (A 0), .int (nI x)] (PW D cy L f0 sz)) (va_Qi (fun (r : Int32) (u : List Nat × (Nat → va_E)) => L = u.1 ∧ (∀ b ∈ L, b ≠ A 0 → b ≠ A 1 → b ≠ A 2 → b ≠ A 3 → u.2 b = f0 b) ∧ ∃ t q, Canon (den fr pb rr) t q ∧ cel L u.2 (A 0) (.inr (6, [.int (nI base), .ref (A 1), .ref (A 2), .ref (A 3), .ref (A 4), .int (nI t), .int (nI q), .ref (A 5), .int (nI ns), .ref (A 6), .ref (A 7), .ref (A 8)])) ∧ ((r = b2i false ∧ ¬ Fits (den fr pb rr) ∧ cel L u.2 (A 1) (.inl (cy 0, 84, .inl (fun k => nI (T k)))) ∧ cel L u.2 (A 2) (.inl (cy 0, 84, .inl (fun k => nI (P k)))) ∧ cel L u.2 (A 3) (.inl (cy 1, 252, .inr (.inl (rw3 B))))) ∨ (r = b2i true ∧ ∃ b2, SetIs (den fr pb rr) t q b2 ∧ cel L u.2 (A 1) (.inl (cy 0, 84, .inl (fun k => nI ((va_up T x t) k)))) ∧ cel L u.2 (A 2) (.inl (cy 0, 84, .inl (fun k => nI ((va_up P x q) k)))) ∧ cel L u.2 (A 3) (.inl (cy 1, 252, .inr (.inl (rw3 (va_up B x b2)))))))) (PB D (AW L sz)) (AW L sz)) 0 0 (AW L sz) := by
  refine m_start (by decide) (Nat.le_of_ble_eq_true rfl) ?_
  intro p e R Q s m args below meth c ls hsz hR hQ E hr hlk hnm hw hl
  have hl : lv_has ls 3 [(0, .ref (A 0)), (1, .int (nI x))] := hl
  obtain ⟨H, hH⟩ : ∃ X, X = s.heap := ⟨_, rfl⟩
  obtain ⟨locs, hlocs⟩ : ∃ X : List Loc, X = [] := ⟨_, rfl⟩
  have hw0 := hw
  obtain ⟨f, hf0⟩ : ∃ X, X = f0 := ⟨_, rfl⟩
  rw [← hf0] at h_o h_ts h_ps h_bs h_rw
  have hw : WW D (AW L sz) s.heap L f H locs := by rw [hH, hlocs, hf0]; exact hw
  have hF : ∀ b ∈ L, b ≠ (A 0) → b ≠ (A 1) → b ≠ (A 2) → b ≠ (A 3) → f b = f0 b := fun b hb h0 h1 h2 h3 => by rw [hf0]
  suffices hgo : W p l e R s m args below meth c H locs 0 0 Q (F0 m 0 ls []) by rw [hH, hlocs] at hgo; exact hgo
  clear hH hlocs hw0 hf0
  have hLs : ∀ b ∈ L, b ∈ L := fun _ h => h
  have n_o_ts : A 0 ≠ A 1 := hA.ne (by decide) (by decide) (by decide)
  have n_o_ps : A 0 ≠ A 2 := hA.ne (by decide) (by decide) (by decide)
  have n_o_bs : A 0 ≠ A 3 := hA.ne (by decide) (by decide) (by decide)
  have n_o_rw : A 0 ≠ A 4 := hA.ne (by decide) (by decide) (by decide)
  have n_ts_ps : A 1 ≠ A 2 := hA.ne (by decide) (by decide) (by decide)
  have n_ts_bs : A 1 ≠ A 3 := hA.ne (by decide) (by decide) (by decide)
  have n_ts_rw : A 1 ≠ A 4 := hA.ne (by decide) (by decide) (by decide)
  have n_ps_bs : A 2 ≠ A 3 := hA.ne (by decide) (by decide) (by decide)
  have n_ps_rw : A 2 ≠ A 4 := hA.ne (by decide) (by decide) (by decide)
  have n_bs_rw : A 3 ≠ A 4 := hA.ne (by decide) (by decide) (by decide)
  refine lv_aload_n E.1.1 E.1.2.1 dX6_isKept_0 rfl (lv_at hl 0 rfl) ?_
  refine k_mv hw (va_runV (As := []) (rest := []) E.1 (m_shorten l D cy L f H.size A base fr pb ns T P B rr G hA hTP hpb hfp h_o h_rw) ⟨callB_of 0 E.1.2.2.2.2 (gd_own w3_55) rfl rfl rfl (E.1.2.2.2.2 _ w1_10) (E.1.2.2.2.2 _ w3_52) hd_X6_shorten (by rw [hR]; exact ⟨Nat.le_of_ble_eq_true rfl, Nat.le_of_ble_eq_true rfl⟩), E.1.2.2.2.2 _ w3_54, E.1.2.2.2.2 _ ws_27⟩ (pw_preV (q := (RX6, TX6, 12)) E.2 hw h_o rfl) rfl rfl hl.1 rfl (lv_room (Nat.le_of_ble_eq_true rfl)) dX6_isKept_1 (by rw [hR]; exact ⟨Nat.le_of_ble_eq_true rfl, Nat.le_of_ble_eq_true rfl⟩)) (fun L1 f H locs hp hw => ?_)
  obtain ⟨hL1, hfr, t, q, h_o, hC, htf, hqp⟩ := hp
  have hL1 : L = L1 := hL1
  subst hL1
  have h_o : cel L f (A 0) (.inr (6, [.int (nI base), .ref (A 1), .ref (A 2), .ref (A 3), .ref (A 4), .int (nI t), .int (nI q), .ref (A 5), .int (nI ns), .ref (A 6), .ref (A 7), .ref (A 8)])) := h_o
  have h_ts := h_ts.keep (fun _ h => h) (hfr _ h_ts.1 (Ne.symm n_o_ts))
  have h_ps := h_ps.keep (fun _ h => h) (hfr _ h_ps.1 (Ne.symm n_o_ps))
  have h_bs := h_bs.keep (fun _ h => h) (hfr _ h_bs.1 (Ne.symm n_o_bs))
  have h_rw := h_rw.keep (fun _ h => h) (hfr _ h_rw.1 (Ne.symm n_o_rw))
  have hF : ∀ b ∈ L, b ≠ (A 0) → b ≠ (A 1) → b ≠ (A 2) → b ≠ (A 3) → f b = f0 b := fun b hb h0 h1 h2 h3 => (hfr b (hLs b hb) h0).trans (hF b hb h0 h1 h2 h3)
  refine lv_aload_n E.1.1 E.1.2.1 dX6_isKept_4 rfl (lv_at hl 0 rfl) ?_
  refine k_get (v := .int (nI q)) E inlX6 rfl 6 (by decide) w2_238 rfl hw h_o rfl dX6_isKept_5 ?_
  refine lv_bipush (v := nI 60) E.1.1 E.1.2.1 dX6_isKept_8 rfl ?_
  refine k_gt (tgt := 22) E dX6_isKept_10 (by decide) (by omega) (by omega) (fun c10 => ?_) (fun c10 => ?_)
  · refine lv_iconst (v := nI 0) E.1.1 E.1.2.1 dX6_isKept_22 rfl ?_
    refine k_top E (b2i false) rfl ?_
    exact k_mzret E hQ hlk hr hw (Nat.le_of_ble_eq_true rfl) (Nat.le_of_ble_eq_true rfl) (⟨rfl, hF, t, q, hC, h_o, Or.inl ⟨rfl, kept_no hC (by omega), h_ts, h_ps, h_bs⟩⟩) dX6_isKept_23
  · refine lv_aload_n E.1.1 E.1.2.1 dX6_isKept_13 rfl (lv_at hl 0 rfl) ?_
    refine k_get (v := .int (nI t)) E inlX6 rfl 5 (by decide) w2_237 rfl hw h_o rfl dX6_isKept_14 ?_
    refine lv_bipush (v := nI 120) E.1.1 E.1.2.1 dX6_isKept_17 rfl ?_
    refine k_le (tgt := 24) E dX6_isKept_19 (by decide) (by omega) (by omega) (fun c19 => ?_) (fun c19 => ?_)
    · refine lv_aload_n E.1.1 E.1.2.1 dX6_isKept_24 rfl (lv_at hl 0 rfl) ?_
      refine k_get (v := .ref (A 1)) E inlX6 rfl 1 (by decide) w2_233 rfl hw h_o rfl dX6_isKept_25 ?_
      refine lv_iload_n E.1.1 E.1.2.1 dX6_isKept_28 rfl (lv_at hl 1 rfl) ?_
      refine lv_aload_n E.1.1 E.1.2.1 dX6_isKept_29 rfl (lv_at hl 0 rfl) ?_
      refine k_get (v := .int (nI t)) E inlX6 rfl 5 (by decide) w2_237 rfl hw h_o rfl dX6_isKept_30 ?_
      refine k_iast E hw (fun k => nI (va_up T x t k)) h_ts (by omega) (by omega) (fun i _ => up_st T _ _ i) dX6_isKept_33 (fun f H locs h_ts hfr hw => ?_)
      have h_o := h_o.kp hfr n_o_ts
      have h_ps := h_ps.kp hfr (Ne.symm n_ts_ps)
      have h_bs := h_bs.kp hfr (Ne.symm n_ts_bs)
      have h_rw := h_rw.kp hfr (Ne.symm n_ts_rw)
      have hF : ∀ b ∈ L, b ≠ (A 0) → b ≠ (A 1) → b ≠ (A 2) → b ≠ (A 3) → f b = f0 b := fun b hb h0 h1 h2 h3 => (hfr b h1).trans (hF b hb h0 h1 h2 h3)
      refine lv_aload_n E.1.1 E.1.2.1 dX6_isKept_34 rfl (lv_at hl 0 rfl) ?_
      refine k_get (v := .ref (A 2)) E inlX6 rfl 2 (by decide) w2_234 rfl hw h_o rfl dX6_isKept_35 ?_
      refine lv_iload_n E.1.1 E.1.2.1 dX6_isKept_38 rfl (lv_at hl 1 rfl) ?_
      refine lv_aload_n E.1.1 E.1.2.1 dX6_isKept_39 rfl (lv_at hl 0 rfl) ?_
      refine k_get (v := .int (nI q)) E inlX6 rfl 6 (by decide) w2_238 rfl hw h_o rfl dX6_isKept_40 ?_
      refine k_iast E hw (fun k => nI (va_up P x q k)) h_ps (by omega) (by omega) (fun i _ => up_st P _ _ i) dX6_isKept_43 (fun f H locs h_ps hfr hw => ?_)
      have h_o := h_o.kp hfr n_o_ps
      have h_ts := h_ts.kp hfr n_ts_ps
      have h_bs := h_bs.kp hfr (Ne.symm n_ps_bs)
      have h_rw := h_rw.kp hfr (Ne.symm n_ps_rw)
      have hF : ∀ b ∈ L, b ≠ (A 0) → b ≠ (A 1) → b ≠ (A 2) → b ≠ (A 3) → f b = f0 b := fun b hb h0 h1 h2 h3 => (hfr b h2).trans (hF b hb h0 h1 h2 h3)
      rw [← rz_0 B x] at h_bs
      refine lv_iconst (v := nI 0) E.1.1 E.1.2.1 dX6_isKept_44 rfl ?_
      refine lv_istore_n (lv' := [(2, .int (nI 0)), (0, .ref (A 0)), (1, .int (nI x))]) E.1.1 E.1.2.1 dX6_isKept_45 rfl hl (by decide) rfl (fun ls hl => ?_)
      have lp46 : ∀ (k : Nat) (i : Nat) (f : Nat → va_E) (H : Heap) (locs : List Loc) (ls : Array Slot), (3 - i < k) → (i ≤ 3) → (cel L f (A 0) (.inr (6, [.int (nI base), .ref (A 1), .ref (A 2), .ref (A 3), .ref (A 4), .int (nI t), .int (nI q), .ref (A 5), .int (nI ns), .ref (A 6), .ref (A 7), .ref (A 8)]))) → (cel L f (A 1) (.inl (cy 0, 84, .inl (fun k => nI (va_up T x t k))))) → (cel L f (A 2) (.inl (cy 0, 84, .inl (fun k => nI (va_up P x q k))))) → (cel L f (A 3) (.inl (cy 1, 252, .inr (.inl (rz B x i))))) → (cel L f (A 4) (.inl (cy 2, 4096, .inl (fun k => b2i (rr k))))) → (∀ b ∈ L, b ≠ (A 0) → b ≠ (A 1) → b ≠ (A 2) → b ≠ (A 3) → f b = f0 b) → (WW D (AW L sz) s.heap L f H locs) → (lv_has ls 3 [(2, .int (nI i)), (0, .ref (A 0)), (1, .int (nI x))]) → W p l e R s m args below meth c H locs 0 0 Q (F0 m 46 ls []) := by
        intro k
        induction k with
        | zero => intro _ _ _ _ _ hk; exact absurd hk (Nat.not_lt_zero _)
        | succ k ih46 =>
          intro i f H locs ls hk hi h_o h_ts h_ps h_bs h_rw hF hw hl
          refine lv_iload_n E.1.1 E.1.2.1 dX6_isKept_46 rfl (lv_at hl 0 rfl) ?_
          refine lv_iconst (v := nI 3) E.1.1 E.1.2.1 dX6_isKept_47 rfl ?_
          refine k_ge (tgt := 68) E dX6_isKept_48 (by decide) (by omega) (by omega) (fun c48 => ?_) (fun c48 => ?_)
          · rw [show i = 3 by omega, rz_3 B x, ← rb_0 rr] at h_bs
            refine lv_iconst (v := nI 0) E.1.1 E.1.2.1 dX6_isKept_68 rfl ?_
            refine lv_istore_n (lv' := [(2, .int (nI 0)), (0, .ref (A 0)), (1, .int (nI x))]) E.1.1 E.1.2.1 dX6_isKept_69 rfl hl (by decide) rfl (fun ls hl => ?_)
            have lp70 : ∀ (k : Nat) (u : Nat) (f : Nat → va_E) (H : Heap) (locs : List Loc) (ls : Array Slot), (t + q - u < k) → (u ≤ t + q) → (cel L f (A 0) (.inr (6, [.int (nI base), .ref (A 1), .ref (A 2), .ref (A 3), .ref (A 4), .int (nI t), .int (nI q), .ref (A 5), .int (nI ns), .ref (A 6), .ref (A 7), .ref (A 8)]))) → (cel L f (A 1) (.inl (cy 0, 84, .inl (fun k => nI (va_up T x t k))))) → (cel L f (A 2) (.inl (cy 0, 84, .inl (fun k => nI (va_up P x q k))))) → (cel L f (A 3) (.inl (cy 1, 252, .inr (.inl (rw3 (va_up B x (rb rr u))))))) → (cel L f (A 4) (.inl (cy 2, 4096, .inl (fun k => b2i (rr k))))) → (∀ b ∈ L, b ≠ (A 0) → b ≠ (A 1) → b ≠ (A 2) → b ≠ (A 3) → f b = f0 b) → (WW D (AW L sz) s.heap L f H locs) → (lv_has ls 3 [(2, .int (nI u)), (0, .ref (A 0)), (1, .int (nI x))]) → W p l e R s m args below meth c H locs 0 0 Q (F0 m 70 ls []) := by
              intro k
              induction k with
              | zero => intro _ _ _ _ _ hk; exact absurd hk (Nat.not_lt_zero _)
              | succ k ih70 =>
                intro u f H locs ls hk hu h_o h_ts h_ps h_bs h_rw hF hw hl
                refine lv_iload_n E.1.1 E.1.2.1 dX6_isKept_70 rfl (lv_at hl 0 rfl) ?_
                refine lv_aload_n E.1.1 E.1.2.1 dX6_isKept_71 rfl (lv_at hl 1 rfl) ?_
                refine k_get (v := .int (nI t)) E inlX6 rfl 5 (by decide) w2_237 rfl hw h_o rfl dX6_isKept_72 ?_
                refine lv_aload_n E.1.1 E.1.2.1 dX6_isKept_75 rfl (lv_at hl 1 rfl) ?_
                refine k_get (v := .int (nI q)) E inlX6 rfl 6 (by decide) w2_238 rfl hw h_o rfl dX6_isKept_76 ?_
                refine k_add E dX6_isKept_79 ?_
                refine k_ge (tgt := 124) E dX6_isKept_80 (by decide) (by omega) (by omega) (fun c80 => ?_) (fun c80 => ?_)
                · refine lv_iconst (v := nI 1) E.1.1 E.1.2.1 dX6_isKept_124 rfl ?_
                  refine k_top E (b2i true) rfl ?_
                  exact k_mzret E hQ hlk hr hw (Nat.le_of_ble_eq_true rfl) (Nat.le_of_ble_eq_true rfl) (⟨rfl, hF, t, q, hC, h_o, Or.inr ⟨rfl, rb rr (t + q), kept_set hC (by omega) (by omega) (fun n hn => (den_in rr (by omega)).symm), h_ts, h_ps, by rw [show t + q = u by omega]; exact h_bs⟩⟩) dX6_isKept_125
                · refine lv_aload_n E.1.1 E.1.2.1 dX6_isKept_83 rfl (lv_at hl 1 rfl) ?_
                  refine k_get (v := .ref (A 3)) E inlX6 rfl 3 (by decide) w2_235 rfl hw h_o rfl dX6_isKept_84 ?_
                  refine lv_iconst (v := nI 3) E.1.1 E.1.2.1 dX6_isKept_87 rfl ?_
                  refine lv_iload_n E.1.1 E.1.2.1 dX6_isKept_88 rfl (lv_at hl 2 rfl) ?_
                  refine k_mul E dX6_isKept_89 ?_
                  refine lv_iload_n E.1.1 E.1.2.1 dX6_isKept_90 rfl (lv_at hl 0 rfl) ?_
                  refine lv_bipush (v := nI 64) E.1.1 E.1.2.1 dX6_isKept_91 rfl ?_
                  refine k_div E dX6_isKept_93 (by omega) (by omega) (by omega) ?_
                  refine k_add E dX6_isKept_94 ?_
                  refine lv_dup2_11 E.1.1 E.1.2.1 dX6_isKept_95 rfl rfl ?_
                  refine k_lald E hw (v := wd (rb rr u) (u / 64)) h_bs (by omega) (by omega) (by rw [rw3_at' _ _ (by omega), va_up_self]) dX6_isKept_96 ?_
                  refine lv_aload_n E.1.1 E.1.2.1 dX6_isKept_97 rfl (lv_at hl 1 rfl) ?_
                  refine k_get (v := .ref (A 4)) E inlX6 rfl 4 (by decide) w2_236 rfl hw h_o rfl dX6_isKept_98 ?_
                  refine lv_iload_n E.1.1 E.1.2.1 dX6_isKept_101 rfl (lv_at hl 0 rfl) ?_
                  refine k_zald E hw (v := b2i (rr u)) h_rw (by omega) (by omega) (rfl) dX6_isKept_102 ?_
                  refine k_if0 (tgt := 115) E dX6_isKept_103 (by decide) (fun c103 => ?_) (fun c103 => ?_)
                  · refine lv_lconst (v := 0) E.1.1 E.1.2.1 dX6_isKept_115 rfl ?_
                    refine k_topl E (lN (if rr u then 2 ^ (u % 64) else 0)) (by rw [c103]; rfl) ?_
                    refine lv_lor E.1.1 E.1.2.1 dX6_isKept_116 ?_
                    refine k_last E hw (rw3 (va_up B x (rb rr (u + 1)))) h_bs (by omega) (by omega) (fun w _ => st_rest' B rr x (by omega) w) dX6_isKept_117 (fun f H locs h_bs hfr hw => ?_)
                    have h_o := h_o.kp hfr n_o_bs
                    have h_ts := h_ts.kp hfr n_ts_bs
                    have h_ps := h_ps.kp hfr n_ps_bs
                    have h_rw := h_rw.kp hfr (Ne.symm n_bs_rw)
                    have hF : ∀ b ∈ L, b ≠ (A 0) → b ≠ (A 1) → b ≠ (A 2) → b ≠ (A 3) → f b = f0 b := fun b hb h0 h1 h2 h3 => (hfr b h3).trans (hF b hb h0 h1 h2 h3)
                    refine lv_iinc (v := nI (u + 1)) (lv' := [(2, .int (nI (u + 1))), (0, .ref (A 0)), (1, .int (nI x))]) E.1.1 E.1.2.1 dX6_isKept_118 hl (k := 0) rfl (nI_1 _) (by decide) rfl (fun ls hl => ?_)
                    refine lv_goto (tgt := 70) E.1.1 E.1.2.1 dX6_isKept_121 (by decide) ?_
                    exact ih70  (u + 1) f H locs ls (by omega) (by omega) h_o h_ts h_ps h_bs h_rw hF hw (lv_sub hl [0, 1, 2] rfl)
                  · refine lv_lconst (v := 1) E.1.1 E.1.2.1 dX6_isKept_106 rfl ?_
                    refine lv_iload_n E.1.1 E.1.2.1 dX6_isKept_107 rfl (lv_at hl 0 rfl) ?_
                    refine lv_bipush (v := nI 64) E.1.1 E.1.2.1 dX6_isKept_108 rfl ?_
                    refine k_rem E dX6_isKept_110 (by omega) (by omega) (by omega) ?_
                    refine lv_lshl E.1.1 E.1.2.1 dX6_isKept_111 rfl ?_
                    refine lv_goto (tgt := 116) E.1.1 E.1.2.1 dX6_isKept_112 (by decide) ?_
                    refine k_topl E (lN (if rr u then 2 ^ (u % 64) else 0)) (by rw [c103, one_shl (by omega), Nat.mod_mod]; rfl) ?_
                    refine lv_lor E.1.1 E.1.2.1 dX6_isKept_116 ?_
                    refine k_last E hw (rw3 (va_up B x (rb rr (u + 1)))) h_bs (by omega) (by omega) (fun w _ => st_rest' B rr x (by omega) w) dX6_isKept_117 (fun f H locs h_bs hfr hw => ?_)
                    have h_o := h_o.kp hfr n_o_bs
                    have h_ts := h_ts.kp hfr n_ts_bs
                    have h_ps := h_ps.kp hfr n_ps_bs
                    have h_rw := h_rw.kp hfr (Ne.symm n_bs_rw)
                    have hF : ∀ b ∈ L, b ≠ (A 0) → b ≠ (A 1) → b ≠ (A 2) → b ≠ (A 3) → f b = f0 b := fun b hb h0 h1 h2 h3 => (hfr b h3).trans (hF b hb h0 h1 h2 h3)
                    refine lv_iinc (v := nI (u + 1)) (lv' := [(2, .int (nI (u + 1))), (0, .ref (A 0)), (1, .int (nI x))]) E.1.1 E.1.2.1 dX6_isKept_118 hl (k := 0) rfl (nI_1 _) (by decide) rfl (fun ls hl => ?_)
                    refine lv_goto (tgt := 70) E.1.1 E.1.2.1 dX6_isKept_121 (by decide) ?_
                    exact ih70  (u + 1) f H locs ls (by omega) (by omega) h_o h_ts h_ps h_bs h_rw hF hw (lv_sub hl [0, 1, 2] rfl)
            exact lp70 (t + q - 0 + 1) 0 f H locs ls (Nat.lt_succ_self _) (by omega) h_o h_ts h_ps h_bs h_rw hF hw (lv_sub hl [0, 1, 2] rfl)
          · refine lv_aload_n E.1.1 E.1.2.1 dX6_isKept_51 rfl (lv_at hl 1 rfl) ?_
            refine k_get (v := .ref (A 3)) E inlX6 rfl 3 (by decide) w2_235 rfl hw h_o rfl dX6_isKept_52 ?_
            refine lv_iconst (v := nI 3) E.1.1 E.1.2.1 dX6_isKept_55 rfl ?_
            refine lv_iload_n E.1.1 E.1.2.1 dX6_isKept_56 rfl (lv_at hl 2 rfl) ?_
            refine k_mul E dX6_isKept_57 ?_
            refine lv_iload_n E.1.1 E.1.2.1 dX6_isKept_58 rfl (lv_at hl 0 rfl) ?_
            refine k_add E dX6_isKept_59 ?_
            refine lv_lconst (v := 0) E.1.1 E.1.2.1 dX6_isKept_60 rfl ?_
            refine k_last E hw (rz B x (i + 1)) h_bs (by omega) (by omega) (fun w _ => rz_s' B (by omega) w) dX6_isKept_61 (fun f H locs h_bs hfr hw => ?_)
            have h_o := h_o.kp hfr n_o_bs
            have h_ts := h_ts.kp hfr n_ts_bs
            have h_ps := h_ps.kp hfr n_ps_bs
            have h_rw := h_rw.kp hfr (Ne.symm n_bs_rw)
            have hF : ∀ b ∈ L, b ≠ (A 0) → b ≠ (A 1) → b ≠ (A 2) → b ≠ (A 3) → f b = f0 b := fun b hb h0 h1 h2 h3 => (hfr b h3).trans (hF b hb h0 h1 h2 h3)
            refine lv_iinc (v := nI (i + 1)) (lv' := [(2, .int (nI (i + 1))), (0, .ref (A 0)), (1, .int (nI x))]) E.1.1 E.1.2.1 dX6_isKept_62 hl (k := 0) rfl (nI_1 _) (by decide) rfl (fun ls hl => ?_)
            refine lv_goto (tgt := 46) E.1.1 E.1.2.1 dX6_isKept_65 (by decide) ?_
            exact ih46  (i + 1) f H locs ls (by omega) (by omega) h_o h_ts h_ps h_bs h_rw hF hw (lv_sub hl [0, 1, 2] rfl)
      exact lp46 (3 - 0 + 1) 0 f H locs ls (Nat.lt_succ_self _) (by omega) h_o h_ts h_ps h_bs h_rw hF hw (lv_sub hl [0, 1, 2] rfl)
    · refine lv_iconst (v := nI 0) E.1.1 E.1.2.1 dX6_isKept_22 rfl ?_
      refine k_top E (b2i false) rfl ?_
      exact k_mzret E hQ hlk hr hw (Nat.le_of_ble_eq_true rfl) (Nat.le_of_ble_eq_true rfl) (⟨rfl, hF, t, q, hC, h_o, Or.inl ⟨rfl, kept_no hC (by omega), h_ts, h_ps, h_bs⟩⟩) dX6_isKept_23
