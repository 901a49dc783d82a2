/-- a row that has been written up to u -/
def rbx (X rr : Nat → Bool) (u : Nat) : Nat → Bool := fun n => if n < u then X n else rr n
theorem rbx_0 (X rr : Nat → Bool) : rbx X rr 0 = rr := by
  funext n
  simp [rbx]
theorem rbx_s (X rr : Nat → Bool) (u i : Nat) : (if i = u then b2i (X u) else b2i (rbx X rr u i)) = b2i (rbx X rr (u + 1) i) := by
  unfold rbx
  by_cases h : i = u
  · rw [if_pos h, if_pos (by omega), h]
  · rw [if_neg h]
    by_cases h2 : i < u
    · rw [if_pos h2, if_pos (by omega)]
    · rw [if_neg h2, if_neg (by omega)]
theorem den_rbx {X : Nat → Bool} (rr : Nat → Bool) {t per : Nat} (hp : 0 < per) (h : EvP X t per) : den t per (rbx X rr (t + per)) = X := by
  funext n
  refine (ev_den hp h (fun i hi => ?_) n).symm
  unfold rbx
  rw [if_pos hi]
/-- what the model holds when K pairs have been gone through -/
def MI (S : Nat → Bool) (base K nf : Nat) (T P : Nat → Nat) (B : Nat → Nat → Bool) (G : Nat → Int32) : Prop := nf = (trn S base K).1 ∧ (∀ x, x < nf → SetIs ((trn S base K).2.1 x) (T (18 + x)) (P (18 + x)) (B (18 + x))) ∧ (∀ x, x < K → G (5 * (x / base) + x % base) = nI ((trn S base K).2.2 x)) ∧ ∀ K', K' < K → ¬ Stop S base K'
theorem MI_0 {S : Nat → Bool} {base : Nat} {T P : Nat → Nat} {B : Nat → Nat → Bool} {G : Nat → Int32} (h : SetIs S (T 18) (P 18) (B 18)) : MI S base 0 1 T P B G := by
  refine ⟨rfl, fun x hx => ?_, fun x hx => absurd hx (by omega), fun K' h => absurd h (by omega)⟩
  rw [show x = 0 by omega]
  exact h
theorem MI_step {S : Nat → Bool} {base K nf j i d nf' t2 q2 : Nat} {b2 : Nat → Bool} {T P T' P' : Nat → Nat} {B B' : Nat → Nat → Bool} {G G' : Nat → Int32} (hb : 0 < base) (hb5 : base ≤ 5) (h : MI S base K nf T P B G) (hi : K / base = i) (hd : K % base = d) (hin : i < nf) (h64 : nf ≤ 64) (h1 : j ≤ nf)
    (hS2 : SetIs (skD ((trn S base K).2.1 i) base d) t2 q2 b2)
    (h2 : ∀ x, x < j → ¬ (T (18 + x) = t2 ∧ P (18 + x) = q2 ∧ SameR (B (18 + x)) b2))
    (h3 : j = nf ∨ (T (18 + j) = t2 ∧ P (18 + j) = q2 ∧ SameR (B (18 + j)) b2))
    (hT : ∀ x, x < nf → T' (18 + x) = T (18 + x) ∧ P' (18 + x) = P (18 + x) ∧ B' (18 + x) = B (18 + x))
    (hnew : j = nf → SetIs (skD ((trn S base K).2.1 i) base d) (T' (18 + nf)) (P' (18 + nf)) (B' (18 + nf)))
    (hnf : nf' = max nf (j + 1))
    (hG : G' = fun x => if x = 5 * i + d then nI j else G x) (hstop : K < nf * base) : MI S base (K + 1) nf' T' P' B' G' := by
  obtain ⟨e1, e2, e3, e4⟩ := h
  have hf : fa_first (fun i => dB ((trn S base K).2.1 i = fun u => (trn S base K).2.1 (K / base) (base * u + K % base))) (trn S base K).1 = j := by
    rw [hi, hd, ← e1]
    refine first_is h1 (fun x hx => ?_) ?_
    · exact dB_f (fun e => h2 x hx ((same_iff (e2 x (by omega)) hS2).mpr e))
    · rcases h3 with h3 | h3
      · exact Or.inl h3
      · rcases Nat.lt_or_ge j nf with z | z
        · exact Or.inr (dB_t ((same_iff (e2 j z) hS2).mp h3))
        · left; omega
  subst hnf
  refine ⟨?_, fun x hx => ?_, fun x hx => ?_, fun K' hK => ?_⟩
  · rw [trn_1, hf, ← e1]
  · rw [trn_2, ← e1, hi, hd]
    by_cases hxn : x = nf
    · rw [hxn, va_up_self]; exact hnew (by omega)
    · rw [va_up_ne _ _ hxn]
      obtain ⟨a1, a2, a3⟩ := hT x (by omega)
      rw [a1, a2, a3]
      exact e2 x (by omega)
  · rw [trn_3, hf, hG]
    have hm := Nat.mod_lt x hb
    have hm2 := Nat.div_add_mod x base
    have hm3 := Nat.div_add_mod K base
    by_cases hxK : x = K
    · subst hxK
      rw [va_up_self]
      show (if 5 * (x / base) + x % base = 5 * i + d then _ else _) = _
      rw [if_pos (by rw [hi, hd])]
    · rw [va_up_ne _ _ hxK]
      show (if 5 * (x / base) + x % base = 5 * i + d then _ else _) = _
      rw [if_neg, e3 x (by omega)]
      intro q
      have hdl := Nat.mod_lt K hb
      have q1 : x / base = i := by omega
      have q2 : x % base = d := by omega
      apply hxK
      rw [← hm2, ← hm3, q1, q2, hi, hd]
  · by_cases hKK : K' = K
    · subst hKK
      rintro (hs | hs)
      · rw [← e1] at hs; omega
      · rw [← e1] at hs; omega
    · exact e4 K' (by omega)
theorem MI_big {S : Nat → Bool} {base K nf : Nat} {T P : Nat → Nat} {B : Nat → Nat → Bool} {G : Nat → Int32} (h : MI S base K nf T P B G) (h64 : 64 < nf) : FS S base K ∧ 64 < (trn S base K).1 := by
  obtain ⟨e1, e2, e3, e4⟩ := h
  exact ⟨⟨Or.inr (by omega), e4⟩, by omega⟩
theorem MI_end {S : Nat → Bool} {base nf : Nat} {T P : Nat → Nat} {B : Nat → Nat → Bool} {G : Nat → Int32} (h : MI S base (nf * base) nf T P B G) (h64 : nf ≤ 64) : MchOf S base nf := ⟨⟨Or.inl (by rw [← h.1]; exact Nat.le_refl _), h.2.2.2⟩, h.1, h64⟩
/-- the sets below 18 are as they were -/
def AG (T P : Nat → Nat) (B : Nat → Nat → Bool) (T' P' : Nat → Nat) (B' : Nat → Nat → Bool) : Prop := ∀ x, x < 18 → T' x = T x ∧ P' x = P x ∧ B' x = B x
theorem AG.up {T P T' P' : Nat → Nat} {B B' : Nat → Nat → Bool} (h : AG T P B T' P' B') {y : Nat} (hy : 18 ≤ y) (t q : Nat) (b : Nat → Bool) : AG T P B (va_up T' y t) (va_up P' y q) (va_up B' y b) := fun x hx => by
  rw [va_up_ne _ _ (show x ≠ y by omega), va_up_ne _ _ (show x ≠ y by omega), va_up_ne _ _ (show x ≠ y by omega)]
  exact h x hx
/-- a machine laid, or too large a one -/
def ML (S : Nat → Bool) (base ns : Nat) (T P : Nat → Nat) (B : Nat → Nat → Bool) (G : Nat → Int32) : Prop := (ns ≤ 64 ∧ MchOf S base ns ∧ MI S base (ns * base) ns T P B G) ∨ (64 < ns ∧ ∃ K, FS S base K ∧ 64 < (trn S base K).1)
theorem ML.small {S : Nat → Bool} {base ns n : Nat} {T P : Nat → Nat} {B : Nat → Nat → Bool} {G : Nat → Int32} (hb : 0 < base) (h : ML S base ns T P B G) (hf : Fits S) (hm : MchOf S base n) : ns = n ∧ MI S base (n * base) n T P B G := by
  rcases h with ⟨_, h1, h2⟩ | ⟨_, h1⟩
  · have e := h1.uni hb hm
    subst e
    exact ⟨rfl, h2⟩
  · exact absurd (Or.inr h1) (hm.small hf)
/-- the loop over the states -/
def MO (S : Nat → Bool) (base i d ns : Nat) (T P : Nat → Nat) (B : Nat → Nat → Bool) (G : Nat → Int32) : Prop := MI S base (i * base + d) ns T P B G ∨ (64 < ns ∧ ∃ K, FS S base K ∧ 64 < (trn S base K).1)
theorem MO.next {S : Nat → Bool} {base i d ns : Nat} {T P : Nat → Nat} {B : Nat → Nat → Bool} {G : Nat → Int32} (h : MO S base i d ns T P B G) (hd : d = base ∨ 64 < ns) : MO S base (i + 1) 0 ns T P B G := by
  rcases h with h | h
  · rcases hd with e | e
    · left
      rw [Nat.add_zero, Nat.succ_mul]
      subst e
      exact h
    · exact Or.inr ⟨e, _, MI_big h e⟩
  · exact Or.inr h
theorem MO.fin {S : Nat → Bool} {base i ns : Nat} {T P : Nat → Nat} {B : Nat → Nat → Bool} {G : Nat → Int32} (h : MO S base i 0 ns T P B G) (hi : i ≤ ns) (hd : ns ≤ i ∨ 64 < ns) : ML S base ns T P B G := by
  rcases h with h | h
  · by_cases e : 64 < ns
    · exact Or.inr ⟨e, _, MI_big h e⟩
    · have e2 : i = ns := by omega
      subst e2
      rw [Nat.add_zero] at h
      exact Or.inl ⟨by omega, MI_end h (by omega), h⟩
  · exact Or.inr h
set_option maxHeartbeats 4000000 in
set_option maxRecDepth 100000 in
theorem m_layRest (l : Launch) (D : va_G) (cy : Nat → ClassId) (L : List Nat) (f0 : Nat → va_E) (sz : Nat) (A : Nat → Nat) (base fr pb ns : Nat) (T P : Nat → Nat) (B : Nat → Nat → Bool) (rr : Nat → Bool) (G : Nat → Int32) (hA : MAd A) (hTP : TP T P) (x d y : Nat) (hx : x < 84) (hy : y < 84) (hb0 : 0 < base) (hb5 : base ≤ 5) (hd : d < base) (h_o : cel L f0 (A 0) (.inr (6, [.int (nI base), .ref (A 1), .ref (A 2), .ref (A 3), .ref (A 4), .int (nI fr), .int (nI pb), .ref (A 5), .int (nI ns), .ref (A 6), .ref (A 7), .ref (A 8)]))) (h_ts : cel L f0 (A 1) (.inl (cy 0, 84, .inl (fun k => nI (T k))))) (h_ps : cel L f0 (A 2) (.inl (cy 0, 84, .inl (fun k => nI (P k))))) (h_bs : cel L f0 (A 3) (.inl (cy 1, 252, .inr (.inl (rw3 B))))) (h_rw : cel L f0 (A 4) (.inl (cy 2, 4096, .inl (fun k => b2i (rr k))))) : Met l yX6_layRest (.code yX6_layRest cX6_layRest 5 none :: wsL_law) { frames := 3, cells := 0, slots := 0, locals := 67 } (va_Pc [.ref (A 0), .int (nI x), .int (nI d), .int (nI y)] (PW D cy L f0 sz)) (va_Qv (fun u : List Nat × (Nat → va_E) => L = u.1 ∧ (∀ b ∈ L, b ≠ A 0 → b ≠ A 1 → b ≠ A 2 → b ≠ A 3 → b ≠ A 4 → u.2 b = f0 b) ∧ ∃ (t2 q2 : Nat) (b2 rr2 : Nat → Bool), SetIs (skD (den (T x) (P x) (B x)) base d) t2 q2 b2 ∧ cel L u.2 (A 0) (.inr (6, [.int (nI base), .ref (A 1), .ref (A 2), .ref (A 3), .ref (A 4), .int (nI t2), .int (nI q2), .ref (A 5), .int (nI ns), .ref (A 6), .ref (A 7), .ref (A 8)])) ∧ cel L u.2 (A 1) (.inl (cy 0, 84, .inl (fun k => nI ((va_up T y t2) k)))) ∧ cel L u.2 (A 2) (.inl (cy 0, 84, .inl (fun k => nI ((va_up P y q2) k)))) ∧ cel L u.2 (A 3) (.inl (cy 1, 252, .inr (.inl (rw3 (va_up B y b2))))) ∧ cel L u.2 (A 4) (.inl (cy 2, 4096, .inl (fun k => b2i (rr2 k))))) (PB D (AW L sz)) (AW L sz)) 0 0 (AW L sz) := by
  refine m_start (by decide) (Nat.le_of_ble_eq_true rfl) ?_
  intro p e R Q s m args below meth c ls hsz hR hQ E hr hlk hnm hw hl
  have hl : lv_has ls 5 [(0, .ref (A 0)), (1, .int (nI x)), (2, .int (nI d)), (3, .int (nI y))] := hl
  obtain ⟨H, hH⟩ : ∃ X, X = s.heap := ⟨_, rfl⟩
  obtain ⟨locs, hlocs⟩ : ∃ X : List Loc, X = [] := ⟨_, rfl⟩
  have hw0 := hw
  obtain ⟨f, hf0⟩ : ∃ X, X = f0 := ⟨_, rfl⟩
  rw [← hf0] at h_o h_ts h_ps h_bs h_rw
  have hw : WW D (AW L sz) s.heap L f H locs := by rw [hH, hlocs, hf0]; exact hw
  have hF : ∀ b ∈ L, b ≠ (A 0) → b ≠ (A 1) → b ≠ (A 2) → b ≠ (A 3) → b ≠ (A 4) → f b = f0 b := fun b hb h0 h1 h2 h3 h4 => by rw [hf0]
  suffices hgo : W p l e R s m args below meth c H locs 0 0 Q (F0 m 0 ls []) by rw [hH, hlocs] at hgo; exact hgo
  clear hH hlocs hw0 hf0
  have hLs : ∀ b ∈ L, b ∈ L := fun _ h => h
  have n_o_ts : A 0 ≠ A 1 := hA.ne (by decide) (by decide) (by decide)
  have n_o_ps : A 0 ≠ A 2 := hA.ne (by decide) (by decide) (by decide)
  have n_o_bs : A 0 ≠ A 3 := hA.ne (by decide) (by decide) (by decide)
  have n_o_rw : A 0 ≠ A 4 := hA.ne (by decide) (by decide) (by decide)
  have n_ts_ps : A 1 ≠ A 2 := hA.ne (by decide) (by decide) (by decide)
  have n_ts_bs : A 1 ≠ A 3 := hA.ne (by decide) (by decide) (by decide)
  have n_ts_rw : A 1 ≠ A 4 := hA.ne (by decide) (by decide) (by decide)
  have n_ps_bs : A 2 ≠ A 3 := hA.ne (by decide) (by decide) (by decide)
  have n_ps_rw : A 2 ≠ A 4 := hA.ne (by decide) (by decide) (by decide)
  have n_bs_rw : A 3 ≠ A 4 := hA.ne (by decide) (by decide) (by decide)
  have hTx := hTP x hx
  have hX : den (T x) (P x) (rbx (skD (den (T x) (P x) (B x)) base d) rr (T x + P x)) = (skD (den (T x) (P x) (B x)) base d) := den_rbx rr hTx.2.1 (skD_ev hb0 (den_ev (B x) hTx.2.1))
  refine lv_aload_n E.1.1 E.1.2.1 dX6_layRest_0 rfl (lv_at hl 0 rfl) ?_
  refine lv_aload_n E.1.1 E.1.2.1 dX6_layRest_1 rfl (lv_at hl 0 rfl) ?_
  refine k_get (v := .ref (A 1)) E inlX6 rfl 1 (by decide) w2_233 rfl hw h_o rfl dX6_layRest_2 ?_
  refine lv_iload_n E.1.1 E.1.2.1 dX6_layRest_5 rfl (lv_at hl 1 rfl) ?_
  refine k_iald E hw (v := nI (T x)) h_ts (by omega) (by omega) (rfl) dX6_layRest_6 ?_
  refine k_put (ty0 := tyX6) E inlX6 rfl tyX6_ok nmX6 5 (by decide) w2_237 rfl rfl hw [.int (nI base), .ref (A 1), .ref (A 2), .ref (A 3), .ref (A 4), .int (nI (T x)), .int (nI pb), .ref (A 5), .int (nI ns), .ref (A 6), .ref (A 7), .ref (A 8)] h_o (rfl) (rfl) (Nat.le_of_ble_eq_true rfl) rfl dX6_layRest_7 (fun f H locs h_o hfr hw => ?_)
  have h_ts := h_ts.kp hfr (Ne.symm n_o_ts)
  have h_ps := h_ps.kp hfr (Ne.symm n_o_ps)
  have h_bs := h_bs.kp hfr (Ne.symm n_o_bs)
  have h_rw := h_rw.kp hfr (Ne.symm n_o_rw)
  have hF : ∀ b ∈ L, b ≠ (A 0) → b ≠ (A 1) → b ≠ (A 2) → b ≠ (A 3) → b ≠ (A 4) → f b = f0 b := fun b hb h0 h1 h2 h3 h4 => (hfr b h0).trans (hF b hb h0 h1 h2 h3 h4)
  refine lv_aload_n E.1.1 E.1.2.1 dX6_layRest_10 rfl (lv_at hl 0 rfl) ?_
  refine lv_aload_n E.1.1 E.1.2.1 dX6_layRest_11 rfl (lv_at hl 0 rfl) ?_
  refine k_get (v := .ref (A 2)) E inlX6 rfl 2 (by decide) w2_234 rfl hw h_o rfl dX6_layRest_12 ?_
  refine lv_iload_n E.1.1 E.1.2.1 dX6_layRest_15 rfl (lv_at hl 1 rfl) ?_
  refine k_iald E hw (v := nI (P x)) h_ps (by omega) (by omega) (rfl) dX6_layRest_16 ?_
  refine k_put (ty0 := tyX6) E inlX6 rfl tyX6_ok nmX6 6 (by decide) w2_238 rfl rfl hw [.int (nI base), .ref (A 1), .ref (A 2), .ref (A 3), .ref (A 4), .int (nI (T x)), .int (nI (P x)), .ref (A 5), .int (nI ns), .ref (A 6), .ref (A 7), .ref (A 8)] h_o (rfl) (rfl) (Nat.le_of_ble_eq_true rfl) rfl dX6_layRest_17 (fun f H locs h_o hfr hw => ?_)
  have h_ts := h_ts.kp hfr (Ne.symm n_o_ts)
  have h_ps := h_ps.kp hfr (Ne.symm n_o_ps)
  have h_bs := h_bs.kp hfr (Ne.symm n_o_bs)
  have h_rw := h_rw.kp hfr (Ne.symm n_o_rw)
  have hF : ∀ b ∈ L, b ≠ (A 0) → b ≠ (A 1) → b ≠ (A 2) → b ≠ (A 3) → b ≠ (A 4) → f b = f0 b := fun b hb h0 h1 h2 h3 h4 => (hfr b h0).trans (hF b hb h0 h1 h2 h3 h4)
  rw [← rbx_0 (skD (den (T x) (P x) (B x)) base d) rr] at h_rw
  refine lv_iconst (v := nI 0) E.1.1 E.1.2.1 dX6_layRest_20 rfl ?_
  refine lv_istore (lv' := [(4, .int (nI 0)), (0, .ref (A 0)), (1, .int (nI x)), (2, .int (nI d)), (3, .int (nI y))]) E.1.1 E.1.2.1 dX6_layRest_21 hl (by decide) rfl (fun ls hl => ?_)
  have lp23 : ∀ (k : Nat) (u : Nat) (f : Nat → va_E) (H : Heap) (locs : List Loc) (ls : Array Slot), (T x + P x - u < k) → (u ≤ T x + P x) → (cel L f (A 0) (.inr (6, [.int (nI base), .ref (A 1), .ref (A 2), .ref (A 3), .ref (A 4), .int (nI (T x)), .int (nI (P x)), .ref (A 5), .int (nI ns), .ref (A 6), .ref (A 7), .ref (A 8)]))) → (cel L f (A 1) (.inl (cy 0, 84, .inl (fun k => nI (T k))))) → (cel L f (A 2) (.inl (cy 0, 84, .inl (fun k => nI (P k))))) → (cel L f (A 3) (.inl (cy 1, 252, .inr (.inl (rw3 B))))) → (cel L f (A 4) (.inl (cy 2, 4096, .inl (fun k => b2i ((rbx (skD (den (T x) (P x) (B x)) base d) rr u) k))))) → (∀ b ∈ L, b ≠ (A 0) → b ≠ (A 1) → b ≠ (A 2) → b ≠ (A 3) → b ≠ (A 4) → f b = f0 b) → (WW D (AW L sz) s.heap L f H locs) → (lv_has ls 5 [(4, .int (nI u)), (0, .ref (A 0)), (1, .int (nI x)), (2, .int (nI d)), (3, .int (nI y))]) → W p l e R s m args below meth c H locs 0 0 Q (F0 m 23 ls []) := by
    intro k
    induction k with
    | zero => intro _ _ _ _ _ hk; exact absurd hk (Nat.not_lt_zero _)
    | succ k ih23 =>
      intro u f H locs ls hk hu h_o h_ts h_ps h_bs h_rw hF hw hl
      refine lv_iload E.1.1 E.1.2.1 dX6_layRest_23 (lv_at hl 0 rfl) ?_
      refine lv_aload_n E.1.1 E.1.2.1 dX6_layRest_25 rfl (lv_at hl 1 rfl) ?_
      refine k_get (v := .int (nI (T x))) E inlX6 rfl 5 (by decide) w2_237 rfl hw h_o rfl dX6_layRest_26 ?_
      refine lv_aload_n E.1.1 E.1.2.1 dX6_layRest_29 rfl (lv_at hl 1 rfl) ?_
      refine k_get (v := .int (nI (P x))) E inlX6 rfl 6 (by decide) w2_238 rfl hw h_o rfl dX6_layRest_30 ?_
      refine k_add E dX6_layRest_33 ?_
      refine k_ge (tgt := 64) E dX6_layRest_34 (by decide) (by omega) (by omega) (fun c34 => ?_) (fun c34 => ?_)
      · rw [show u = T x + P x by omega] at h_rw
        refine lv_aload_n E.1.1 E.1.2.1 dX6_layRest_64 rfl (lv_at hl 1 rfl) ?_
        refine lv_iload_n E.1.1 E.1.2.1 dX6_layRest_65 rfl (lv_at hl 4 rfl) ?_
        refine k_mi hw (va_runV (As := [.int (nI y)]) (rest := []) E.1 (m_isKept l D cy L f H.size A base (T x) (P x) ns T P B (rbx (skD (den (T x) (P x) (B x)) base d) rr (T x + P x)) G hA hTP y hy hTx.2.1 (by omega) h_o h_ts h_ps h_bs h_rw) ⟨callB_of 1 E.1.2.2.2.2 (gd_own w3_51) rfl rfl rfl (E.1.2.2.2.2 _ w1_10) (E.1.2.2.2.2 _ w3_48) hd_X6_isKept (by rw [hR]; exact ⟨Nat.le_of_ble_eq_true rfl, Nat.le_of_ble_eq_true rfl⟩), E.1.2.2.2.2 _ w3_50, E.1.2.2.2.2 _ ws_26⟩ (pw_preV (q := (RX6, TX6, 12)) E.2 hw h_o rfl) rfl rfl hl.1 rfl (lv_room (Nat.le_of_ble_eq_true rfl)) dX6_layRest_66 (by rw [hR]; exact ⟨Nat.le_of_ble_eq_true rfl, Nat.le_of_ble_eq_true rfl⟩)) (fun r L1 f H locs hp hw => ?_)
        obtain ⟨hL1, hfr, t2, q2, hC2, h_o, hcase⟩ := hp
        have hL1 : L = L1 := hL1
        subst hL1
        rw [hX] at hC2 hcase
        rcases hcase with ⟨_, hno, _⟩ | ⟨rfl, b2, hS2, h_ts, h_ps, h_bs⟩
        · exact absurd ⟨_, _, hC2, rest_fits hb0 hTx.1 hTx.2.1 hTx.2.2 (den_ev (B x) hTx.2.1) hC2⟩ hno
        have h_o : cel L f (A 0) (.inr (6, [.int (nI base), .ref (A 1), .ref (A 2), .ref (A 3), .ref (A 4), .int (nI t2), .int (nI q2), .ref (A 5), .int (nI ns), .ref (A 6), .ref (A 7), .ref (A 8)])) := h_o
        have h_ts : cel L f (A 1) (.inl (cy 0, 84, .inl (fun k => nI ((va_up T y t2) k)))) := h_ts
        have h_ps : cel L f (A 2) (.inl (cy 0, 84, .inl (fun k => nI ((va_up P y q2) k)))) := h_ps
        have h_bs : cel L f (A 3) (.inl (cy 1, 252, .inr (.inl (rw3 (va_up B y b2))))) := h_bs
        have h_rw := h_rw.keep (fun _ h => h) (hfr _ h_rw.1 (Ne.symm n_o_rw) (Ne.symm n_ts_rw) (Ne.symm n_ps_rw) (Ne.symm n_bs_rw))
        have hF : ∀ b ∈ L, b ≠ (A 0) → b ≠ (A 1) → b ≠ (A 2) → b ≠ (A 3) → b ≠ (A 4) → f b = f0 b := fun b hb h0 h1 h2 h3 h4 => (hfr b (hLs b hb) h0 h1 h2 h3).trans (hF b hb h0 h1 h2 h3 h4)
        refine lv_pop E.1.1 E.1.2.1 dX6_layRest_69 rfl ?_
        exact k_mvret E hQ hlk hr hw (Nat.le_of_ble_eq_true rfl) (Nat.le_of_ble_eq_true rfl) (⟨rfl, hF, t2, q2, b2, _, hS2, h_o, h_ts, h_ps, h_bs, h_rw⟩) dX6_layRest_70
      · refine lv_aload_n E.1.1 E.1.2.1 dX6_layRest_37 rfl (lv_at hl 1 rfl) ?_
        refine k_get (v := .ref (A 4)) E inlX6 rfl 4 (by decide) w2_236 rfl hw h_o rfl dX6_layRest_38 ?_
        refine lv_iload E.1.1 E.1.2.1 dX6_layRest_41 (lv_at hl 0 rfl) ?_
        refine lv_aload_n E.1.1 E.1.2.1 dX6_layRest_43 rfl (lv_at hl 1 rfl) ?_
        have hbu := Nat.mul_le_mul hb5 (show u ≤ 180 by omega)
        refine lv_iload_n E.1.1 E.1.2.1 dX6_layRest_44 rfl (lv_at hl 2 rfl) ?_
        refine lv_aload_n E.1.1 E.1.2.1 dX6_layRest_45 rfl (lv_at hl 1 rfl) ?_
        refine k_get (v := .int (nI base)) E inlX6 rfl 0 (by decide) w2_232 rfl hw h_o rfl dX6_layRest_46 ?_
        refine lv_iload E.1.1 E.1.2.1 dX6_layRest_49 (lv_at hl 0 rfl) ?_
        refine k_mul E dX6_layRest_51 ?_
        refine lv_iload_n E.1.1 E.1.2.1 dX6_layRest_52 rfl (lv_at hl 3 rfl) ?_
        refine k_add E dX6_layRest_53 ?_
        refine k_ri (va_runV (As := [.int (nI x), .int (nI ((base * u) + d))]) (rest := [.int (nI u), .ref (A 4)]) E.1 (m_isIn l D cy L f H.size A base (T x) (P x) ns T P B (rbx (skD (den (T x) (P x) (B x)) base d) rr u) G hA hTP x (base * u + d) hx (by omega) h_o h_ts h_ps h_bs) ⟨callB_of 2 E.1.2.2.2.2 (gd_own w3_79) rfl rfl rfl (E.1.2.2.2.2 _ w1_10) (E.1.2.2.2.2 _ w3_76) hd_X6_isIn (by rw [hR]; exact ⟨Nat.le_of_ble_eq_true rfl, Nat.le_of_ble_eq_true rfl⟩), E.1.2.2.2.2 _ w3_78, E.1.2.2.2.2 _ ws_33⟩ (pw_preV (q := (RX6, TX6, 12)) E.2 hw h_o rfl) rfl rfl hl.1 rfl (lv_room (Nat.le_of_ble_eq_true rfl)) dX6_layRest_54 ⟨Nat.zero_le _, Nat.zero_le _⟩) ?_
        refine k_zast E hw (fun k => b2i (rbx (skD (den (T x) (P x) (B x)) base d) rr (u + 1) k)) h_rw (by omega) (by omega) (fun i _ => rbx_s (skD (den (T x) (P x) (B x)) base d) rr u i) dX6_layRest_57 (fun f H locs h_rw hfr hw => ?_)
        have h_o := h_o.kp hfr n_o_rw
        have h_ts := h_ts.kp hfr n_ts_rw
        have h_ps := h_ps.kp hfr n_ps_rw
        have h_bs := h_bs.kp hfr n_bs_rw
        have hF : ∀ b ∈ L, b ≠ (A 0) → b ≠ (A 1) → b ≠ (A 2) → b ≠ (A 3) → b ≠ (A 4) → f b = f0 b := fun b hb h0 h1 h2 h3 h4 => (hfr b h4).trans (hF b hb h0 h1 h2 h3 h4)
        refine lv_iinc (v := nI (u + 1)) (lv' := [(4, .int (nI (u + 1))), (0, .ref (A 0)), (1, .int (nI x)), (2, .int (nI d)), (3, .int (nI y))]) E.1.1 E.1.2.1 dX6_layRest_58 hl (k := 0) rfl (nI_1 _) (by decide) rfl (fun ls hl => ?_)
        refine lv_goto (tgt := 23) E.1.1 E.1.2.1 dX6_layRest_61 (by decide) ?_
        exact ih23  (u + 1) f H locs ls (by omega) (by omega) h_o h_ts h_ps h_bs h_rw hF hw (lv_sub hl [0, 1, 2, 3, 4] rfl)
  exact lp23 (T x + P x - 0 + 1) 0 f H locs ls (Nat.lt_succ_self _) (by omega) h_o h_ts h_ps h_bs h_rw hF hw (lv_sub hl [0, 1, 2, 3, 4] rfl)

set_option maxHeartbeats 4000000 in
set_option maxRecDepth 100000 in
theorem m_layMachine (l : Launch) (D : va_G) (cy : Nat → ClassId) (L : List Nat) (f0 : Nat → va_E) (sz : Nat) (A : Nat → Nat) (base fr pb ns : Nat) (T P : Nat → Nat) (B : Nat → Nat → Bool) (rr : Nat → Bool) (G : Nat → Int32) (hA : MAd A) (hTP : TP T P) (x : Nat) (S : Nat → Bool) (hx : x < 84) (hb0 : 0 < base) (hb5 : base ≤ 5) (hS : SetIs S (T x) (P x) (B x)) (h_o : cel L f0 (A 0) (.inr (6, [.int (nI base), .ref (A 1), .ref (A 2), .ref (A 3), .ref (A 4), .int (nI fr), .int (nI pb), .ref (A 5), .int (nI ns), .ref (A 6), .ref (A 7), .ref (A 8)]))) (h_ts : cel L f0 (A 1) (.inl (cy 0, 84, .inl (fun k => nI (T k))))) (h_ps : cel L f0 (A 2) (.inl (cy 0, 84, .inl (fun k => nI (P k))))) (h_bs : cel L f0 (A 3) (.inl (cy 1, 252, .inr (.inl (rw3 B))))) (h_rw : cel L f0 (A 4) (.inl (cy 2, 4096, .inl (fun k => b2i (rr k))))) (h_gs : cel L f0 (A 5) (.inl (cy 0, 325, .inl G))) : Met l yX6_layMachine (.code yX6_layMachine cX6_layMachine 5 none :: wsL_law) { frames := 4, cells := 0, slots := 0, locals := 91 } (va_Pc [.ref (A 0), .int (nI x)] (PW D cy L f0 sz)) (va_Qv (fun u : List Nat × (Nat → va_E) => L = u.1 ∧ (∀ b ∈ L, b ≠ A 0 → b ≠ A 1 → b ≠ A 2 → b ≠ A 3 → b ≠ A 4 → b ≠ A 5 → u.2 b = f0 b) ∧ ∃ (fr2 pb2 ns2 : Nat) (T2 P2 : Nat → Nat) (B2 : Nat → Nat → Bool) (rr2 : Nat → Bool) (G2 : Nat → Int32), cel L u.2 (A 0) (.inr (6, [.int (nI base), .ref (A 1), .ref (A 2), .ref (A 3), .ref (A 4), .int (nI fr2), .int (nI pb2), .ref (A 5), .int (nI ns2), .ref (A 6), .ref (A 7), .ref (A 8)])) ∧ cel L u.2 (A 1) (.inl (cy 0, 84, .inl (fun k => nI (T2 k)))) ∧ cel L u.2 (A 2) (.inl (cy 0, 84, .inl (fun k => nI (P2 k)))) ∧ cel L u.2 (A 3) (.inl (cy 1, 252, .inr (.inl (rw3 B2)))) ∧ cel L u.2 (A 4) (.inl (cy 2, 4096, .inl (fun k => b2i (rr2 k)))) ∧ cel L u.2 (A 5) (.inl (cy 0, 325, .inl G2)) ∧ TP T2 P2 ∧ AG T P B T2 P2 B2 ∧ SetIs S (T2 18) (P2 18) (B2 18) ∧ 0 < ns2 ∧ ns2 ≤ 65 ∧ ML S base ns2 T2 P2 B2 G2) (PB D (AW L sz)) (AW L sz)) 0 0 (AW L sz) := by
  refine m_start (by decide) (Nat.le_of_ble_eq_true rfl) ?_
  intro p e R Q s m args below meth c ls hsz hR hQ E hr hlk hnm hw hl
  have hl : lv_has ls 5 [(0, .ref (A 0)), (1, .int (nI x))] := hl
  obtain ⟨H, hH⟩ : ∃ X, X = s.heap := ⟨_, rfl⟩
  obtain ⟨locs, hlocs⟩ : ∃ X : List Loc, X = [] := ⟨_, rfl⟩
  have hw0 := hw
  obtain ⟨f, hf0⟩ : ∃ X, X = f0 := ⟨_, rfl⟩
  rw [← hf0] at h_o h_ts h_ps h_bs h_rw h_gs
  have hw : WW D (AW L sz) s.heap L f H locs := by rw [hH, hlocs, hf0]; exact hw
  have hF : ∀ b ∈ L, b ≠ (A 0) → b ≠ (A 1) → b ≠ (A 2) → b ≠ (A 3) → b ≠ (A 4) → b ≠ (A 5) → f b = f0 b := fun b hb h0 h1 h2 h3 h4 h5 => by rw [hf0]
  suffices hgo : W p l e R s m args below meth c H locs 0 0 Q (F0 m 0 ls []) by rw [hH, hlocs] at hgo; exact hgo
  clear hH hlocs hw0 hf0
  have hLs : ∀ b ∈ L, b ∈ L := fun _ h => h
  have n_o_ts : A 0 ≠ A 1 := hA.ne (by decide) (by decide) (by decide)
  have n_o_ps : A 0 ≠ A 2 := hA.ne (by decide) (by decide) (by decide)
  have n_o_bs : A 0 ≠ A 3 := hA.ne (by decide) (by decide) (by decide)
  have n_o_rw : A 0 ≠ A 4 := hA.ne (by decide) (by decide) (by decide)
  have n_o_gs : A 0 ≠ A 5 := hA.ne (by decide) (by decide) (by decide)
  have n_ts_ps : A 1 ≠ A 2 := hA.ne (by decide) (by decide) (by decide)
  have n_ts_bs : A 1 ≠ A 3 := hA.ne (by decide) (by decide) (by decide)
  have n_ts_rw : A 1 ≠ A 4 := hA.ne (by decide) (by decide) (by decide)
  have n_ts_gs : A 1 ≠ A 5 := hA.ne (by decide) (by decide) (by decide)
  have n_ps_bs : A 2 ≠ A 3 := hA.ne (by decide) (by decide) (by decide)
  have n_ps_rw : A 2 ≠ A 4 := hA.ne (by decide) (by decide) (by decide)
  have n_ps_gs : A 2 ≠ A 5 := hA.ne (by decide) (by decide) (by decide)
  have n_bs_rw : A 3 ≠ A 4 := hA.ne (by decide) (by decide) (by decide)
  have n_bs_gs : A 3 ≠ A 5 := hA.ne (by decide) (by decide) (by decide)
  have n_rw_gs : A 4 ≠ A 5 := hA.ne (by decide) (by decide) (by decide)
  have hTx := hTP x hx
  refine lv_aload_n E.1.1 E.1.2.1 dX6_layMachine_0 rfl (lv_at hl 0 rfl) ?_
  refine lv_iload_n E.1.1 E.1.2.1 dX6_layMachine_1 rfl (lv_at hl 1 rfl) ?_
  refine lv_bipush (v := nI 18) E.1.1 E.1.2.1 dX6_layMachine_2 rfl ?_
  refine k_mv hw (va_runV (As := [.int (nI x), .int (nI 18)]) (rest := []) E.1 (m_copy l D cy L f H.size A base fr pb ns T P B rr G hA hTP x 18 hx (by decide) h_o h_ts h_ps h_bs) ⟨callB_of 2 E.1.2.2.2.2 (gd_own w3_67) rfl rfl rfl (E.1.2.2.2.2 _ w1_10) (E.1.2.2.2.2 _ w3_64) hd_X6_copy (by rw [hR]; exact ⟨Nat.le_of_ble_eq_true rfl, Nat.le_of_ble_eq_true rfl⟩), E.1.2.2.2.2 _ w3_66, E.1.2.2.2.2 _ ws_30⟩ (pw_preV (q := (RX6, TX6, 12)) E.2 hw h_o rfl) rfl rfl hl.1 rfl (lv_room (Nat.le_of_ble_eq_true rfl)) dX6_layMachine_4 (by rw [hR]; exact ⟨Nat.le_of_ble_eq_true rfl, Nat.le_of_ble_eq_true rfl⟩)) (fun L1 f H locs hp hw => ?_)
  obtain ⟨hL1, hfr, h_ts, h_ps, h_bs⟩ := hp
  have hL1 : L = L1 := hL1
  subst hL1
  have h_ts : cel L f (A 1) (.inl (cy 0, 84, .inl (fun k => nI ((va_up T 18 (T x)) k)))) := h_ts
  have h_ps : cel L f (A 2) (.inl (cy 0, 84, .inl (fun k => nI ((va_up P 18 (P x)) k)))) := h_ps
  have h_bs : cel L f (A 3) (.inl (cy 1, 252, .inr (.inl (rw3 (va_up B 18 (B x)))))) := h_bs
  have h_o := h_o.keep (fun _ h => h) (hfr _ h_o.1 n_o_ts n_o_ps n_o_bs)
  have h_rw := h_rw.keep (fun _ h => h) (hfr _ h_rw.1 (Ne.symm n_ts_rw) (Ne.symm n_ps_rw) (Ne.symm n_bs_rw))
  have h_gs := h_gs.keep (fun _ h => h) (hfr _ h_gs.1 (Ne.symm n_ts_gs) (Ne.symm n_ps_gs) (Ne.symm n_bs_gs))
  have hF : ∀ b ∈ L, b ≠ (A 0) → b ≠ (A 1) → b ≠ (A 2) → b ≠ (A 3) → b ≠ (A 4) → b ≠ (A 5) → f b = f0 b := fun b hb h0 h1 h2 h3 h4 h5 => (hfr b (hLs b hb) h1 h2 h3).trans (hF b hb h0 h1 h2 h3 h4 h5)
  refine lv_aload_n E.1.1 E.1.2.1 dX6_layMachine_7 rfl (lv_at hl 0 rfl) ?_
  refine lv_iconst (v := nI 1) E.1.1 E.1.2.1 dX6_layMachine_8 rfl ?_
  refine k_put (ty0 := tyX6) E inlX6 rfl tyX6_ok nmX6 8 (by decide) w3_0 rfl rfl hw [.int (nI base), .ref (A 1), .ref (A 2), .ref (A 3), .ref (A 4), .int (nI fr), .int (nI pb), .ref (A 5), .int (nI 1), .ref (A 6), .ref (A 7), .ref (A 8)] h_o (rfl) (rfl) (Nat.le_of_ble_eq_true rfl) rfl dX6_layMachine_9 (fun f H locs h_o hfr hw => ?_)
  have h_ts := h_ts.kp hfr (Ne.symm n_o_ts)
  have h_ps := h_ps.kp hfr (Ne.symm n_o_ps)
  have h_bs := h_bs.kp hfr (Ne.symm n_o_bs)
  have h_rw := h_rw.kp hfr (Ne.symm n_o_rw)
  have h_gs := h_gs.kp hfr (Ne.symm n_o_gs)
  have hF : ∀ b ∈ L, b ≠ (A 0) → b ≠ (A 1) → b ≠ (A 2) → b ≠ (A 3) → b ≠ (A 4) → b ≠ (A 5) → f b = f0 b := fun b hb h0 h1 h2 h3 h4 h5 => (hfr b h0).trans (hF b hb h0 h1 h2 h3 h4 h5)
  refine lv_iconst (v := nI 0) E.1.1 E.1.2.1 dX6_layMachine_12 rfl ?_
  refine lv_istore_n (lv' := [(2, .int (nI 0)), (0, .ref (A 0)), (1, .int (nI x))]) E.1.1 E.1.2.1 dX6_layMachine_13 rfl hl (by decide) rfl (fun ls hl => ?_)
  have lp14 : ∀ (k : Nat) (i : Nat) (fr1 : Nat) (pb1 : Nat) (nf : Nat) (T1 : Nat → Nat) (P1 : Nat → Nat) (B1 : Nat → Nat → Bool) (rr1 : Nat → Bool) (G1 : Nat → Int32) (f : Nat → va_E) (H : Heap) (locs : List Loc) (ls : Array Slot), (66 - i < k) → (i ≤ nf) → (0 < nf) → (nf ≤ 65) → (TP T1 P1) → (AG T P B T1 P1 B1) → (SetIs S (T1 18) (P1 18) (B1 18)) → (MO S base i 0 nf T1 P1 B1 G1) → (cel L f (A 0) (.inr (6, [.int (nI base), .ref (A 1), .ref (A 2), .ref (A 3), .ref (A 4), .int (nI fr1), .int (nI pb1), .ref (A 5), .int (nI nf), .ref (A 6), .ref (A 7), .ref (A 8)]))) → (cel L f (A 1) (.inl (cy 0, 84, .inl (fun k => nI (T1 k))))) → (cel L f (A 2) (.inl (cy 0, 84, .inl (fun k => nI (P1 k))))) → (cel L f (A 3) (.inl (cy 1, 252, .inr (.inl (rw3 B1))))) → (cel L f (A 4) (.inl (cy 2, 4096, .inl (fun k => b2i (rr1 k))))) → (cel L f (A 5) (.inl (cy 0, 325, .inl G1))) → (∀ b ∈ L, b ≠ (A 0) → b ≠ (A 1) → b ≠ (A 2) → b ≠ (A 3) → b ≠ (A 4) → b ≠ (A 5) → f b = f0 b) → (WW D (AW L sz) s.heap L f H locs) → (lv_has ls 5 [(2, .int (nI i)), (0, .ref (A 0)), (1, .int (nI x))]) → W p l e R s m args below meth c H locs 0 0 Q (F0 m 14 ls []) := by
    intro k
    induction k with
    | zero => intro _ _ _ _ _ _ _ _ _ _ _ _ _ hk; exact absurd hk (Nat.not_lt_zero _)
    | succ k ih14 =>
      intro i fr1 pb1 nf T1 P1 B1 rr1 G1 f H locs ls hk hi hnf0 hnf hTP1 hAG hS18 hMO h_o h_ts h_ps h_bs h_rw h_gs hF hw hl
      refine lv_iload_n E.1.1 E.1.2.1 dX6_layMachine_14 rfl (lv_at hl 0 rfl) ?_
      refine lv_aload_n E.1.1 E.1.2.1 dX6_layMachine_15 rfl (lv_at hl 1 rfl) ?_
      refine k_get (v := .int (nI nf)) E inlX6 rfl 8 (by decide) w3_0 rfl hw h_o rfl dX6_layMachine_16 ?_
      refine k_ge (tgt := 149) E dX6_layMachine_19 (by decide) (by omega) (by omega) (fun c19 => ?_) (fun c19 => ?_)
      · exact k_mvret E hQ hlk hr hw (Nat.le_of_ble_eq_true rfl) (Nat.le_of_ble_eq_true rfl) (⟨rfl, hF, fr1, pb1, nf, T1, P1, B1, rr1, G1, h_o, h_ts, h_ps, h_bs, h_rw, h_gs, hTP1, hAG, hS18, hnf0, hnf, hMO.fin hi (by omega)⟩) dX6_layMachine_149
      · refine lv_aload_n E.1.1 E.1.2.1 dX6_layMachine_22 rfl (lv_at hl 1 rfl) ?_
        refine k_get (v := .int (nI nf)) E inlX6 rfl 8 (by decide) w3_0 rfl hw h_o rfl dX6_layMachine_23 ?_
        refine lv_bipush (v := nI 64) E.1.1 E.1.2.1 dX6_layMachine_26 rfl ?_
        refine k_gt (tgt := 149) E dX6_layMachine_28 (by decide) (by omega) (by omega) (fun c28 => ?_) (fun c28 => ?_)
        · exact k_mvret E hQ hlk hr hw (Nat.le_of_ble_eq_true rfl) (Nat.le_of_ble_eq_true rfl) (⟨rfl, hF, fr1, pb1, nf, T1, P1, B1, rr1, G1, h_o, h_ts, h_ps, h_bs, h_rw, h_gs, hTP1, hAG, hS18, hnf0, hnf, hMO.fin hi (by omega)⟩) dX6_layMachine_149
        · refine lv_iconst (v := nI 0) E.1.1 E.1.2.1 dX6_layMachine_31 rfl ?_
          refine lv_istore_n (lv' := [(3, .int (nI 0)), (2, .int (nI i)), (0, .ref (A 0)), (1, .int (nI x))]) E.1.1 E.1.2.1 dX6_layMachine_32 rfl hl (by decide) rfl (fun ls hl => ?_)
          have lp33 : ∀ (k : Nat) (d : Nat) (fr1 : Nat) (pb1 : Nat) (nf : Nat) (T1 : Nat → Nat) (P1 : Nat → Nat) (B1 : Nat → Nat → Bool) (rr1 : Nat → Bool) (G1 : Nat → Int32) (f : Nat → va_E) (H : Heap) (locs : List Loc) (ls : Array Slot), (base - d < k) → (d ≤ base) → (i < nf) → (i < 65) → (0 < nf) → (nf ≤ 65) → (TP T1 P1) → (AG T P B T1 P1 B1) → (SetIs S (T1 18) (P1 18) (B1 18)) → (MO S base i d nf T1 P1 B1 G1) → (cel L f (A 0) (.inr (6, [.int (nI base), .ref (A 1), .ref (A 2), .ref (A 3), .ref (A 4), .int (nI fr1), .int (nI pb1), .ref (A 5), .int (nI nf), .ref (A 6), .ref (A 7), .ref (A 8)]))) → (cel L f (A 1) (.inl (cy 0, 84, .inl (fun k => nI (T1 k))))) → (cel L f (A 2) (.inl (cy 0, 84, .inl (fun k => nI (P1 k))))) → (cel L f (A 3) (.inl (cy 1, 252, .inr (.inl (rw3 B1))))) → (cel L f (A 4) (.inl (cy 2, 4096, .inl (fun k => b2i (rr1 k))))) → (cel L f (A 5) (.inl (cy 0, 325, .inl G1))) → (∀ b ∈ L, b ≠ (A 0) → b ≠ (A 1) → b ≠ (A 2) → b ≠ (A 3) → b ≠ (A 4) → b ≠ (A 5) → f b = f0 b) → (WW D (AW L sz) s.heap L f H locs) → (lv_has ls 5 [(3, .int (nI d)), (2, .int (nI i)), (0, .ref (A 0)), (1, .int (nI x))]) → W p l e R s m args below meth c H locs 0 0 Q (F0 m 33 ls []) := by
            intro k
            induction k with
            | zero => intro _ _ _ _ _ _ _ _ _ _ _ _ _ hk; exact absurd hk (Nat.not_lt_zero _)
            | succ k ih33 =>
              intro d fr1 pb1 nf T1 P1 B1 rr1 G1 f H locs ls hk hd hi2 hi3 hnf0 hnf hTP1 hAG hS18 hMO h_o h_ts h_ps h_bs h_rw h_gs hF hw hl
              refine lv_iload_n E.1.1 E.1.2.1 dX6_layMachine_33 rfl (lv_at hl 0 rfl) ?_
              refine lv_aload_n E.1.1 E.1.2.1 dX6_layMachine_34 rfl (lv_at hl 2 rfl) ?_
              refine k_get (v := .int (nI base)) E inlX6 rfl 0 (by decide) w2_232 rfl hw h_o rfl dX6_layMachine_35 ?_
              refine k_ge (tgt := 143) E dX6_layMachine_38 (by decide) (by omega) (by omega) (fun c38 => ?_) (fun c38 => ?_)
              · refine lv_iinc (v := nI (i + 1)) (lv' := [(2, .int (nI (i + 1))), (3, .int (nI d)), (0, .ref (A 0)), (1, .int (nI x))]) E.1.1 E.1.2.1 dX6_layMachine_143 hl (k := 1) rfl (nI_1 _) (by decide) rfl (fun ls hl => ?_)
                refine lv_goto (tgt := 14) E.1.1 E.1.2.1 dX6_layMachine_146 (by decide) ?_
                exact ih14  (i + 1) fr1 pb1 nf T1 P1 B1 rr1 G1 f H locs ls (by omega) (by omega) (by omega) (by omega) (hTP1) (hAG) (hS18) (hMO.next (by omega)) h_o h_ts h_ps h_bs h_rw h_gs hF hw (lv_sub hl [0, 2, 3] rfl)
              · refine lv_aload_n E.1.1 E.1.2.1 dX6_layMachine_41 rfl (lv_at hl 2 rfl) ?_
                refine k_get (v := .int (nI nf)) E inlX6 rfl 8 (by decide) w3_0 rfl hw h_o rfl dX6_layMachine_42 ?_
                refine lv_bipush (v := nI 64) E.1.1 E.1.2.1 dX6_layMachine_45 rfl ?_
                refine k_gt (tgt := 143) E dX6_layMachine_47 (by decide) (by omega) (by omega) (fun c47 => ?_) (fun c47 => ?_)
                · refine lv_iinc (v := nI (i + 1)) (lv' := [(2, .int (nI (i + 1))), (3, .int (nI d)), (0, .ref (A 0)), (1, .int (nI x))]) E.1.1 E.1.2.1 dX6_layMachine_143 hl (k := 1) rfl (nI_1 _) (by decide) rfl (fun ls hl => ?_)
                  refine lv_goto (tgt := 14) E.1.1 E.1.2.1 dX6_layMachine_146 (by decide) ?_
                  exact ih14  (i + 1) fr1 pb1 nf T1 P1 B1 rr1 G1 f H locs ls (by omega) (by omega) (by omega) (by omega) (hTP1) (hAG) (hS18) (hMO.next (by omega)) h_o h_ts h_ps h_bs h_rw h_gs hF hw (lv_sub hl [0, 2, 3] rfl)
                · refine lv_aload_n E.1.1 E.1.2.1 dX6_layMachine_50 rfl (lv_at hl 2 rfl) ?_
                  refine lv_bipush (v := nI 18) E.1.1 E.1.2.1 dX6_layMachine_51 rfl ?_
                  refine lv_iload_n E.1.1 E.1.2.1 dX6_layMachine_53 rfl (lv_at hl 1 rfl) ?_
                  refine k_add E dX6_layMachine_54 ?_
                  refine lv_iload_n E.1.1 E.1.2.1 dX6_layMachine_55 rfl (lv_at hl 0 rfl) ?_
                  refine lv_bipush (v := nI 83) E.1.1 E.1.2.1 dX6_layMachine_56 rfl ?_
                  refine k_mv hw (va_runV (As := [.int (nI (18 + i)), .int (nI d), .int (nI 83)]) (rest := []) E.1 (m_layRest l D cy L f H.size A base fr1 pb1 nf T1 P1 B1 rr1 G1 hA hTP1 (18 + i) d 83 (by omega) (by decide) hb0 hb5 (by omega) h_o h_ts h_ps h_bs h_rw) ⟨callB_of 3 E.1.2.2.2.2 (gd_own w3_75) rfl rfl rfl (E.1.2.2.2.2 _ w1_10) (E.1.2.2.2.2 _ w3_72) hd_X6_layRest (by rw [hR]; exact ⟨Nat.le_of_ble_eq_true rfl, Nat.le_of_ble_eq_true rfl⟩), E.1.2.2.2.2 _ w3_74, E.1.2.2.2.2 _ ws_32⟩ (pw_preV (q := (RX6, TX6, 12)) E.2 hw h_o rfl) rfl rfl hl.1 rfl (lv_room (Nat.le_of_ble_eq_true rfl)) dX6_layMachine_58 (by rw [hR]; exact ⟨Nat.le_of_ble_eq_true rfl, Nat.le_of_ble_eq_true rfl⟩)) (fun L1 f H locs hp hw => ?_)
                  obtain ⟨hL1, hfr, t2, q2, b2, rr2, hS2, h_o, h_ts, h_ps, h_bs, h_rw⟩ := hp
                  have hL1 : L = L1 := hL1
                  subst hL1
                  have h_o : cel L f (A 0) (.inr (6, [.int (nI base), .ref (A 1), .ref (A 2), .ref (A 3), .ref (A 4), .int (nI t2), .int (nI q2), .ref (A 5), .int (nI nf), .ref (A 6), .ref (A 7), .ref (A 8)])) := h_o
                  have h_ts : cel L f (A 1) (.inl (cy 0, 84, .inl (fun k => nI ((va_up T1 83 t2) k)))) := h_ts
                  have h_ps : cel L f (A 2) (.inl (cy 0, 84, .inl (fun k => nI ((va_up P1 83 q2) k)))) := h_ps
                  have h_bs : cel L f (A 3) (.inl (cy 1, 252, .inr (.inl (rw3 (va_up B1 83 b2))))) := h_bs
                  have h_rw : cel L f (A 4) (.inl (cy 2, 4096, .inl (fun k => b2i (rr2 k)))) := h_rw
                  have h_gs := h_gs.keep (fun _ h => h) (hfr _ h_gs.1 (Ne.symm n_o_gs) (Ne.symm n_ts_gs) (Ne.symm n_ps_gs) (Ne.symm n_bs_gs) (Ne.symm n_rw_gs))
                  have hF : ∀ b ∈ L, b ≠ (A 0) → b ≠ (A 1) → b ≠ (A 2) → b ≠ (A 3) → b ≠ (A 4) → b ≠ (A 5) → f b = f0 b := fun b hb h0 h1 h2 h3 h4 h5 => (hfr b (hLs b hb) h0 h1 h2 h3 h4).trans (hF b hb h0 h1 h2 h3 h4 h5)
                  have hTP2 : TP (va_up T1 83 t2) (va_up P1 83 q2) := hTP1.up hS2.2.2.1 hS2.1.1 hS2.2.1
                  have hMI : MI S base (i * base + d) nf T1 P1 B1 G1 := by
                    rcases hMO with h | h
                    · exact h
                    · omega
                  have hden : den (T1 (18 + i)) (P1 (18 + i)) (B1 (18 + i)) = (trn S base (i * base + d)).2.1 i := funext (fun n => ((hMI.2.1 i (by omega)).den n).symm)
                  rw [hden] at hS2
                  refine lv_iconst (v := nI 0) E.1.1 E.1.2.1 dX6_layMachine_61 rfl ?_
                  refine lv_istore (lv' := [(4, .int (nI 0)), (3, .int (nI d)), (2, .int (nI i)), (0, .ref (A 0)), (1, .int (nI x))]) E.1.1 E.1.2.1 dX6_layMachine_62 hl (by decide) rfl (fun ls hl => ?_)
                  have lp64 : ∀ (k : Nat) (j : Nat) (f : Nat → va_E) (H : Heap) (locs : List Loc) (ls : Array Slot), (nf - j < k) → (j ≤ nf) → (∀ y, y < j → ¬ ((va_up T1 83 t2) (18 + y) = (va_up T1 83 t2) 83 ∧ (va_up P1 83 q2) (18 + y) = (va_up P1 83 q2) 83 ∧ SameR ((va_up B1 83 b2) (18 + y)) ((va_up B1 83 b2) 83))) → (cel L f (A 0) (.inr (6, [.int (nI base), .ref (A 1), .ref (A 2), .ref (A 3), .ref (A 4), .int (nI t2), .int (nI q2), .ref (A 5), .int (nI nf), .ref (A 6), .ref (A 7), .ref (A 8)]))) → (cel L f (A 1) (.inl (cy 0, 84, .inl (fun k => nI ((va_up T1 83 t2) k))))) → (cel L f (A 2) (.inl (cy 0, 84, .inl (fun k => nI ((va_up P1 83 q2) k))))) → (cel L f (A 3) (.inl (cy 1, 252, .inr (.inl (rw3 (va_up B1 83 b2)))))) → (cel L f (A 4) (.inl (cy 2, 4096, .inl (fun k => b2i (rr2 k))))) → (cel L f (A 5) (.inl (cy 0, 325, .inl G1))) → (∀ b ∈ L, b ≠ (A 0) → b ≠ (A 1) → b ≠ (A 2) → b ≠ (A 3) → b ≠ (A 4) → b ≠ (A 5) → f b = f0 b) → (WW D (AW L sz) s.heap L f H locs) → (lv_has ls 5 [(4, .int (nI j)), (3, .int (nI d)), (2, .int (nI i)), (0, .ref (A 0)), (1, .int (nI x))]) → W p l e R s m args below meth c H locs 0 0 Q (F0 m 64 ls []) := by
                    intro k
                    induction k with
                    | zero => intro _ _ _ _ _ hk; exact absurd hk (Nat.not_lt_zero _)
                    | succ k ih64 =>
                      intro j f H locs ls hk hj hg h_o h_ts h_ps h_bs h_rw h_gs hF hw hl
                      refine lv_iload E.1.1 E.1.2.1 dX6_layMachine_64 (lv_at hl 0 rfl) ?_
                      refine lv_aload_n E.1.1 E.1.2.1 dX6_layMachine_66 rfl (lv_at hl 3 rfl) ?_
                      refine k_get (v := .int (nI nf)) E inlX6 rfl 8 (by decide) w3_0 rfl hw h_o rfl dX6_layMachine_67 ?_
                      refine k_ge (tgt := 93) E dX6_layMachine_70 (by decide) (by omega) (by omega) (fun c70 => ?_) (fun c70 => ?_)
                      · refine lv_iload E.1.1 E.1.2.1 dX6_layMachine_93 (lv_at hl 0 rfl) ?_
                        refine lv_aload_n E.1.1 E.1.2.1 dX6_layMachine_95 rfl (lv_at hl 3 rfl) ?_
                        refine k_get (v := .int (nI nf)) E inlX6 rfl 8 (by decide) w3_0 rfl hw h_o rfl dX6_layMachine_96 ?_
                        refine k_ne (tgt := 125) E dX6_layMachine_99 (by decide) (by omega) (by omega) (fun c99 => ?_) (fun c99 => ?_)
                        · refine lv_aload_n E.1.1 E.1.2.1 dX6_layMachine_125 rfl (lv_at hl 3 rfl) ?_
                          refine k_get (v := .ref (A 5)) E inlX6 rfl 7 (by decide) w2_239 rfl hw h_o rfl dX6_layMachine_126 ?_
                          refine lv_iconst (v := nI 5) E.1.1 E.1.2.1 dX6_layMachine_129 rfl ?_
                          refine lv_iload_n E.1.1 E.1.2.1 dX6_layMachine_130 rfl (lv_at hl 2 rfl) ?_
                          refine k_mul E dX6_layMachine_131 ?_
                          refine lv_iload_n E.1.1 E.1.2.1 dX6_layMachine_132 rfl (lv_at hl 1 rfl) ?_
                          refine k_add E dX6_layMachine_133 ?_
                          refine lv_iload E.1.1 E.1.2.1 dX6_layMachine_134 (lv_at hl 0 rfl) ?_
                          refine k_iast E hw (fun k => if k = 5 * i + d then nI j else G1 k) h_gs (by omega) (by omega) (fun _ _ => rfl) dX6_layMachine_136 (fun f H locs h_gs hfr hw => ?_)
                          have h_o := h_o.kp hfr n_o_gs
                          have h_ts := h_ts.kp hfr n_ts_gs
                          have h_ps := h_ps.kp hfr n_ps_gs
                          have h_bs := h_bs.kp hfr n_bs_gs
                          have h_rw := h_rw.kp hfr n_rw_gs
                          have hF : ∀ b ∈ L, b ≠ (A 0) → b ≠ (A 1) → b ≠ (A 2) → b ≠ (A 3) → b ≠ (A 4) → b ≠ (A 5) → f b = f0 b := fun b hb h0 h1 h2 h3 h4 h5 => (hfr b h5).trans (hF b hb h0 h1 h2 h3 h4 h5)
                          refine lv_iinc (v := nI (d + 1)) (lv' := [(3, .int (nI (d + 1))), (4, .int (nI j)), (2, .int (nI i)), (0, .ref (A 0)), (1, .int (nI x))]) E.1.1 E.1.2.1 dX6_layMachine_137 hl (k := 1) rfl (nI_1 _) (by decide) rfl (fun ls hl => ?_)
                          refine lv_goto (tgt := 33) E.1.1 E.1.2.1 dX6_layMachine_140 (by decide) ?_
                          have hMO3 : MO S base i (d + 1) nf (va_up T1 83 t2) (va_up P1 83 q2) (va_up B1 83 b2) (fun k => if k = 5 * i + d then nI j else G1 k) := Or.inl (MI_step (i := i) (d := d) (j := j) hb0 hb5 hMI (ix1 (by omega)) (ix2 (by omega)) (by omega) (by omega) (by omega) hS2 (fun y hy h9 => hg y hy (by rw [va_up_self, va_up_self, va_up_self, va_up_ne _ _ (by omega), va_up_ne _ _ (by omega), va_up_ne _ _ (by omega)]; exact h9)) (Or.inl (by omega)) (fun y hy => ⟨by rw [va_up_ne _ _ (by omega)], by rw [va_up_ne _ _ (by omega)], by rw [va_up_ne _ _ (by omega)]⟩) (fun e => absurd e c99) (by omega) rfl (ix3 (by omega) (by omega)))
                          have hTP3 : TP (va_up T1 83 t2) (va_up P1 83 q2) := hTP2
                          have hAG3 : AG T P B (va_up T1 83 t2) (va_up P1 83 q2) (va_up B1 83 b2) := hAG.up (by decide) _ _ _
                          have hS183 : SetIs S ((va_up T1 83 t2) 18) ((va_up P1 83 q2) 18) ((va_up B1 83 b2) 18) := by
                                rw [va_up_ne _ _ (by omega), va_up_ne _ _ (by omega), va_up_ne _ _ (by omega)]
                                exact hS18
                          exact ih33  (d + 1) t2 q2 nf (va_up T1 83 t2) (va_up P1 83 q2) (va_up B1 83 b2) rr2 (fun k => if k = 5 * i + d then nI j else G1 k) f H locs ls (by omega) (by omega) (by omega) (by omega) (by omega) (by omega) (hTP3) (hAG3) (hS183) (hMO3) h_o h_ts h_ps h_bs h_rw h_gs hF hw (lv_sub hl [0, 2, 3, 4] rfl)
                        · refine lv_aload_n E.1.1 E.1.2.1 dX6_layMachine_102 rfl (lv_at hl 3 rfl) ?_
                          refine lv_bipush (v := nI 83) E.1.1 E.1.2.1 dX6_layMachine_103 rfl ?_
                          refine lv_bipush (v := nI 18) E.1.1 E.1.2.1 dX6_layMachine_105 rfl ?_
                          refine lv_aload_n E.1.1 E.1.2.1 dX6_layMachine_107 rfl (lv_at hl 3 rfl) ?_
                          refine k_get (v := .int (nI nf)) E inlX6 rfl 8 (by decide) w3_0 rfl hw h_o rfl dX6_layMachine_108 ?_
                          refine k_add E dX6_layMachine_111 ?_
                          refine k_mv hw (va_runV (As := [.int (nI 83), .int (nI (18 + nf))]) (rest := []) E.1 (m_copy l D cy L f H.size A base t2 q2 nf (va_up T1 83 t2) (va_up P1 83 q2) (va_up B1 83 b2) rr2 G1 hA hTP2 83 (18 + nf) (by decide) (by omega) h_o h_ts h_ps h_bs) ⟨callB_of 2 E.1.2.2.2.2 (gd_own w3_67) rfl rfl rfl (E.1.2.2.2.2 _ w1_10) (E.1.2.2.2.2 _ w3_64) hd_X6_copy (by rw [hR]; exact ⟨Nat.le_of_ble_eq_true rfl, Nat.le_of_ble_eq_true rfl⟩), E.1.2.2.2.2 _ w3_66, E.1.2.2.2.2 _ ws_30⟩ (pw_preV (q := (RX6, TX6, 12)) E.2 hw h_o rfl) rfl rfl hl.1 rfl (lv_room (Nat.le_of_ble_eq_true rfl)) dX6_layMachine_112 (by rw [hR]; exact ⟨Nat.le_of_ble_eq_true rfl, Nat.le_of_ble_eq_true rfl⟩)) (fun L1 f H locs hp hw => ?_)
                          obtain ⟨hL1, hfr, h_ts, h_ps, h_bs⟩ := hp
                          have hL1 : L = L1 := hL1
                          subst hL1
                          have h_ts : cel L f (A 1) (.inl (cy 0, 84, .inl (fun k => nI ((va_up (va_up T1 83 t2) (18 + nf) ((va_up T1 83 t2) 83)) k)))) := h_ts
                          have h_ps : cel L f (A 2) (.inl (cy 0, 84, .inl (fun k => nI ((va_up (va_up P1 83 q2) (18 + nf) ((va_up P1 83 q2) 83)) k)))) := h_ps
                          have h_bs : cel L f (A 3) (.inl (cy 1, 252, .inr (.inl (rw3 (va_up (va_up B1 83 b2) (18 + nf) ((va_up B1 83 b2) 83)))))) := h_bs
                          have h_o := h_o.keep (fun _ h => h) (hfr _ h_o.1 n_o_ts n_o_ps n_o_bs)
                          have h_rw := h_rw.keep (fun _ h => h) (hfr _ h_rw.1 (Ne.symm n_ts_rw) (Ne.symm n_ps_rw) (Ne.symm n_bs_rw))
                          have h_gs := h_gs.keep (fun _ h => h) (hfr _ h_gs.1 (Ne.symm n_ts_gs) (Ne.symm n_ps_gs) (Ne.symm n_bs_gs))
                          have hF : ∀ b ∈ L, b ≠ (A 0) → b ≠ (A 1) → b ≠ (A 2) → b ≠ (A 3) → b ≠ (A 4) → b ≠ (A 5) → f b = f0 b := fun b hb h0 h1 h2 h3 h4 h5 => (hfr b (hLs b hb) h1 h2 h3).trans (hF b hb h0 h1 h2 h3 h4 h5)
                          refine lv_aload_n E.1.1 E.1.2.1 dX6_layMachine_115 rfl (lv_at hl 3 rfl) ?_
                          refine lv_dup E.1.1 E.1.2.1 dX6_layMachine_116 rfl ?_
                          refine k_get (v := .int (nI nf)) E inlX6 rfl 8 (by decide) w3_0 rfl hw h_o rfl dX6_layMachine_117 ?_
                          refine lv_iconst (v := nI 1) E.1.1 E.1.2.1 dX6_layMachine_120 rfl ?_
                          refine k_add E dX6_layMachine_121 ?_
                          refine k_put (ty0 := tyX6) E inlX6 rfl tyX6_ok nmX6 8 (by decide) w3_0 rfl rfl hw [.int (nI base), .ref (A 1), .ref (A 2), .ref (A 3), .ref (A 4), .int (nI t2), .int (nI q2), .ref (A 5), .int (nI (nf + 1)), .ref (A 6), .ref (A 7), .ref (A 8)] h_o (rfl) (rfl) (Nat.le_of_ble_eq_true rfl) rfl dX6_layMachine_122 (fun f H locs h_o hfr hw => ?_)
                          have h_ts := h_ts.kp hfr (Ne.symm n_o_ts)
                          have h_ps := h_ps.kp hfr (Ne.symm n_o_ps)
                          have h_bs := h_bs.kp hfr (Ne.symm n_o_bs)
                          have h_rw := h_rw.kp hfr (Ne.symm n_o_rw)
                          have h_gs := h_gs.kp hfr (Ne.symm n_o_gs)
                          have hF : ∀ b ∈ L, b ≠ (A 0) → b ≠ (A 1) → b ≠ (A 2) → b ≠ (A 3) → b ≠ (A 4) → b ≠ (A 5) → f b = f0 b := fun b hb h0 h1 h2 h3 h4 h5 => (hfr b h0).trans (hF b hb h0 h1 h2 h3 h4 h5)
                          refine lv_aload_n E.1.1 E.1.2.1 dX6_layMachine_125 rfl (lv_at hl 3 rfl) ?_
                          refine k_get (v := .ref (A 5)) E inlX6 rfl 7 (by decide) w2_239 rfl hw h_o rfl dX6_layMachine_126 ?_
                          refine lv_iconst (v := nI 5) E.1.1 E.1.2.1 dX6_layMachine_129 rfl ?_
                          refine lv_iload_n E.1.1 E.1.2.1 dX6_layMachine_130 rfl (lv_at hl 2 rfl) ?_
                          refine k_mul E dX6_layMachine_131 ?_
                          refine lv_iload_n E.1.1 E.1.2.1 dX6_layMachine_132 rfl (lv_at hl 1 rfl) ?_
                          refine k_add E dX6_layMachine_133 ?_
                          refine lv_iload E.1.1 E.1.2.1 dX6_layMachine_134 (lv_at hl 0 rfl) ?_
                          refine k_iast E hw (fun k => if k = 5 * i + d then nI j else G1 k) h_gs (by omega) (by omega) (fun _ _ => rfl) dX6_layMachine_136 (fun f H locs h_gs hfr hw => ?_)
                          have h_o := h_o.kp hfr n_o_gs
                          have h_ts := h_ts.kp hfr n_ts_gs
                          have h_ps := h_ps.kp hfr n_ps_gs
                          have h_bs := h_bs.kp hfr n_bs_gs
                          have h_rw := h_rw.kp hfr n_rw_gs
                          have hF : ∀ b ∈ L, b ≠ (A 0) → b ≠ (A 1) → b ≠ (A 2) → b ≠ (A 3) → b ≠ (A 4) → b ≠ (A 5) → f b = f0 b := fun b hb h0 h1 h2 h3 h4 h5 => (hfr b h5).trans (hF b hb h0 h1 h2 h3 h4 h5)
                          refine lv_iinc (v := nI (d + 1)) (lv' := [(3, .int (nI (d + 1))), (4, .int (nI j)), (2, .int (nI i)), (0, .ref (A 0)), (1, .int (nI x))]) E.1.1 E.1.2.1 dX6_layMachine_137 hl (k := 1) rfl (nI_1 _) (by decide) rfl (fun ls hl => ?_)
                          refine lv_goto (tgt := 33) E.1.1 E.1.2.1 dX6_layMachine_140 (by decide) ?_
                          have hMO3 : MO S base i (d + 1) (nf + 1) (va_up (va_up T1 83 t2) (18 + nf) ((va_up T1 83 t2) 83)) (va_up (va_up P1 83 q2) (18 + nf) ((va_up P1 83 q2) 83)) (va_up (va_up B1 83 b2) (18 + nf) ((va_up B1 83 b2) 83)) (fun k => if k = 5 * i + d then nI j else G1 k) := Or.inl (MI_step (i := i) (d := d) (j := j) hb0 hb5 hMI (ix1 (by omega)) (ix2 (by omega)) (by omega) (by omega) (by omega) hS2 (fun y hy h9 => hg y hy (by rw [va_up_self, va_up_self, va_up_self, va_up_ne _ _ (by omega), va_up_ne _ _ (by omega), va_up_ne _ _ (by omega)]; exact h9)) (Or.inl (by omega)) (fun y hy => ⟨by rw [va_up_ne _ _ (by omega), va_up_ne _ _ (by omega)], by rw [va_up_ne _ _ (by omega), va_up_ne _ _ (by omega)], by rw [va_up_ne _ _ (by omega), va_up_ne _ _ (by omega)]⟩) (fun _ => by rw [va_up_self, va_up_self, va_up_self, va_up_self, va_up_self, va_up_self]; exact hS2) (by omega) rfl (ix3 (by omega) (by omega)))
                          have hTP3 : TP (va_up (va_up T1 83 t2) (18 + nf) ((va_up T1 83 t2) 83)) (va_up (va_up P1 83 q2) (18 + nf) ((va_up P1 83 q2) 83)) := hTP2.up (by rw [va_up_self]; exact hS2.2.2.1) (by rw [va_up_self]; exact hS2.1.1) (by rw [va_up_self]; exact hS2.2.1)
                          have hAG3 : AG T P B (va_up (va_up T1 83 t2) (18 + nf) ((va_up T1 83 t2) 83)) (va_up (va_up P1 83 q2) (18 + nf) ((va_up P1 83 q2) 83)) (va_up (va_up B1 83 b2) (18 + nf) ((va_up B1 83 b2) 83)) := (hAG.up (by decide) _ _ _).up (by omega) _ _ _
                          have hS183 : SetIs S ((va_up (va_up T1 83 t2) (18 + nf) ((va_up T1 83 t2) 83)) 18) ((va_up (va_up P1 83 q2) (18 + nf) ((va_up P1 83 q2) 83)) 18) ((va_up (va_up B1 83 b2) (18 + nf) ((va_up B1 83 b2) 83)) 18) := by
                                rw [va_up_ne _ _ (by omega), va_up_ne _ _ (by omega), va_up_ne _ _ (by omega), va_up_ne _ _ (by omega), va_up_ne _ _ (by omega), va_up_ne _ _ (by omega)]
                                exact hS18
                          exact ih33  (d + 1) t2 q2 (nf + 1) (va_up (va_up T1 83 t2) (18 + nf) ((va_up T1 83 t2) 83)) (va_up (va_up P1 83 q2) (18 + nf) ((va_up P1 83 q2) 83)) (va_up (va_up B1 83 b2) (18 + nf) ((va_up B1 83 b2) 83)) rr2 (fun k => if k = 5 * i + d then nI j else G1 k) f H locs ls (by omega) (by omega) (by omega) (by omega) (by omega) (by omega) (hTP3) (hAG3) (hS183) (hMO3) h_o h_ts h_ps h_bs h_rw h_gs hF hw (lv_sub hl [0, 2, 3, 4] rfl)
                      · refine lv_aload_n E.1.1 E.1.2.1 dX6_layMachine_73 rfl (lv_at hl 3 rfl) ?_
                        refine lv_bipush (v := nI 18) E.1.1 E.1.2.1 dX6_layMachine_74 rfl ?_
                        refine lv_iload E.1.1 E.1.2.1 dX6_layMachine_76 (lv_at hl 0 rfl) ?_
                        refine k_add E dX6_layMachine_78 ?_
                        refine lv_bipush (v := nI 83) E.1.1 E.1.2.1 dX6_layMachine_79 rfl ?_
                        refine k_ri (va_runV (As := [.int (nI (18 + j)), .int (nI 83)]) (rest := []) E.1 (m_areSame l D cy L f H.size A base t2 q2 nf (va_up T1 83 t2) (va_up P1 83 q2) (va_up B1 83 b2) rr2 G1 hA hTP2 (18 + j) 83 (by omega) (by decide) h_o h_ts h_ps h_bs) ⟨callB_of 2 E.1.2.2.2.2 (gd_own w3_83) rfl rfl rfl (E.1.2.2.2.2 _ w1_10) (E.1.2.2.2.2 _ w3_80) hd_X6_areSame (by rw [hR]; exact ⟨Nat.le_of_ble_eq_true rfl, Nat.le_of_ble_eq_true rfl⟩), E.1.2.2.2.2 _ w3_82, E.1.2.2.2.2 _ ws_34⟩ (pw_preV (q := (RX6, TX6, 12)) E.2 hw h_o rfl) rfl rfl hl.1 rfl (lv_room (Nat.le_of_ble_eq_true rfl)) dX6_layMachine_81 ⟨Nat.zero_le _, Nat.zero_le _⟩) ?_
                        refine k_if1 (tgt := 93) E dX6_layMachine_84 (by decide) (fun c84 => ?_) (fun c84 => ?_)
                        · refine lv_iload E.1.1 E.1.2.1 dX6_layMachine_93 (lv_at hl 0 rfl) ?_
                          refine lv_aload_n E.1.1 E.1.2.1 dX6_layMachine_95 rfl (lv_at hl 3 rfl) ?_
                          refine k_get (v := .int (nI nf)) E inlX6 rfl 8 (by decide) w3_0 rfl hw h_o rfl dX6_layMachine_96 ?_
                          refine k_ne (tgt := 125) E dX6_layMachine_99 (by decide) (by omega) (by omega) (fun c99 => ?_) (fun c99 => ?_)
                          · refine lv_aload_n E.1.1 E.1.2.1 dX6_layMachine_125 rfl (lv_at hl 3 rfl) ?_
                            refine k_get (v := .ref (A 5)) E inlX6 rfl 7 (by decide) w2_239 rfl hw h_o rfl dX6_layMachine_126 ?_
                            refine lv_iconst (v := nI 5) E.1.1 E.1.2.1 dX6_layMachine_129 rfl ?_
                            refine lv_iload_n E.1.1 E.1.2.1 dX6_layMachine_130 rfl (lv_at hl 2 rfl) ?_
                            refine k_mul E dX6_layMachine_131 ?_
                            refine lv_iload_n E.1.1 E.1.2.1 dX6_layMachine_132 rfl (lv_at hl 1 rfl) ?_
                            refine k_add E dX6_layMachine_133 ?_
                            refine lv_iload E.1.1 E.1.2.1 dX6_layMachine_134 (lv_at hl 0 rfl) ?_
                            refine k_iast E hw (fun k => if k = 5 * i + d then nI j else G1 k) h_gs (by omega) (by omega) (fun _ _ => rfl) dX6_layMachine_136 (fun f H locs h_gs hfr hw => ?_)
                            have h_o := h_o.kp hfr n_o_gs
                            have h_ts := h_ts.kp hfr n_ts_gs
                            have h_ps := h_ps.kp hfr n_ps_gs
                            have h_bs := h_bs.kp hfr n_bs_gs
                            have h_rw := h_rw.kp hfr n_rw_gs
                            have hF : ∀ b ∈ L, b ≠ (A 0) → b ≠ (A 1) → b ≠ (A 2) → b ≠ (A 3) → b ≠ (A 4) → b ≠ (A 5) → f b = f0 b := fun b hb h0 h1 h2 h3 h4 h5 => (hfr b h5).trans (hF b hb h0 h1 h2 h3 h4 h5)
                            refine lv_iinc (v := nI (d + 1)) (lv' := [(3, .int (nI (d + 1))), (4, .int (nI j)), (2, .int (nI i)), (0, .ref (A 0)), (1, .int (nI x))]) E.1.1 E.1.2.1 dX6_layMachine_137 hl (k := 1) rfl (nI_1 _) (by decide) rfl (fun ls hl => ?_)
                            refine lv_goto (tgt := 33) E.1.1 E.1.2.1 dX6_layMachine_140 (by decide) ?_
                            have hMO3 : MO S base i (d + 1) nf (va_up T1 83 t2) (va_up P1 83 q2) (va_up B1 83 b2) (fun k => if k = 5 * i + d then nI j else G1 k) := Or.inl (MI_step (i := i) (d := d) (j := j) hb0 hb5 hMI (ix1 (by omega)) (ix2 (by omega)) (by omega) (by omega) (by omega) hS2 (fun y hy h9 => hg y hy (by rw [va_up_self, va_up_self, va_up_self, va_up_ne _ _ (by omega), va_up_ne _ _ (by omega), va_up_ne _ _ (by omega)]; exact h9)) (Or.inr (by have h9 := dB_iff.mp c84; rw [va_up_self, va_up_self, va_up_self, va_up_ne _ _ (by omega), va_up_ne _ _ (by omega), va_up_ne _ _ (by omega)] at h9; exact h9)) (fun y hy => ⟨by rw [va_up_ne _ _ (by omega)], by rw [va_up_ne _ _ (by omega)], by rw [va_up_ne _ _ (by omega)]⟩) (fun e => absurd e c99) (by omega) rfl (ix3 (by omega) (by omega)))
                            have hTP3 : TP (va_up T1 83 t2) (va_up P1 83 q2) := hTP2
                            have hAG3 : AG T P B (va_up T1 83 t2) (va_up P1 83 q2) (va_up B1 83 b2) := hAG.up (by decide) _ _ _
                            have hS183 : SetIs S ((va_up T1 83 t2) 18) ((va_up P1 83 q2) 18) ((va_up B1 83 b2) 18) := by
                                  rw [va_up_ne _ _ (by omega), va_up_ne _ _ (by omega), va_up_ne _ _ (by omega)]
                                  exact hS18
                            exact ih33  (d + 1) t2 q2 nf (va_up T1 83 t2) (va_up P1 83 q2) (va_up B1 83 b2) rr2 (fun k => if k = 5 * i + d then nI j else G1 k) f H locs ls (by omega) (by omega) (by omega) (by omega) (by omega) (by omega) (hTP3) (hAG3) (hS183) (hMO3) h_o h_ts h_ps h_bs h_rw h_gs hF hw (lv_sub hl [0, 2, 3, 4] rfl)
                          · refine lv_aload_n E.1.1 E.1.2.1 dX6_layMachine_102 rfl (lv_at hl 3 rfl) ?_
                            refine lv_bipush (v := nI 83) E.1.1 E.1.2.1 dX6_layMachine_103 rfl ?_
                            refine lv_bipush (v := nI 18) E.1.1 E.1.2.1 dX6_layMachine_105 rfl ?_
                            refine lv_aload_n E.1.1 E.1.2.1 dX6_layMachine_107 rfl (lv_at hl 3 rfl) ?_
                            refine k_get (v := .int (nI nf)) E inlX6 rfl 8 (by decide) w3_0 rfl hw h_o rfl dX6_layMachine_108 ?_
                            refine k_add E dX6_layMachine_111 ?_
                            refine k_mv hw (va_runV (As := [.int (nI 83), .int (nI (18 + nf))]) (rest := []) E.1 (m_copy l D cy L f H.size A base t2 q2 nf (va_up T1 83 t2) (va_up P1 83 q2) (va_up B1 83 b2) rr2 G1 hA hTP2 83 (18 + nf) (by decide) (by omega) h_o h_ts h_ps h_bs) ⟨callB_of 2 E.1.2.2.2.2 (gd_own w3_67) rfl rfl rfl (E.1.2.2.2.2 _ w1_10) (E.1.2.2.2.2 _ w3_64) hd_X6_copy (by rw [hR]; exact ⟨Nat.le_of_ble_eq_true rfl, Nat.le_of_ble_eq_true rfl⟩), E.1.2.2.2.2 _ w3_66, E.1.2.2.2.2 _ ws_30⟩ (pw_preV (q := (RX6, TX6, 12)) E.2 hw h_o rfl) rfl rfl hl.1 rfl (lv_room (Nat.le_of_ble_eq_true rfl)) dX6_layMachine_112 (by rw [hR]; exact ⟨Nat.le_of_ble_eq_true rfl, Nat.le_of_ble_eq_true rfl⟩)) (fun L1 f H locs hp hw => ?_)
                            obtain ⟨hL1, hfr, h_ts, h_ps, h_bs⟩ := hp
                            have hL1 : L = L1 := hL1
                            subst hL1
                            have h_ts : cel L f (A 1) (.inl (cy 0, 84, .inl (fun k => nI ((va_up (va_up T1 83 t2) (18 + nf) ((va_up T1 83 t2) 83)) k)))) := h_ts
                            have h_ps : cel L f (A 2) (.inl (cy 0, 84, .inl (fun k => nI ((va_up (va_up P1 83 q2) (18 + nf) ((va_up P1 83 q2) 83)) k)))) := h_ps
                            have h_bs : cel L f (A 3) (.inl (cy 1, 252, .inr (.inl (rw3 (va_up (va_up B1 83 b2) (18 + nf) ((va_up B1 83 b2) 83)))))) := h_bs
                            have h_o := h_o.keep (fun _ h => h) (hfr _ h_o.1 n_o_ts n_o_ps n_o_bs)
                            have h_rw := h_rw.keep (fun _ h => h) (hfr _ h_rw.1 (Ne.symm n_ts_rw) (Ne.symm n_ps_rw) (Ne.symm n_bs_rw))
                            have h_gs := h_gs.keep (fun _ h => h) (hfr _ h_gs.1 (Ne.symm n_ts_gs) (Ne.symm n_ps_gs) (Ne.symm n_bs_gs))
                            have hF : ∀ b ∈ L, b ≠ (A 0) → b ≠ (A 1) → b ≠ (A 2) → b ≠ (A 3) → b ≠ (A 4) → b ≠ (A 5) → f b = f0 b := fun b hb h0 h1 h2 h3 h4 h5 => (hfr b (hLs b hb) h1 h2 h3).trans (hF b hb h0 h1 h2 h3 h4 h5)
                            refine lv_aload_n E.1.1 E.1.2.1 dX6_layMachine_115 rfl (lv_at hl 3 rfl) ?_
                            refine lv_dup E.1.1 E.1.2.1 dX6_layMachine_116 rfl ?_
                            refine k_get (v := .int (nI nf)) E inlX6 rfl 8 (by decide) w3_0 rfl hw h_o rfl dX6_layMachine_117 ?_
                            refine lv_iconst (v := nI 1) E.1.1 E.1.2.1 dX6_layMachine_120 rfl ?_
                            refine k_add E dX6_layMachine_121 ?_
                            refine k_put (ty0 := tyX6) E inlX6 rfl tyX6_ok nmX6 8 (by decide) w3_0 rfl rfl hw [.int (nI base), .ref (A 1), .ref (A 2), .ref (A 3), .ref (A 4), .int (nI t2), .int (nI q2), .ref (A 5), .int (nI (nf + 1)), .ref (A 6), .ref (A 7), .ref (A 8)] h_o (rfl) (rfl) (Nat.le_of_ble_eq_true rfl) rfl dX6_layMachine_122 (fun f H locs h_o hfr hw => ?_)
                            have h_ts := h_ts.kp hfr (Ne.symm n_o_ts)
                            have h_ps := h_ps.kp hfr (Ne.symm n_o_ps)
                            have h_bs := h_bs.kp hfr (Ne.symm n_o_bs)
                            have h_rw := h_rw.kp hfr (Ne.symm n_o_rw)
                            have h_gs := h_gs.kp hfr (Ne.symm n_o_gs)
                            have hF : ∀ b ∈ L, b ≠ (A 0) → b ≠ (A 1) → b ≠ (A 2) → b ≠ (A 3) → b ≠ (A 4) → b ≠ (A 5) → f b = f0 b := fun b hb h0 h1 h2 h3 h4 h5 => (hfr b h0).trans (hF b hb h0 h1 h2 h3 h4 h5)
                            refine lv_aload_n E.1.1 E.1.2.1 dX6_layMachine_125 rfl (lv_at hl 3 rfl) ?_
                            refine k_get (v := .ref (A 5)) E inlX6 rfl 7 (by decide) w2_239 rfl hw h_o rfl dX6_layMachine_126 ?_
                            refine lv_iconst (v := nI 5) E.1.1 E.1.2.1 dX6_layMachine_129 rfl ?_
                            refine lv_iload_n E.1.1 E.1.2.1 dX6_layMachine_130 rfl (lv_at hl 2 rfl) ?_
                            refine k_mul E dX6_layMachine_131 ?_
                            refine lv_iload_n E.1.1 E.1.2.1 dX6_layMachine_132 rfl (lv_at hl 1 rfl) ?_
                            refine k_add E dX6_layMachine_133 ?_
                            refine lv_iload E.1.1 E.1.2.1 dX6_layMachine_134 (lv_at hl 0 rfl) ?_
                            refine k_iast E hw (fun k => if k = 5 * i + d then nI j else G1 k) h_gs (by omega) (by omega) (fun _ _ => rfl) dX6_layMachine_136 (fun f H locs h_gs hfr hw => ?_)
                            have h_o := h_o.kp hfr n_o_gs
                            have h_ts := h_ts.kp hfr n_ts_gs
                            have h_ps := h_ps.kp hfr n_ps_gs
                            have h_bs := h_bs.kp hfr n_bs_gs
                            have h_rw := h_rw.kp hfr n_rw_gs
                            have hF : ∀ b ∈ L, b ≠ (A 0) → b ≠ (A 1) → b ≠ (A 2) → b ≠ (A 3) → b ≠ (A 4) → b ≠ (A 5) → f b = f0 b := fun b hb h0 h1 h2 h3 h4 h5 => (hfr b h5).trans (hF b hb h0 h1 h2 h3 h4 h5)
                            refine lv_iinc (v := nI (d + 1)) (lv' := [(3, .int (nI (d + 1))), (4, .int (nI j)), (2, .int (nI i)), (0, .ref (A 0)), (1, .int (nI x))]) E.1.1 E.1.2.1 dX6_layMachine_137 hl (k := 1) rfl (nI_1 _) (by decide) rfl (fun ls hl => ?_)
                            refine lv_goto (tgt := 33) E.1.1 E.1.2.1 dX6_layMachine_140 (by decide) ?_
                            have hMO3 : MO S base i (d + 1) (nf + 1) (va_up (va_up T1 83 t2) (18 + nf) ((va_up T1 83 t2) 83)) (va_up (va_up P1 83 q2) (18 + nf) ((va_up P1 83 q2) 83)) (va_up (va_up B1 83 b2) (18 + nf) ((va_up B1 83 b2) 83)) (fun k => if k = 5 * i + d then nI j else G1 k) := Or.inl (MI_step (i := i) (d := d) (j := j) hb0 hb5 hMI (ix1 (by omega)) (ix2 (by omega)) (by omega) (by omega) (by omega) hS2 (fun y hy h9 => hg y hy (by rw [va_up_self, va_up_self, va_up_self, va_up_ne _ _ (by omega), va_up_ne _ _ (by omega), va_up_ne _ _ (by omega)]; exact h9)) (Or.inr (by have h9 := dB_iff.mp c84; rw [va_up_self, va_up_self, va_up_self, va_up_ne _ _ (by omega), va_up_ne _ _ (by omega), va_up_ne _ _ (by omega)] at h9; exact h9)) (fun y hy => ⟨by rw [va_up_ne _ _ (by omega), va_up_ne _ _ (by omega)], by rw [va_up_ne _ _ (by omega), va_up_ne _ _ (by omega)], by rw [va_up_ne _ _ (by omega), va_up_ne _ _ (by omega)]⟩) (fun _ => by rw [va_up_self, va_up_self, va_up_self, va_up_self, va_up_self, va_up_self]; exact hS2) (by omega) rfl (ix3 (by omega) (by omega)))
                            have hTP3 : TP (va_up (va_up T1 83 t2) (18 + nf) ((va_up T1 83 t2) 83)) (va_up (va_up P1 83 q2) (18 + nf) ((va_up P1 83 q2) 83)) := hTP2.up (by rw [va_up_self]; exact hS2.2.2.1) (by rw [va_up_self]; exact hS2.1.1) (by rw [va_up_self]; exact hS2.2.1)
                            have hAG3 : AG T P B (va_up (va_up T1 83 t2) (18 + nf) ((va_up T1 83 t2) 83)) (va_up (va_up P1 83 q2) (18 + nf) ((va_up P1 83 q2) 83)) (va_up (va_up B1 83 b2) (18 + nf) ((va_up B1 83 b2) 83)) := (hAG.up (by decide) _ _ _).up (by omega) _ _ _
                            have hS183 : SetIs S ((va_up (va_up T1 83 t2) (18 + nf) ((va_up T1 83 t2) 83)) 18) ((va_up (va_up P1 83 q2) (18 + nf) ((va_up P1 83 q2) 83)) 18) ((va_up (va_up B1 83 b2) (18 + nf) ((va_up B1 83 b2) 83)) 18) := by
                                  rw [va_up_ne _ _ (by omega), va_up_ne _ _ (by omega), va_up_ne _ _ (by omega), va_up_ne _ _ (by omega), va_up_ne _ _ (by omega), va_up_ne _ _ (by omega)]
                                  exact hS18
                            exact ih33  (d + 1) t2 q2 (nf + 1) (va_up (va_up T1 83 t2) (18 + nf) ((va_up T1 83 t2) 83)) (va_up (va_up P1 83 q2) (18 + nf) ((va_up P1 83 q2) 83)) (va_up (va_up B1 83 b2) (18 + nf) ((va_up B1 83 b2) 83)) rr2 (fun k => if k = 5 * i + d then nI j else G1 k) f H locs ls (by omega) (by omega) (by omega) (by omega) (by omega) (by omega) (hTP3) (hAG3) (hS183) (hMO3) h_o h_ts h_ps h_bs h_rw h_gs hF hw (lv_sub hl [0, 2, 3, 4] rfl)
                        · refine lv_iinc (v := nI (j + 1)) (lv' := [(4, .int (nI (j + 1))), (3, .int (nI d)), (2, .int (nI i)), (0, .ref (A 0)), (1, .int (nI x))]) E.1.1 E.1.2.1 dX6_layMachine_87 hl (k := 0) rfl (nI_1 _) (by decide) rfl (fun ls hl => ?_)
                          refine lv_goto (tgt := 64) E.1.1 E.1.2.1 dX6_layMachine_90 (by decide) ?_
                          exact ih64  (j + 1) f H locs ls (by omega) (by omega) (fun y hy => by
        by_cases h : y = j
        · rw [h]; exact fun z => absurd (dB_t z) (by rw [c84]; decide)
        · exact hg y (by omega)) h_o h_ts h_ps h_bs h_rw h_gs hF hw (lv_sub hl [0, 1, 2, 3, 4] rfl)
                  exact lp64 (nf - 0 + 1) 0 f H locs ls (Nat.lt_succ_self _) (by omega) (fun j hj => absurd hj (by omega)) h_o h_ts h_ps h_bs h_rw h_gs hF hw (lv_sub hl [0, 1, 2, 3, 4] rfl)
          exact lp33 (base - 0 + 1) 0 fr1 pb1 nf T1 P1 B1 rr1 G1 f H locs ls (Nat.lt_succ_self _) (by omega) (by omega) (by omega) (by omega) (by omega) (hTP1) (hAG) (hS18) (hMO) h_o h_ts h_ps h_bs h_rw h_gs hF hw (lv_sub hl [0, 1, 2, 3] rfl)
  exact lp14 (66 - 0 + 1) 0 fr pb 1 (va_up T 18 (T x)) (va_up P 18 (P x)) (va_up B 18 (B x)) rr G f H locs ls (Nat.lt_succ_self _) (by omega) (by omega) (by omega) (hTP.up hTx.1 hTx.2.1 hTx.2.2) (AG.up (fun _ _ => ⟨rfl, rfl, rfl⟩) (by decide) _ _ _) (by rw [va_up_self, va_up_self, va_up_self]; exact hS) (Or.inl (by rw [Nat.zero_mul]; exact MI_0 (by rw [va_up_self, va_up_self, va_up_self]; exact hS))) h_o h_ts h_ps h_bs h_rw h_gs hF hw (lv_sub hl [0, 1, 2] rfl)
