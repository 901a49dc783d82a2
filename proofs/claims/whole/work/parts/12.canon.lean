/-! periods of sets: plain facts -/
def EvP (S : Nat → Bool) (t q : Nat) : Prop := ∀ n, t ≤ n → S n = S (n + q)
def Canon (S : Nat → Bool) (t q : Nat) : Prop := 0 < q ∧ EvP S t q ∧ (∀ q' t', 0 < q' → EvP S t' q' → q ≤ q') ∧ ∀ t', EvP S t' q → t ≤ t'
theorem Canon.uni {S : Nat → Bool} {t q t' q' : Nat} (h : Canon S t q) (h' : Canon S t' q') : t = t' ∧ q = q' := by
  have e : q = q' := Nat.le_antisymm (h.2.2.1 q' t' h'.1 h'.2.1) (h'.2.2.1 q t h.1 h.2.1)
  subst e
  exact ⟨Nat.le_antisymm (h.2.2.2 t' h'.2.1) (h'.2.2.2 t h.2.1), rfl⟩
theorem EvP.mul {S : Nat → Bool} {t q : Nat} (h : EvP S t q) (k : Nat) : EvP S t (k * q) := by
  induction k with
  | zero => intro n _; simp
  | succ k ih =>
    intro n hn
    rw [ih n hn, h (n + k * q) (by omega), Nat.succ_mul, Nat.add_assoc]
theorem EvP.late {S : Nat → Bool} {t t' q : Nat} (h : EvP S t q) (ht : t ≤ t') : EvP S t' q := fun n hn => h n (by omega)
theorem EvP.sub {S : Nat → Bool} {t t' q q' : Nat} (h : EvP S t q) (h' : EvP S t' q') (hq : q ≤ q') : EvP S (max t t') (q' - q) := by
  intro n hn
  have h1 : t ≤ n := by omega
  have h2 : t' ≤ n := by omega
  rw [h' n h2, h (n + (q' - q)) (by omega)]
  congr 1
  omega
theorem EvP.gcd {S : Nat → Bool} : ∀ (k q q' t t' : Nat), q + q' ≤ k → 0 < q → 0 < q' → EvP S t q → EvP S t' q' → ∃ t2, EvP S t2 (Nat.gcd q q') := by
  intro k
  induction k with
  | zero => intro q q' t t' h1 h2; omega
  | succ k ih =>
    intro q q' t t' hk h0 h0' h h'
    rcases Nat.lt_trichotomy q q' with hl | hl | hl
    · obtain ⟨t2, h2⟩ := ih q (q' - q) t (max t t') (by omega) h0 (by omega) h (h.sub h' (by omega))
      refine ⟨t2, ?_⟩
      have e : Nat.gcd q (q' - q) = Nat.gcd q q' := by
        conv => rhs; rw [show q' = (q' - q) + q by omega]
        simp
      rw [← e]; exact h2
    · subst hl
      rw [Nat.gcd_self]
      exact ⟨t, h⟩
    · obtain ⟨t2, h2⟩ := ih (q - q') q' (max t' t) t' (by omega) (by omega) h0' (h'.sub h (by omega)) h'
      refine ⟨t2, ?_⟩
      have e : Nat.gcd (q - q') q' = Nat.gcd q q' := by
        conv => rhs; rw [show q = (q - q') + q' by omega]
        simp
      rw [← e]; exact h2
theorem fold_ge {t per n : Nat} (hp : 0 < per) (h : t ≤ n) : fold t per n = t + (n - t) % per := by
  unfold fold
  split
  · rw [Nat.mod_eq_of_lt (by omega)]; omega
  · rfl
theorem den_ev {t per : Nat} (b : Nat → Bool) (hp : 0 < per) : EvP (den t per b) t per := by
  intro n hn
  unfold den
  rw [fold_ge hp hn, fold_ge hp (by omega), show n + per - t = (n - t) + per by omega, Nat.add_mod_right]
theorem den_in {t per n : Nat} (b : Nat → Bool) (h : n < t + per) : den t per b n = b n := by
  unfold den
  rw [fold_in h]
theorem CR_chain {b : Nat → Bool} {t per q : Nat} (h : CR b t per q) (hq : 0 < q) : ∀ k j, j ≤ k → j < per → b (t + j) = b (t + j % q) := by
  intro k
  induction k with
  | zero => intro j h1 h2; rw [show j = 0 by omega]; simp
  | succ k ih =>
    intro j h1 h2
    by_cases hj : j < q
    · rw [Nat.mod_eq_of_lt hj]
    · have h3 := h (t + (j - q)) (by omega) (by omega)
      rw [show t + (j - q) + q = t + j by omega] at h3
      rw [← h3, ih (j - q) (by omega) (by omega)]
      congr 2
      rw [Nat.mod_eq_sub_mod (by omega : q ≤ j)]
theorem CR_ev {b : Nat → Bool} {t per q : Nat} (h : CR b t per q) (hq : 0 < q) (hper : 0 < per) (hd : per % q = 0) : EvP (den t per b) t q := by
  intro n hn
  unfold den
  have hdv : q ∣ per := Nat.dvd_of_mod_eq_zero hd
  rw [fold_ge hper hn, fold_ge hper (by omega)]
  rw [CR_chain h hq per ((n - t) % per) (Nat.le_of_lt (Nat.mod_lt _ hper)) (Nat.mod_lt _ hper), CR_chain h hq per ((n + q - t) % per) (Nat.le_of_lt (Nat.mod_lt _ hper)) (Nat.mod_lt _ hper)]
  rw [Nat.mod_mod_of_dvd _ hdv, Nat.mod_mod_of_dvd _ hdv, show n + q - t = (n - t) + q by omega, Nat.add_mod_right]
theorem ev_CR {b : Nat → Bool} {t per g t' : Nat} (hper : 0 < per) (h : EvP (den t per b) t' g) : CR b t per g := by
  intro n h1 h2
  have h3 := (den_ev (t := t) b hper).mul t'
  have h4 : t' ≤ t' * per := Nat.le_mul_of_pos_right t' hper
  rw [← den_in b (show n < t + per by omega), ← den_in b h2, h3 n h1, h3 (n + g) (by omega), h (n + t' * per) (by omega)]
  congr 1
  omega
theorem EvP.back {S : Nat → Bool} {t q : Nat} (hq : 0 < q) (h : EvP S t q) {n : Nat} (hn : t ≤ n) : S n = S (t + (n - t) % q) := by
  have h1 := h.mul ((n - t) / q) (t + (n - t) % q) (by omega)
  rw [h1]
  congr 1
  have := Nat.mod_add_div (n - t) q
  rw [Nat.mul_comm]
  omega
theorem ev_den {S : Nat → Bool} {t q : Nat} {b : Nat → Bool} (hq : 0 < q) (h : EvP S t q) (hb : ∀ n, n < t + q → b n = S n) : ∀ n, S n = den t q b n := by
  intro n
  unfold den
  rw [hb _ (fold_lt hq)]
  by_cases hn : n < t + q
  · rw [fold_in hn]
  · rw [fold_ge hq (by omega)]
    exact h.back hq (by omega)
theorem red_ok {b : Nat → Bool} {t per q x : Nat} (hper : 0 < per) (hl : LPer b t per q) (h0 : q ≠ 0) (hs : LSt b t q x) : Canon (den t per b) x q ∧ q ≤ 60 ∧ ∀ n, n < x + q → den t per b n = b n := by
  obtain ⟨h1, h2, h3, h4, h5, h6⟩ : 1 ≤ q ∧ q ≤ 60 ∧ q ≤ per ∧ per % q = 0 ∧ CR b t per q ∧ ∀ j, 1 ≤ j → j < q → per % j = 0 → ¬ CR b t per j := by
    rcases hl with hl | hl
    · exact absurd hl.1 h0
    · exact hl
  obtain ⟨s1, s2, s3⟩ := hs
  have hA : EvP (den t per b) t q := CR_ev h5 (by omega) hper h4
  have hin : ∀ n, n < x + q → den t per b n = b n := fun n hn => den_in b (by omega)
  refine ⟨⟨by omega, fun n hn => ?_, fun q' t' hq' hE => ?_, fun t' hE => ?_⟩, h2, hin⟩
  · by_cases hnt : t ≤ n
    · exact hA n hnt
    · rw [den_in b (by omega), den_in b (by omega)]
      exact s2 n hn (by omega)
  · obtain ⟨t2, hg⟩ := EvP.gcd (q' + per) q' per t' t (Nat.le_refl _) hq' hper hE (den_ev b hper)
    have hgp : 0 < Nat.gcd q' per := Nat.gcd_pos_of_pos_left _ hq'
    have hc := ev_CR hper hg
    have hle : Nat.gcd q' per ≤ q' := Nat.gcd_le_left _ hq'
    rcases Nat.lt_or_ge (Nat.gcd q' per) q with z | z
    · exact absurd hc (h6 _ hgp z (Nat.mod_eq_zero_of_dvd (Nat.gcd_dvd_right q' per)))
    · omega
  · rcases Nat.lt_or_ge t' x with z | z
    · rcases s3 with s3 | s3
      · omega
      · have h9 := hE (x - 1) (by omega)
        rw [den_in b (by omega), den_in b (by omega)] at h9
        exact absurd h9 s3.2
    · exact z
theorem red_no {b : Nat → Bool} {t per : Nat} (hper : 0 < per) (hl : LPer b t per 0) {t' q' : Nat} (hc : Canon (den t per b) t' q') : 60 < q' := by
  have h1 : ∀ j, 1 ≤ j → j ≤ 60 → j ≤ per → per % j = 0 → ¬ CR b t per j := by
    rcases hl with hl | hl
    · exact hl.2
    · omega
  obtain ⟨t2, hg⟩ := EvP.gcd (q' + per) q' per t' t (Nat.le_refl _) hc.1 hper hc.2.1 (den_ev b hper)
  have hgp : 0 < Nat.gcd q' per := Nat.gcd_pos_of_pos_left _ hc.1
  have h2 := hc.2.2.1 _ t2 hgp hg
  have h3 : Nat.gcd q' per ≤ per := Nat.gcd_le_right _ hper
  have hle : Nat.gcd q' per ≤ q' := Nat.gcd_le_left _ hc.1
  rcases Nat.lt_or_ge 60 q' with z | z
  · exact z
  · exact absurd (ev_CR hper hg) (h1 _ hgp (by omega) h3 (Nat.mod_eq_zero_of_dvd (Nat.gcd_dvd_right q' per)))
/-- a set told by its least row: bits beyond the row are false -/
def SetIs (S : Nat → Bool) (t q : Nat) (b : Nat → Bool) : Prop := Canon S t q ∧ q ≤ 60 ∧ t ≤ 120 ∧ (∀ n, n < t + q → b n = S n) ∧ ∀ n, t + q ≤ n → n < 192 → b n = false
theorem SetIs.den {S : Nat → Bool} {t q : Nat} {b : Nat → Bool} (h : SetIs S t q b) : ∀ n, S n = den t q b n := ev_den h.1.1 h.1.2.1 h.2.2.2.1
theorem SetIs.uni {S : Nat → Bool} {t q t' q' : Nat} {b b' : Nat → Bool} (h : SetIs S t q b) (h' : SetIs S t' q' b') : t = t' ∧ q = q' ∧ ∀ n, n < 192 → b n = b' n := by
  obtain ⟨e1, e2⟩ := h.1.uni h'.1
  subst e1; subst e2
  refine ⟨rfl, rfl, fun n hn => ?_⟩
  by_cases hl : n < t + q
  · rw [h.2.2.2.1 n hl, h'.2.2.2.1 n hl]
  · rw [h.2.2.2.2 n (by omega) hn, h'.2.2.2.2 n (by omega) hn]
/-- fit: not too long -/
def Fits (S : Nat → Bool) : Prop := ∃ t q, Canon S t q ∧ q ≤ 60 ∧ t ≤ 120
theorem red_set {b : Nat → Bool} {t per q x : Nat} (hper : 0 < per) (hl : LPer b t per q) (h0 : q ≠ 0) (hs : LSt b t q x) (hx : x ≤ 120) : SetIs (den t per b) x q (bclr b (x + q) 192) := by
  obtain ⟨h1, h2, h3⟩ := red_ok hper hl h0 hs
  refine ⟨h1, h2, hx, fun n hn => ?_, fun n h4 h5 => ?_⟩
  · rw [h3 n hn]; simp only [bclr]; rw [if_neg (by omega)]
  · simp only [bclr]; rw [if_pos ⟨h4, h5⟩]
theorem red_unfit {b : Nat → Bool} {t per q x : Nat} (hper : 0 < per) (hl : LPer b t per q) (h0 : q ≠ 0) (hs : LSt b t q x) (hx : 120 < x) : ¬ Fits (den t per b) := by
  rintro ⟨t', q', hc, h1, h2⟩
  obtain ⟨e1, e2⟩ := hc.uni (red_ok hper hl h0 hs).1
  omega
theorem red_unfit0 {b : Nat → Bool} {t per : Nat} (hper : 0 < per) (hl : LPer b t per 0) : ¬ Fits (den t per b) := by
  rintro ⟨t', q', hc, h1, h2⟩
  have := red_no hper hl hc
  omega
theorem SetIs.fits {S : Nat → Bool} {t q : Nat} {b : Nat → Bool} (h : SetIs S t q b) : Fits S := ⟨t, q, h.1, h.2.1, h.2.2.1⟩
