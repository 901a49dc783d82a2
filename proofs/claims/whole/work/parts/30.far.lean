/-! how far: z the first ones, an edge goes from nr k to aw k -/
noncomputable def wn (z : Nat → Bool) (nr aw : Nat → Nat) (N : Nat) : Nat → Nat → Bool
  | 0 => z
  | r + 1 => fun i => wn z nr aw N r i || dB (∃ j, j < N ∧ wn z nr aw N r (nr j) = true ∧ aw j = i)
theorem wn_inv {z : Nat → Bool} {nr aw : Nat → Nat} {N r i : Nat} (h : wn z nr aw N (r + 1) i = true) : wn z nr aw N r i = true ∨ ∃ j, j < N ∧ wn z nr aw N r (nr j) = true ∧ aw j = i := by
  have h2 : (wn z nr aw N r i || dB (∃ j, j < N ∧ wn z nr aw N r (nr j) = true ∧ aw j = i)) = true := h
  rw [Bool.or_eq_true] at h2
  rcases h2 with h2 | h2
  · exact Or.inl h2
  · exact Or.inr (dB_iff.mp h2)
theorem wn_up {z : Nat → Bool} {nr aw : Nat → Nat} {N r i : Nat} (h : wn z nr aw N r i = true) : wn z nr aw N (r + 1) i = true := by
  show (wn z nr aw N r i || dB (∃ j, j < N ∧ wn z nr aw N r (nr j) = true ∧ aw j = i)) = true
  rw [h]; rfl
theorem wn_edge {z : Nat → Bool} {nr aw : Nat → Nat} {N r j : Nat} (hj : j < N) (h : wn z nr aw N r (nr j) = true) : wn z nr aw N (r + 1) (aw j) = true := by
  show (wn z nr aw N r (aw j) || dB (∃ x, x < N ∧ wn z nr aw N r (nr x) = true ∧ aw x = aw j)) = true
  rw [dB_t ⟨j, hj, h, rfl⟩, Bool.or_true]
theorem wn_le {z : Nat → Bool} {nr aw : Nat → Nat} {N i : Nat} : ∀ {r r' : Nat}, r ≤ r' → wn z nr aw N r i = true → wn z nr aw N r' i = true := by
  intro r r' h
  induction r' with
  | zero => intro h1; rw [show r = 0 by omega] at h1; exact h1
  | succ r' ih =>
    intro h1
    by_cases e : r = r' + 1
    · rw [← e]; exact h1
    · exact wn_up (ih (by omega) h1)
theorem wn_no {z : Nat → Bool} {nr aw : Nat → Nat} {N i r r' : Nat} (h : r ≤ r') (h1 : wn z nr aw N r' i = false) : wn z nr aw N r i = false := by
  cases h2 : wn z nr aw N r i
  · rfl
  · rw [wn_le h h2] at h1; cases h1
theorem cnt_le_of {x y : Nat → Bool} : ∀ {n : Nat}, (∀ i, i < n → x i = true → y i = true) → fa_cnt x n ≤ fa_cnt y n
  | 0, _ => Nat.le_refl _
  | n + 1, h => by
    have ih := cnt_le_of (fun i hi => h i (Nat.lt_succ_of_lt hi))
    have h1 := h n (Nat.lt_succ_self n)
    rw [fa_cnt, fa_cnt]
    cases hx : x n
    · simp; omega
    · rw [h1 hx]; simp; omega
theorem cnt_eq_of {x y : Nat → Bool} : ∀ {n : Nat}, (∀ i, i < n → x i = true → y i = true) → fa_cnt x n = fa_cnt y n → ∀ i, i < n → x i = y i
  | 0, _, _ => fun i hi => absurd hi (by omega)
  | n + 1, h, e => by
    have h0 := cnt_le_of (n := n) (fun i hi => h i (Nat.lt_succ_of_lt hi))
    have h1 := h n (Nat.lt_succ_self n)
    rw [fa_cnt, fa_cnt] at e
    have hn : x n = y n ∧ fa_cnt x n = fa_cnt y n := by
      cases hx : x n
      · cases hy : y n
        · rw [hx, hy] at e; simp at e; exact ⟨rfl, e⟩
        · rw [hx, hy] at e; simp at e; omega
      · rw [hx, h1 hx] at e; simp at e; exact ⟨(h1 hx).symm, e⟩
    intro i hi
    by_cases hin : i = n
    · rw [hin]; exact hn.1
    · exact cnt_eq_of (fun i hi => h i (Nat.lt_succ_of_lt hi)) hn.2 i (by omega)
theorem cnt_all {x : Nat → Bool} : ∀ {n : Nat}, n ≤ fa_cnt x n → ∀ i, i < n → x i = true
  | 0, _ => fun i hi => absurd hi (by omega)
  | n + 1, h => by
    have h0 := fa_cnt_le x n
    rw [fa_cnt] at h
    intro i hi
    cases hx : x n
    · rw [hx] at h; simp at h; omega
    · rw [hx] at h; simp at h
      by_cases hin : i = n
      · rw [hin]; exact hx
      · exact cnt_all h i (by omega)
theorem wn_still {z : Nat → Bool} {nr aw : Nat → Nat} {N n r : Nat} (hr : ∀ j, j < N → nr j < n ∧ aw j < n) (h : ∀ i, i < n → wn z nr aw N (r + 1) i = wn z nr aw N r i) : ∀ d i, i < n → wn z nr aw N (r + d) i = wn z nr aw N r i := by
  intro d
  induction d with
  | zero => intro i _; rfl
  | succ d ih =>
    intro i hi
    cases h2 : wn z nr aw N (r + (d + 1)) i
    · exact (wn_no (show r ≤ r + (d + 1) by omega) h2).symm
    · rcases wn_inv (r := r + d) h2 with h3 | ⟨j, h3, h4, h5⟩
      · rw [ih i hi] at h3; exact h3.symm
      · rw [ih _ (hr j h3).1] at h4
        have h6 := wn_edge h3 h4
        rw [h5, h i hi] at h6
        exact h6.symm
theorem wn_grow {z : Nat → Bool} {nr aw : Nat → Nat} {N n : Nat} : ∀ r, (∃ j, j < r ∧ ∀ i, i < n → wn z nr aw N (j + 1) i = wn z nr aw N j i) ∨ fa_cnt z n + r ≤ fa_cnt (wn z nr aw N r) n := by
  intro r
  induction r with
  | zero => exact Or.inr (Nat.le_refl _)
  | succ r ih =>
    rcases ih with ⟨j, h1, h2⟩ | h
    · exact Or.inl ⟨j, by omega, h2⟩
    · have h1 : fa_cnt (wn z nr aw N r) n ≤ fa_cnt (wn z nr aw N (r + 1)) n := cnt_le_of (fun i _ h => wn_up h)
      by_cases e : fa_cnt (wn z nr aw N r) n = fa_cnt (wn z nr aw N (r + 1)) n
      · exact Or.inl ⟨r, by omega, fun i hi => (cnt_eq_of (fun i _ h => wn_up h) e i hi).symm⟩
      · right; omega
/-- none is farther than n - 1 -/
theorem wn_near {z : Nat → Bool} {nr aw : Nat → Nat} {N n : Nat} (hr : ∀ j, j < N → nr j < n ∧ aw j < n) {r i : Nat} (hi : i < n) (h : wn z nr aw N r i = true) : wn z nr aw N (n - 1) i = true := by
  rcases Nat.lt_or_ge (n - 1) r with hl | hl
  · rcases wn_grow (z := z) (nr := nr) (aw := aw) (N := N) (n := n) (n - 1) with ⟨j, h1, h2⟩ | h1
    · have a := wn_still hr h2 (r - j) i hi
      have b := wn_still hr h2 (n - 1 - j) i hi
      rw [show j + (r - j) = r by omega] at a
      rw [show j + (n - 1 - j) = n - 1 by omega] at b
      rw [b, ← a]; exact h
    · by_cases h0 : fa_cnt z n = 0
      · have hz : ∀ i, i < n → z i = false := by
          intro i hi
          cases hzi : z i
          · rfl
          · have h9 := cnt_le_of (x := fun j => decide (j = i)) (y := z) (n := n) (fun j _ hj => by rw [of_decide_eq_true hj]; exact hzi)
            have h10 : 0 < fa_cnt (fun j => decide (j = i)) n := by
              have h11 := cnt_mono (fun j => decide (j = i)) (show i + 1 ≤ n by omega)
              have h12 : fa_cnt (fun j => decide (j = i)) (i + 1) = fa_cnt (fun j => decide (j = i)) i + 1 := fa_cnt_yes (by simp)
              omega
            omega
        have hst : ∀ i, i < n → wn z nr aw N (0 + 1) i = wn z nr aw N 0 i := by
          intro i hi
          cases h2 : wn z nr aw N (0 + 1) i
          · exact (hz i hi).symm
          · rcases wn_inv h2 with h3 | ⟨j, h3, h4, _⟩
            · exact h3.symm
            · have h5 : z (nr j) = true := h4
              rw [hz _ (hr j h3).1] at h5; cases h5
        have a := wn_still hr hst r i hi
        rw [Nat.zero_add, h] at a
        have h5 : z i = true := a.symm
        rw [hz i hi] at h5; cases h5
      · exact cnt_all (by omega) i hi
  · exact wn_le hl h
/-- what the row of steps holds, in the round r, behind K edges -/
def FI (n : Nat) (z : Nat → Bool) (nr aw : Nat → Nat) (N r K : Nat) (F : Nat → Int32) : Prop := ∀ i, i < n → (wn z nr aw N r i = true → ∃ d, d ≤ r ∧ F i = nI d ∧ wn z nr aw N d i = true ∧ ∀ d', d' < d → wn z nr aw N d' i = false) ∧ (wn z nr aw N r i = false → (F i = nI (r + 1) ∧ ∃ j, j < K ∧ wn z nr aw N r (nr j) = true ∧ aw j = i) ∨ (F i = -6 ∧ ∀ j, j < K → wn z nr aw N r (nr j) = true → aw j ≠ i))
theorem FI_0 {n : Nat} {z : Nat → Bool} {nr aw : Nat → Nat} {N : Nat} {F : Nat → Int32} (h : ∀ i, i < n → F i = if z i then nI 0 else -6) : FI n z nr aw N 0 0 F := by
  intro i hi
  constructor
  · intro h1
    refine ⟨0, Nat.le_refl 0, ?_, h1, fun d' hd => absurd hd (by omega)⟩
    have h2 : z i = true := h1
    rw [h i hi, h2]; rfl
  · intro h1
    have h2 : z i = false := h1
    exact Or.inr ⟨by rw [h i hi, h2]; rfl, fun j hj => absurd hj (by omega)⟩
theorem nI_n6 (d : Nat) (hd : d < 1000) : nI d ≠ -6 := nI_ne6 (by omega)
theorem nI_ge0 {d : Nat} (hd : d < 1000) : (0 : Int32) ≤ nI d := by
  rw [i32_le, nI_t (by omega)]
  have e0 : (0 : Int32).toInt = 0 := rfl
  omega
theorem n6_neg : ¬ (0 : Int32) ≤ -6 := by decide
theorem FI_set {n : Nat} {z : Nat → Bool} {nr aw : Nat → Nat} {N r K : Nat} {F : Nat → Int32} (h : FI n z nr aw N r K F) (hr : r < 900) (hn : nr K < n) (ha : aw K < n) (h1 : F (nr K) = nI r) (h2 : ¬ (0 : Int32) ≤ F (aw K)) : FI n z nr aw N r (K + 1) (fun j => if j = aw K then nI (r + 1) else F j) := by
  have hnear : wn z nr aw N r (nr K) = true := by
    cases q : wn z nr aw N r (nr K)
    · rcases (h _ hn).2 q with ⟨e, _⟩ | ⟨e, _⟩
      · rw [h1] at e
        have := (nI_eq (show r < 2 ^ 31 by omega) (show r + 1 < 2 ^ 31 by omega)).mp e
        omega
      · rw [h1] at e; exact absurd e (nI_n6 r (by omega))
    · rfl
  have haway : wn z nr aw N r (aw K) = false := by
    cases q : wn z nr aw N r (aw K)
    · rfl
    · obtain ⟨d, hd, e, _⟩ := (h _ ha).1 q
      rw [e] at h2
      exact absurd (nI_ge0 (by omega)) h2
  intro i hi
  by_cases e : i = aw K
  · constructor
    · intro q; rw [e, haway] at q; cases q
    · intro _
      refine Or.inl ⟨by show (if i = aw K then _ else _) = _; rw [if_pos e], K, by omega, hnear, e.symm⟩
  · obtain ⟨a, b⟩ := h i hi
    refine ⟨fun q => ?_, fun q => ?_⟩
    · obtain ⟨d, x1, x2, x3⟩ := a q
      exact ⟨d, x1, by show (if i = aw K then _ else _) = _; rw [if_neg e]; exact x2, x3⟩
    · rcases b q with ⟨x1, j, x2, x3⟩ | ⟨x1, x2⟩
      · exact Or.inl ⟨by show (if i = aw K then _ else _) = _; rw [if_neg e]; exact x1, j, by omega, x3⟩
      · refine Or.inr ⟨by show (if i = aw K then _ else _) = _; rw [if_neg e]; exact x1, fun j hj => ?_⟩
        by_cases ej : j = K
        · intro _ q2; rw [ej] at q2; exact e q2.symm
        · exact x2 j (by omega)
theorem FI_old {n : Nat} {z : Nat → Bool} {nr aw : Nat → Nat} {N r K : Nat} {F : Nat → Int32} (h : FI n z nr aw N r K F) (h2 : (0 : Int32) ≤ F (aw K)) : FI n z nr aw N r (K + 1) F := by
  intro i hi
  obtain ⟨a, b⟩ := h i hi
  refine ⟨a, fun q => ?_⟩
  rcases b q with ⟨x1, j, x2, x3⟩ | ⟨x1, x2⟩
  · exact Or.inl ⟨x1, j, by omega, x3⟩
  · refine Or.inr ⟨x1, fun j hj => ?_⟩
    by_cases ej : j = K
    · intro _ q2
      rw [ej] at q2
      rw [q2, x1] at h2
      exact n6_neg h2
    · exact x2 j (by omega)
theorem FI_skip {n : Nat} {z : Nat → Bool} {nr aw : Nat → Nat} {N r K : Nat} {F : Nat → Int32} (h : FI n z nr aw N r K F) (hK : K < N) (hn : nr K < n) (h1 : F (nr K) ≠ nI r) : FI n z nr aw N r (K + 1) F := by
  intro i hi
  obtain ⟨a, b⟩ := h i hi
  refine ⟨a, fun q => ?_⟩
  rcases b q with ⟨x1, j, x2, x3⟩ | ⟨x1, x2⟩
  · exact Or.inl ⟨x1, j, by omega, x3⟩
  · refine Or.inr ⟨x1, fun j hj => ?_⟩
    by_cases ej : j = K
    · intro q1 q2
      rw [ej] at q1 q2
      obtain ⟨d, y1, y2, y3, _⟩ := (h _ hn).1 q1
      have hdr : d < r := by
        rcases Nat.lt_or_ge d r with z1 | z1
        · exact z1
        · rw [show d = r by omega] at y2; exact absurd y2 h1
      have h9 := wn_le (show d + 1 ≤ r by omega) (wn_edge hK y3)
      rw [q2, q] at h9; cases h9
    · exact x2 j (by omega)
theorem FI_round {n : Nat} {z : Nat → Bool} {nr aw : Nat → Nat} {N r : Nat} {F : Nat → Int32} (h : FI n z nr aw N r N F) : FI n z nr aw N (r + 1) 0 F := by
  intro i hi
  obtain ⟨a, b⟩ := h i hi
  constructor
  · intro q
    cases q0 : wn z nr aw N r i
    · rcases b q0 with ⟨x1, j, x2, x3, x4⟩ | ⟨x1, x2⟩
      · exact ⟨r + 1, Nat.le_refl _, x1, q, fun d' hd => wn_no (show d' ≤ r by omega) q0⟩
      · rcases wn_inv q with q1 | ⟨j, y1, y2, y3⟩
        · rw [q0] at q1; cases q1
        · exact absurd y3 (x2 j y1 y2)
    · obtain ⟨d, x1, x2⟩ := a q0
      exact ⟨d, by omega, x2⟩
  · intro q
    right
    have q0 := wn_no (show r ≤ r + 1 by omega) q
    rcases b q0 with ⟨x1, j, x2, x3, x4⟩ | ⟨x1, x2⟩
    · have h9 := wn_edge x2 x3
      rw [x4, q] at h9; cases h9
    · exact ⟨x1, fun j hj => absurd hj (by omega)⟩
/-- the first round in which i is met -/
noncomputable def fst (z : Nat → Bool) (nr aw : Nat → Nat) (N i : Nat) : Int32 := if fa_first (fun r => wn z nr aw N r i) 64 < 64 then nI (fa_first (fun r => wn z nr aw N r i) 64) else -6
theorem FI_end {n : Nat} {z : Nat → Bool} {nr aw : Nat → Nat} {N : Nat} {F : Nat → Int32} (h : FI n z nr aw N n 0 F) (hn : n ≤ 64) (hr : ∀ j, j < N → nr j < n ∧ aw j < n) : ∀ i, i < n → F i = fst z nr aw N i := by
  intro i hi
  obtain ⟨a, b⟩ := h i hi
  unfold fst
  cases q : wn z nr aw N n i
  · have e : fa_first (fun r => wn z nr aw N r i) 64 = 64 := first_is (Nat.le_refl _) (fun r _ => by
      cases q2 : wn z nr aw N r i
      · rfl
      · have h9 := wn_le (show n - 1 ≤ n by omega) (wn_near hr hi q2)
        rw [q] at h9; cases h9) (Or.inl rfl)
    rw [e, if_neg (by omega)]
    rcases b q with ⟨_, j, hj, _⟩ | ⟨e1, _⟩
    · omega
    · exact e1
  · obtain ⟨d, x1, x2, x3, x4⟩ := a q
    have hd : d ≤ n - 1 := by
      rcases Nat.lt_or_ge (n - 1) d with z1 | z1
      · have h9 := x4 (n - 1) z1
        rw [wn_near hr hi q] at h9; cases h9
      · exact z1
    have e : fa_first (fun r => wn z nr aw N r i) 64 = d := first_is (by omega) x4 (Or.inr x3)
    rw [e, if_pos (by omega)]
    exact x2
theorem rch_wn (x : Nat → Bool) (go : Nat → Nat) (base n : Nat) : ∀ r, rch x go base n r = wn x (fun j => j / base) go (n * base) r
  | 0 => rfl
  | r + 1 => by
    funext j
    show (rch x go base n r j || acc (rch x go base n r) go base (n * base) j) = (wn x (fun j => j / base) go (n * base) r j || dB (∃ i, i < n * base ∧ wn x (fun j => j / base) go (n * base) r (i / base) = true ∧ go i = j))
    rw [rch_wn x go base n r]
    rfl
theorem fst_fw {go : Nat → Nat} {base n i : Nat} (hi : i < 64) : fst (sg 0) (fun j => j / base) go (n * base) i = stp (sg 0) (sg i) go base n := by
  have e : (fun r => wn (sg 0) (fun j => j / base) go (n * base) r i) = fun r => dB (∃ j, j < 64 ∧ rch (sg 0) go base n r j = true ∧ sg i j = true) := by
    funext r
    rw [rch_wn]
    cases q : wn (sg 0) (fun j => j / base) go (n * base) r i
    · refine (dB_f ?_).symm
      rintro ⟨j, _, h1, h2⟩
      have h3 : j = i := of_decide_eq_true h2
      rw [h3, q] at h1; cases h1
    · exact (dB_t ⟨i, hi, q, by unfold sg; simp⟩).symm
  unfold fst stp
  rw [e]
theorem wn_one {go : Nat → Nat} {base N : Nat} : ∀ r i j, wn (sg i) (fun j => j / base) go N (r + 1) j = true ↔ (wn (sg i) (fun j => j / base) go N r j = true ∨ ∃ q, q < N ∧ q / base = i ∧ wn (sg (go q)) (fun j => j / base) go N r j = true) := by
  intro r
  induction r with
  | zero =>
    intro i j
    constructor
    · intro h
      rcases wn_inv h with h1 | ⟨q, h1, h2, h3⟩
      · exact Or.inl h1
      · exact Or.inr ⟨q, h1, of_decide_eq_true h2, by rw [h3]; show sg j j = true; unfold sg; simp⟩
    · rintro (h | ⟨q, h1, h2, h3⟩)
      · exact wn_up h
      · have h4 : j = go q := of_decide_eq_true h3
        rw [h4]
        refine wn_edge (nr := fun j => j / base) h1 ?_
        show sg i (q / base) = true
        unfold sg; simp [h2]
  | succ r ih =>
    intro i j
    constructor
    · intro h
      rcases wn_inv h with h1 | ⟨x, h1, h2, h3⟩
      · exact Or.inl h1
      · rcases (ih i (x / base)).mp h2 with h4 | ⟨q, h4, h5, h6⟩
        · left
          rw [← h3]
          exact wn_edge (nr := fun j => j / base) h1 h4
        · right
          refine ⟨q, h4, h5, ?_⟩
          rw [← h3]
          exact wn_edge (nr := fun j => j / base) h1 h6
    · rintro (h | ⟨q, h1, h2, h3⟩)
      · exact wn_up h
      · rcases wn_inv h3 with h4 | ⟨x, h4, h5, h6⟩
        · exact wn_up ((ih i j).mpr (Or.inr ⟨q, h1, h2, h4⟩))
        · rw [← h6]
          exact wn_edge (nr := fun j => j / base) h4 ((ih i (x / base)).mpr (Or.inr ⟨q, h1, h2, h5⟩))
theorem wn_bw {go : Nat → Nat} {y : Nat → Bool} {base N : Nat} (hy : ∀ i, y i = true → i < 64) : ∀ r i, wn y go (fun j => j / base) N r i = dB (∃ j, j < 64 ∧ wn (sg i) (fun j => j / base) go N r j = true ∧ y j = true) := by
  intro r
  induction r with
  | zero =>
    intro i
    cases q : wn y go (fun j => j / base) N 0 i
    · refine (dB_f ?_).symm
      rintro ⟨j, _, h1, h2⟩
      have h3 : j = i := of_decide_eq_true h1
      have q2 : y i = false := q
      rw [h3, q2] at h2; cases h2
    · exact (dB_t ⟨i, hy i q, by show sg i i = true; unfold sg; simp, q⟩).symm
  | succ r ih =>
    intro i
    cases q : wn y go (fun j => j / base) N (r + 1) i
    · refine (dB_f ?_).symm
      rintro ⟨j, h0, h1, h2⟩
      rcases (wn_one r i j).mp h1 with h3 | ⟨x, h3, h4, h5⟩
      · have h6 := ih i
        rw [dB_t ⟨j, h0, h3, h2⟩] at h6
        rw [wn_up h6] at q; cases q
      · have h6 := ih (go x)
        rw [dB_t ⟨j, h0, h5, h2⟩] at h6
        have h7 := wn_edge (aw := fun j => j / base) h3 h6
        have h8 : wn y go (fun j => j / base) N (r + 1) (x / base) = true := h7
        rw [h4, q] at h8; cases h8
    · refine (dB_t ?_).symm
      rcases wn_inv q with h1 | ⟨x, h1, h2, h3⟩
      · rw [ih i] at h1
        obtain ⟨j, a, b, d⟩ := dB_iff.mp h1
        exact ⟨j, a, wn_up b, d⟩
      · rw [ih (go x)] at h2
        obtain ⟨j, a, b, d⟩ := dB_iff.mp h2
        exact ⟨j, a, (wn_one r i j).mpr (Or.inr ⟨x, h1, h3, b⟩), d⟩
theorem fst_bw {go : Nat → Nat} {g : Nat → Bool} {base n i : Nat} (hn : n ≤ 64) : fst (gq g n) go (fun j => j / base) (n * base) i = stp (sg i) (gq g n) go base n := by
  have e : (fun r => wn (gq g n) go (fun j => j / base) (n * base) r i) = fun r => dB (∃ j, j < 64 ∧ rch (sg i) go base n r j = true ∧ gq g n j = true) := by
    funext r
    rw [rch_wn]
    refine wn_bw (fun i h => ?_) r i
    unfold gq at h
    rw [Bool.and_eq_true, decide_eq_true_eq] at h
    omega
  unfold fst stp
  rw [e]
set_option maxHeartbeats 4000000 in
set_option maxRecDepth 100000 in
theorem m_countUpTo (l : Launch) (D : va_G) (cy : Nat → ClassId) (L : List Nat) (f : Nat → va_E) (sz : Nat) (A : Nat → Nat) (base fr pb ns : Nat) (T P : Nat → Nat) (B : Nat → Nat → Bool) (rr : Nat → Bool) (G : Nat → Int32) (hA : MAd A) (hTP : TP T P) (x lo hi : Nat) (S : Nat → Bool) (hS : SetIs S (T x) (P x) (B x)) (hx : x < 84) (hlo : lo ≤ hi) (hhi : hi < 2147483648) (h_o : cel L f (A 0) (.inr (6, [.int (nI base), .ref (A 1), .ref (A 2), .ref (A 3), .ref (A 4), .int (nI fr), .int (nI pb), .ref (A 5), .int (nI ns), .ref (A 6), .ref (A 7), .ref (A 8)]))) (h_ts : cel L f (A 1) (.inl (cy 0, 84, .inl (fun k => nI (T k))))) (h_ps : cel L f (A 2) (.inl (cy 0, 84, .inl (fun k => nI (P k))))) (h_bs : cel L f (A 3) (.inl (cy 1, 252, .inr (.inl (rw3 B))))) : Met l yX6_countUpTo (.code yX6_countUpTo cX6_countUpTo 6 (Option.some FieldType.int) :: wsL_law) { frames := 1, cells := 0, slots := 0, locals := 25 } (va_Pc [.ref (A 0), .int (nI x), .int (nI lo), .int (nI hi)] (PW D cy L f sz)) (vp_Si (fun r => r = nI (fa_cnt S hi - fa_cnt S lo))) 0 0 (fun _ => False) := by
  refine m_start (by decide) (Nat.le_of_ble_eq_true rfl) ?_
  intro p e R Q s m args below meth c ls hsz hR hQ E hr hlk hnm hw hl
  have hl : lv_has ls 6 [(0, .ref (A 0)), (1, .int (nI x)), (2, .int (nI lo)), (3, .int (nI hi))] := hl
  refine lv_iconst (v := nI 0) E.1.1 E.1.2.1 dX6_countUpTo_0 rfl ?_
  refine k_top E (nI (fa_cnt S lo - fa_cnt S lo)) (by rw [Nat.sub_self]) ?_
  refine lv_istore (lv' := [(4, .int (nI (fa_cnt S lo - fa_cnt S lo))), (0, .ref (A 0)), (1, .int (nI x)), (2, .int (nI lo)), (3, .int (nI hi))]) E.1.1 E.1.2.1 dX6_countUpTo_1 hl (by decide) rfl (fun ls hl => ?_)
  refine lv_iload_n E.1.1 E.1.2.1 dX6_countUpTo_3 rfl (lv_at hl 3 rfl) ?_
  refine lv_istore (lv' := [(5, .int (nI lo)), (4, .int (nI (fa_cnt S lo - fa_cnt S lo))), (0, .ref (A 0)), (1, .int (nI x)), (2, .int (nI lo)), (3, .int (nI hi))]) E.1.1 E.1.2.1 dX6_countUpTo_4 hl (by decide) rfl (fun ls hl => ?_)
  have lp6 : ∀ (k : Nat) (i : Nat) (ls : Array Slot), (hi - i < k) → (lo ≤ i) → (i ≤ hi) → (lv_has ls 6 [(5, .int (nI i)), (4, .int (nI (fa_cnt S i - fa_cnt S lo))), (0, .ref (A 0)), (1, .int (nI x)), (2, .int (nI lo)), (3, .int (nI hi))]) → W p l e R s m args below meth c s.heap [] 0 0 Q (F0 m 6 ls []) := by
    intro k
    induction k with
    | zero => intro _ _ hk; exact absurd hk (Nat.not_lt_zero _)
    | succ k ih6 =>
      intro i  ls hk hi1 hi2 hl
      refine lv_iload E.1.1 E.1.2.1 dX6_countUpTo_6 (lv_at hl 0 rfl) ?_
      refine lv_iload_n E.1.1 E.1.2.1 dX6_countUpTo_8 rfl (lv_at hl 5 rfl) ?_
      refine k_ge (tgt := 38) E dX6_countUpTo_9 (by decide) (by omega) (by omega) (fun c9 => ?_) (fun c9 => ?_)
      · refine lv_iload E.1.1 E.1.2.1 dX6_countUpTo_38 (lv_at hl 1 rfl) ?_
        exact k_iret E hQ hlk hr (by rw [show hi = i by omega]) dX6_countUpTo_40
      · have hmn := cnt_mono S hi1
        have hcl := fa_cnt_le S i
        refine lv_iload E.1.1 E.1.2.1 dX6_countUpTo_12 (lv_at hl 1 rfl) ?_
        refine lv_aload_n E.1.1 E.1.2.1 dX6_countUpTo_14 rfl (lv_at hl 2 rfl) ?_
        refine lv_iload_n E.1.1 E.1.2.1 dX6_countUpTo_15 rfl (lv_at hl 3 rfl) ?_
        refine lv_iload E.1.1 E.1.2.1 dX6_countUpTo_16 (lv_at hl 0 rfl) ?_
        refine k_ri (va_runV (As := [.int (nI x), .int (nI i)]) (rest := [.int (nI (fa_cnt S i - fa_cnt S lo))]) E.1 (m_isInS l D cy L f s.heap.size A base fr pb ns T P B rr G hA hTP x i S hS hx (by omega) h_o h_ts h_ps h_bs) ⟨callB_of 2 E.1.2.2.2.2 (gd_own w3_79) rfl rfl rfl (E.1.2.2.2.2 _ w1_10) (E.1.2.2.2.2 _ w3_76) hd_X6_isIn (by rw [hR]; exact ⟨Nat.le_of_ble_eq_true rfl, Nat.le_of_ble_eq_true rfl⟩), E.1.2.2.2.2 _ w3_78, E.1.2.2.2.2 _ ws_33⟩ (pw_preV (q := (RX6, TX6, 12)) E.2 hw h_o rfl) rfl rfl hl.1 rfl (lv_room (Nat.le_of_ble_eq_true rfl)) dX6_countUpTo_18 ⟨Nat.zero_le _, Nat.zero_le _⟩) ?_
        refine k_if0 (tgt := 28) E dX6_countUpTo_21 (by decide) (fun c21 => ?_) (fun c21 => ?_)
        · refine lv_iconst (v := nI 0) E.1.1 E.1.2.1 dX6_countUpTo_28 rfl ?_
          refine k_add E dX6_countUpTo_29 ?_
          refine lv_istore (lv' := [(4, .int (nI ((fa_cnt S i - fa_cnt S lo) + 0))), (5, .int (nI i)), (0, .ref (A 0)), (1, .int (nI x)), (2, .int (nI lo)), (3, .int (nI hi))]) E.1.1 E.1.2.1 dX6_countUpTo_30 hl (by decide) rfl (fun ls hl => ?_)
          refine lv_iinc (v := nI (i + 1)) (lv' := [(5, .int (nI (i + 1))), (4, .int (nI ((fa_cnt S i - fa_cnt S lo) + 0))), (0, .ref (A 0)), (1, .int (nI x)), (2, .int (nI lo)), (3, .int (nI hi))]) E.1.1 E.1.2.1 dX6_countUpTo_32 hl (k := 1) rfl (nI_1 _) (by decide) rfl (fun ls hl => ?_)
          refine lv_goto (tgt := 6) E.1.1 E.1.2.1 dX6_countUpTo_35 (by decide) ?_
          rw [show fa_cnt S i - fa_cnt S lo + 0 = fa_cnt S (i + 1) - fa_cnt S lo by rw [fa_cnt_no c21, Nat.add_zero]] at hl
          exact ih6  (i + 1) ls (by omega) (by omega) (by omega)  (lv_sub hl [0, 1, 2, 3, 4, 5] rfl)
        · refine lv_iconst (v := nI 1) E.1.1 E.1.2.1 dX6_countUpTo_24 rfl ?_
          refine lv_goto (tgt := 29) E.1.1 E.1.2.1 dX6_countUpTo_25 (by decide) ?_
          refine k_add E dX6_countUpTo_29 ?_
          refine lv_istore (lv' := [(4, .int (nI ((fa_cnt S i - fa_cnt S lo) + 1))), (5, .int (nI i)), (0, .ref (A 0)), (1, .int (nI x)), (2, .int (nI lo)), (3, .int (nI hi))]) E.1.1 E.1.2.1 dX6_countUpTo_30 hl (by decide) rfl (fun ls hl => ?_)
          refine lv_iinc (v := nI (i + 1)) (lv' := [(5, .int (nI (i + 1))), (4, .int (nI ((fa_cnt S i - fa_cnt S lo) + 1))), (0, .ref (A 0)), (1, .int (nI x)), (2, .int (nI lo)), (3, .int (nI hi))]) E.1.1 E.1.2.1 dX6_countUpTo_32 hl (k := 1) rfl (nI_1 _) (by decide) rfl (fun ls hl => ?_)
          refine lv_goto (tgt := 6) E.1.1 E.1.2.1 dX6_countUpTo_35 (by decide) ?_
          rw [show fa_cnt S i - fa_cnt S lo + 1 = fa_cnt S (i + 1) - fa_cnt S lo by rw [fa_cnt_yes c21]; omega] at hl
          exact ih6  (i + 1) ls (by omega) (by omega) (by omega)  (lv_sub hl [0, 1, 2, 3, 4, 5] rfl)
  exact lp6 (hi - lo + 1) lo ls (Nat.lt_succ_self _) (by omega) (by omega)  (lv_sub hl [0, 1, 2, 3, 4, 5] rfl)

set_option maxHeartbeats 4000000 in
set_option maxRecDepth 100000 in
theorem m_isGood (l : Launch) (D : va_G) (cy : Nat → ClassId) (L : List Nat) (f : Nat → va_E) (sz : Nat) (A : Nat → Nat) (base fr pb ns : Nat) (T P : Nat → Nat) (B : Nat → Nat → Bool) (rr : Nat → Bool) (G : Nat → Int32) (hA : MAd A) (hTP : TP T P) (i : Nat) (S : Nat → Bool) (hS : SetIs S (T (18 + i)) (P (18 + i)) (B (18 + i))) (hi : i < 66) (h_o : cel L f (A 0) (.inr (6, [.int (nI base), .ref (A 1), .ref (A 2), .ref (A 3), .ref (A 4), .int (nI fr), .int (nI pb), .ref (A 5), .int (nI ns), .ref (A 6), .ref (A 7), .ref (A 8)]))) (h_ts : cel L f (A 1) (.inl (cy 0, 84, .inl (fun k => nI (T k))))) (h_ps : cel L f (A 2) (.inl (cy 0, 84, .inl (fun k => nI (P k))))) (h_bs : cel L f (A 3) (.inl (cy 1, 252, .inr (.inl (rw3 B))))) : Met l yX6_isGood (.code yX6_isGood cX6_isGood 2 (Option.some FieldType.boolean) :: wsL_law) { frames := 1, cells := 0, slots := 0, locals := 25 } (va_Pc [.ref (A 0), .int (nI i)] (PW D cy L f sz)) (vp_Si (fun r => r = b2i (S 0))) 0 0 (fun _ => False) := by
  refine m_start (by decide) (Nat.le_of_ble_eq_true rfl) ?_
  intro p e R Q s m args below meth c ls hsz hR hQ E hr hlk hnm hw hl
  have hl : lv_has ls 2 [(0, .ref (A 0)), (1, .int (nI i))] := hl
  refine lv_aload_n E.1.1 E.1.2.1 dX6_isGood_0 rfl (lv_at hl 0 rfl) ?_
  refine lv_bipush (v := nI 18) E.1.1 E.1.2.1 dX6_isGood_1 rfl ?_
  refine lv_iload_n E.1.1 E.1.2.1 dX6_isGood_3 rfl (lv_at hl 1 rfl) ?_
  refine k_add E dX6_isGood_4 ?_
  refine lv_iconst (v := nI 0) E.1.1 E.1.2.1 dX6_isGood_5 rfl ?_
  refine k_ri (va_runV (As := [.int (nI (18 + i)), .int (nI 0)]) (rest := []) E.1 (m_isInS l D cy L f s.heap.size A base fr pb ns T P B rr G hA hTP (18 + i) 0 S hS (by omega) (by decide) h_o h_ts h_ps h_bs) ⟨callB_of 2 E.1.2.2.2.2 (gd_own w3_79) rfl rfl rfl (E.1.2.2.2.2 _ w1_10) (E.1.2.2.2.2 _ w3_76) hd_X6_isIn (by rw [hR]; exact ⟨Nat.le_of_ble_eq_true rfl, Nat.le_of_ble_eq_true rfl⟩), E.1.2.2.2.2 _ w3_78, E.1.2.2.2.2 _ ws_33⟩ (pw_preV (q := (RX6, TX6, 12)) E.2 hw h_o rfl) rfl rfl hl.1 rfl (lv_room (Nat.le_of_ble_eq_true rfl)) dX6_isGood_6 ⟨Nat.zero_le _, Nat.zero_le _⟩) ?_
  exact k_zret E hQ hlk hr (rfl) dX6_isGood_9

set_option maxHeartbeats 4000000 in
set_option maxRecDepth 100000 in
theorem m_layFar0 (l : Launch) (D : va_G) (cy : Nat → ClassId) (L : List Nat) (f0 : Nat → va_E) (sz : Nat) (A : Nat → Nat) (base fr pb ns : Nat) (T P : Nat → Nat) (B : Nat → Nat → Bool) (rr : Nat → Bool) (G : Nat → Int32) (hA : MAd A) (hTP : TP T P) (S : Nat → Bool) (Fz : Nat → Int32) (hb0 : 0 < base) (hb5 : base ≤ 5) (hM : MchOf S base ns) (hMI : MI S base (ns * base) ns T P B G) (h_o : cel L f0 (A 0) (.inr (6, [.int (nI base), .ref (A 1), .ref (A 2), .ref (A 3), .ref (A 4), .int (nI fr), .int (nI pb), .ref (A 5), .int (nI ns), .ref (A 6), .ref (A 7), .ref (A 8)]))) (h_ts : cel L f0 (A 1) (.inl (cy 0, 84, .inl (fun k => nI (T k))))) (h_ps : cel L f0 (A 2) (.inl (cy 0, 84, .inl (fun k => nI (P k))))) (h_bs : cel L f0 (A 3) (.inl (cy 1, 252, .inr (.inl (rw3 B))))) (h_gs : cel L f0 (A 5) (.inl (cy 0, 325, .inl G))) (h_fa : cel L f0 (A 6) (.inl (cy 0, 65, .inl Fz))) : Met l yX6_layFar (.code yX6_layFar cX6_layFar 8 none :: wsL_law) { frames := 0, cells := 0, slots := 0, locals := 0 } (va_Pc [.ref (A 0), .int (b2i false)] (PW D cy L f0 sz)) (va_Qv (fun u : List Nat × (Nat → va_E) => L = u.1 ∧ (∀ b ∈ L, b ≠ A 6 → u.2 b = f0 b) ∧ ∃ F2, cel L u.2 (A 6) (.inl (cy 0, 65, .inl F2)) ∧ ∀ i, i < ns → F2 i = stp (sg 0) (sg i) (trn S base (ns * base)).2.2 base ns) (PB D (AW L sz)) (AW L sz)) 0 0 (AW L sz) := by
  refine m_start (by decide) (Nat.le_of_ble_eq_true rfl) ?_
  intro p e R Q s m args below meth c ls hsz hR hQ E hr hlk hnm hw hl
  have hl : lv_has ls 8 [(0, .ref (A 0)), (1, .int (b2i false))] := hl
  obtain ⟨H, hH⟩ : ∃ X, X = s.heap := ⟨_, rfl⟩
  obtain ⟨locs, hlocs⟩ : ∃ X : List Loc, X = [] := ⟨_, rfl⟩
  have hw0 := hw
  obtain ⟨f, hf0⟩ : ∃ X, X = f0 := ⟨_, rfl⟩
  rw [← hf0] at h_o h_ts h_ps h_bs h_gs h_fa
  have hw : WW D (AW L sz) s.heap L f H locs := by rw [hH, hlocs, hf0]; exact hw
  have hF : ∀ b ∈ L, b ≠ (A 6) → f b = f0 b := fun b hb h0 => by rw [hf0]
  suffices hgo : W p l e R s m args below meth c H locs 0 0 Q (F0 m 0 ls []) by rw [hH, hlocs] at hgo; exact hgo
  clear hH hlocs hw0 hf0
  have hLs : ∀ b ∈ L, b ∈ L := fun _ h => h
  have n_o_ts : A 0 ≠ A 1 := hA.ne (by decide) (by decide) (by decide)
  have n_o_ps : A 0 ≠ A 2 := hA.ne (by decide) (by decide) (by decide)
  have n_o_bs : A 0 ≠ A 3 := hA.ne (by decide) (by decide) (by decide)
  have n_o_gs : A 0 ≠ A 5 := hA.ne (by decide) (by decide) (by decide)
  have n_o_fa : A 0 ≠ A 6 := hA.ne (by decide) (by decide) (by decide)
  have n_ts_ps : A 1 ≠ A 2 := hA.ne (by decide) (by decide) (by decide)
  have n_ts_bs : A 1 ≠ A 3 := hA.ne (by decide) (by decide) (by decide)
  have n_ts_gs : A 1 ≠ A 5 := hA.ne (by decide) (by decide) (by decide)
  have n_ts_fa : A 1 ≠ A 6 := hA.ne (by decide) (by decide) (by decide)
  have n_ps_bs : A 2 ≠ A 3 := hA.ne (by decide) (by decide) (by decide)
  have n_ps_gs : A 2 ≠ A 5 := hA.ne (by decide) (by decide) (by decide)
  have n_ps_fa : A 2 ≠ A 6 := hA.ne (by decide) (by decide) (by decide)
  have n_bs_gs : A 3 ≠ A 5 := hA.ne (by decide) (by decide) (by decide)
  have n_bs_fa : A 3 ≠ A 6 := hA.ne (by decide) (by decide) (by decide)
  have n_gs_fa : A 5 ≠ A 6 := hA.ne (by decide) (by decide) (by decide)
  have hns := hM.2.2
  have hbb : ns * base ≤ 320 := by have := Nat.mul_le_mul hns hb5; omega
  have hedge : ∀ j, j < ns * base → (fun j => j / base) j < ns ∧ (trn S base (ns * base)).2.2 j < ns := fun j hj => ⟨(Nat.div_lt_iff_lt_mul hb0).mpr hj, hM.go j hj⟩
  refine lv_iconst (v := nI 0) E.1.1 E.1.2.1 dX6_layFar_0 rfl ?_
  refine lv_istore_n (lv' := [(2, .int (nI 0)), (0, .ref (A 0)), (1, .int (b2i false))]) E.1.1 E.1.2.1 dX6_layFar_1 rfl hl (by decide) rfl (fun ls hl => ?_)
  have lp2 : ∀ (k : Nat) (i : Nat) (F1 : Nat → Int32) (f : Nat → va_E) (H : Heap) (locs : List Loc) (ls : Array Slot), (ns - i < k) → (i ≤ ns) → (∀ x, x < i → F1 x = if (sg 0) x then nI 0 else -6) → (cel L f (A 0) (.inr (6, [.int (nI base), .ref (A 1), .ref (A 2), .ref (A 3), .ref (A 4), .int (nI fr), .int (nI pb), .ref (A 5), .int (nI ns), .ref (A 6), .ref (A 7), .ref (A 8)]))) → (cel L f (A 1) (.inl (cy 0, 84, .inl (fun k => nI (T k))))) → (cel L f (A 2) (.inl (cy 0, 84, .inl (fun k => nI (P k))))) → (cel L f (A 3) (.inl (cy 1, 252, .inr (.inl (rw3 B))))) → (cel L f (A 5) (.inl (cy 0, 325, .inl G))) → (cel L f (A 6) (.inl (cy 0, 65, .inl F1))) → (∀ b ∈ L, b ≠ (A 6) → f b = f0 b) → (WW D (AW L sz) s.heap L f H locs) → (lv_has ls 8 [(2, .int (nI i)), (0, .ref (A 0)), (1, .int (b2i false))]) → W p l e R s m args below meth c H locs 0 0 Q (F0 m 2 ls []) := by
    intro k
    induction k with
    | zero => intro _ _ _ _ _ _ hk; exact absurd hk (Nat.not_lt_zero _)
    | succ k ih2 =>
      intro i F1 f H locs ls hk hi hg h_o h_ts h_ps h_bs h_gs h_fa hF hw hl
      refine lv_iload_n E.1.1 E.1.2.1 dX6_layFar_2 rfl (lv_at hl 0 rfl) ?_
      refine lv_aload_n E.1.1 E.1.2.1 dX6_layFar_3 rfl (lv_at hl 1 rfl) ?_
      refine k_get (v := .int (nI ns)) E inlX6 rfl 8 (by decide) w3_0 rfl hw h_o rfl dX6_layFar_4 ?_
      refine k_ge (tgt := 47) E dX6_layFar_7 (by decide) (by omega) (by omega) (fun c7 => ?_) (fun c7 => ?_)
      · refine lv_iconst (v := nI 0) E.1.1 E.1.2.1 dX6_layFar_47 rfl ?_
        refine lv_istore_n (lv' := [(2, .int (nI 0)), (0, .ref (A 0)), (1, .int (b2i false))]) E.1.1 E.1.2.1 dX6_layFar_48 rfl hl (by decide) rfl (fun ls hl => ?_)
        have lp49 : ∀ (k : Nat) (r0 : Nat) (F1 : Nat → Int32) (f : Nat → va_E) (H : Heap) (locs : List Loc) (ls : Array Slot), (ns - r0 < k) → (r0 ≤ ns) → (FI ns (sg 0) (fun j => j / base) (trn S base (ns * base)).2.2 (ns * base) r0 0 F1) → (cel L f (A 0) (.inr (6, [.int (nI base), .ref (A 1), .ref (A 2), .ref (A 3), .ref (A 4), .int (nI fr), .int (nI pb), .ref (A 5), .int (nI ns), .ref (A 6), .ref (A 7), .ref (A 8)]))) → (cel L f (A 1) (.inl (cy 0, 84, .inl (fun k => nI (T k))))) → (cel L f (A 2) (.inl (cy 0, 84, .inl (fun k => nI (P k))))) → (cel L f (A 3) (.inl (cy 1, 252, .inr (.inl (rw3 B))))) → (cel L f (A 5) (.inl (cy 0, 325, .inl G))) → (cel L f (A 6) (.inl (cy 0, 65, .inl F1))) → (∀ b ∈ L, b ≠ (A 6) → f b = f0 b) → (WW D (AW L sz) s.heap L f H locs) → (lv_has ls 8 [(2, .int (nI r0)), (0, .ref (A 0)), (1, .int (b2i false))]) → W p l e R s m args below meth c H locs 0 0 Q (F0 m 49 ls []) := by
          intro k
          induction k with
          | zero => intro _ _ _ _ _ _ hk; exact absurd hk (Nat.not_lt_zero _)
          | succ k ih49 =>
            intro r0 F1 f H locs ls hk hr0 hFI h_o h_ts h_ps h_bs h_gs h_fa hF hw hl
            refine lv_iload_n E.1.1 E.1.2.1 dX6_layFar_49 rfl (lv_at hl 0 rfl) ?_
            refine lv_aload_n E.1.1 E.1.2.1 dX6_layFar_50 rfl (lv_at hl 1 rfl) ?_
            refine k_get (v := .int (nI ns)) E inlX6 rfl 8 (by decide) w3_0 rfl hw h_o rfl dX6_layFar_51 ?_
            refine k_ge (tgt := 167) E dX6_layFar_54 (by decide) (by omega) (by omega) (fun c54 => ?_) (fun c54 => ?_)
            · exact k_mvret E hQ hlk hr hw (Nat.le_of_ble_eq_true rfl) (Nat.le_of_ble_eq_true rfl) (⟨rfl, hF, F1, h_fa, fun i hi => (FI_end (by rw [show r0 = ns by omega] at hFI; exact hFI) hns hedge i hi).trans (fst_fw (by omega))⟩) dX6_layFar_167
            · refine lv_iconst (v := nI 0) E.1.1 E.1.2.1 dX6_layFar_57 rfl ?_
              refine lv_istore_n (lv' := [(3, .int (nI 0)), (2, .int (nI r0)), (0, .ref (A 0)), (1, .int (b2i false))]) E.1.1 E.1.2.1 dX6_layFar_58 rfl hl (by decide) rfl (fun ls hl => ?_)
              have lp59 : ∀ (k : Nat) (K0 : Nat) (F1 : Nat → Int32) (f : Nat → va_E) (H : Heap) (locs : List Loc) (ls : Array Slot), (ns * base - K0 < k) → (K0 ≤ ns * base) → (FI ns (sg 0) (fun j => j / base) (trn S base (ns * base)).2.2 (ns * base) r0 K0 F1) → (cel L f (A 0) (.inr (6, [.int (nI base), .ref (A 1), .ref (A 2), .ref (A 3), .ref (A 4), .int (nI fr), .int (nI pb), .ref (A 5), .int (nI ns), .ref (A 6), .ref (A 7), .ref (A 8)]))) → (cel L f (A 1) (.inl (cy 0, 84, .inl (fun k => nI (T k))))) → (cel L f (A 2) (.inl (cy 0, 84, .inl (fun k => nI (P k))))) → (cel L f (A 3) (.inl (cy 1, 252, .inr (.inl (rw3 B))))) → (cel L f (A 5) (.inl (cy 0, 325, .inl G))) → (cel L f (A 6) (.inl (cy 0, 65, .inl F1))) → (∀ b ∈ L, b ≠ (A 6) → f b = f0 b) → (WW D (AW L sz) s.heap L f H locs) → (lv_has ls 8 [(3, .int (nI K0)), (2, .int (nI r0)), (0, .ref (A 0)), (1, .int (b2i false))]) → W p l e R s m args below meth c H locs 0 0 Q (F0 m 59 ls []) := by
                intro k
                induction k with
                | zero => intro _ _ _ _ _ _ hk; exact absurd hk (Nat.not_lt_zero _)
                | succ k ih59 =>
                  intro K0 F1 f H locs ls hk hK0 hFI2 h_o h_ts h_ps h_bs h_gs h_fa hF hw hl
                  refine lv_iload_n E.1.1 E.1.2.1 dX6_layFar_59 rfl (lv_at hl 0 rfl) ?_
                  refine lv_aload_n E.1.1 E.1.2.1 dX6_layFar_60 rfl (lv_at hl 2 rfl) ?_
                  refine k_get (v := .int (nI ns)) E inlX6 rfl 8 (by decide) w3_0 rfl hw h_o rfl dX6_layFar_61 ?_
                  refine lv_aload_n E.1.1 E.1.2.1 dX6_layFar_64 rfl (lv_at hl 2 rfl) ?_
                  refine k_get (v := .int (nI base)) E inlX6 rfl 0 (by decide) w2_232 rfl hw h_o rfl dX6_layFar_65 ?_
                  refine k_mul E dX6_layFar_68 ?_
                  refine k_ge (tgt := 161) E dX6_layFar_69 (by decide) (by omega) (by omega) (fun c69 => ?_) (fun c69 => ?_)
                  · refine lv_iinc (v := nI (r0 + 1)) (lv' := [(2, .int (nI (r0 + 1))), (3, .int (nI K0)), (0, .ref (A 0)), (1, .int (b2i false))]) E.1.1 E.1.2.1 dX6_layFar_161 hl (k := 1) rfl (nI_1 _) (by decide) rfl (fun ls hl => ?_)
                    refine lv_goto (tgt := 49) E.1.1 E.1.2.1 dX6_layFar_164 (by decide) ?_
                    exact ih49  (r0 + 1) F1 f H locs ls (by omega) (by omega) (FI_round (by rw [show K0 = ns * base by omega] at hFI2; exact hFI2)) h_o h_ts h_ps h_bs h_gs h_fa hF hw (lv_sub hl [0, 2, 3] rfl)
                  · have hd1 : K0 / base < ns := (Nat.div_lt_iff_lt_mul hb0).mpr (by omega)
                    have hd2 := Nat.mod_lt K0 hb0
                    have hd3 := hM.go K0 (by omega)
                    refine lv_iload_n E.1.1 E.1.2.1 dX6_layFar_72 rfl (lv_at hl 0 rfl) ?_
                    refine lv_aload_n E.1.1 E.1.2.1 dX6_layFar_73 rfl (lv_at hl 2 rfl) ?_
                    refine k_get (v := .int (nI base)) E inlX6 rfl 0 (by decide) w2_232 rfl hw h_o rfl dX6_layFar_74 ?_
                    refine k_div E dX6_layFar_77 (by omega) (by omega) (by omega) ?_
                    refine lv_istore (lv' := [(4, .int (nI (K0 / base))), (3, .int (nI K0)), (2, .int (nI r0)), (0, .ref (A 0)), (1, .int (b2i false))]) E.1.1 E.1.2.1 dX6_layFar_78 hl (by decide) rfl (fun ls hl => ?_)
                    refine lv_aload_n E.1.1 E.1.2.1 dX6_layFar_80 rfl (lv_at hl 3 rfl) ?_
                    refine k_get (v := .ref (A 5)) E inlX6 rfl 7 (by decide) w2_239 rfl hw h_o rfl dX6_layFar_81 ?_
                    refine lv_iconst (v := nI 5) E.1.1 E.1.2.1 dX6_layFar_84 rfl ?_
                    refine lv_iload E.1.1 E.1.2.1 dX6_layFar_85 (lv_at hl 0 rfl) ?_
                    refine k_mul E dX6_layFar_87 ?_
                    refine lv_iload_n E.1.1 E.1.2.1 dX6_layFar_88 rfl (lv_at hl 1 rfl) ?_
                    refine lv_aload_n E.1.1 E.1.2.1 dX6_layFar_89 rfl (lv_at hl 3 rfl) ?_
                    refine k_get (v := .int (nI base)) E inlX6 rfl 0 (by decide) w2_232 rfl hw h_o rfl dX6_layFar_90 ?_
                    refine k_rem E dX6_layFar_93 (by omega) (by omega) (by omega) ?_
                    refine k_add E dX6_layFar_94 ?_
                    refine k_iald E hw (v := nI ((trn S base (ns * base)).2.2 K0)) h_gs (by omega) (by omega) (hMI.2.2.1 K0 (by omega)) dX6_layFar_95 ?_
                    refine lv_istore (lv' := [(5, .int (nI ((trn S base (ns * base)).2.2 K0))), (4, .int (nI (K0 / base))), (3, .int (nI K0)), (2, .int (nI r0)), (0, .ref (A 0)), (1, .int (b2i false))]) E.1.1 E.1.2.1 dX6_layFar_96 hl (by decide) rfl (fun ls hl => ?_)
                    refine lv_iload_n E.1.1 E.1.2.1 dX6_layFar_98 rfl (lv_at hl 5 rfl) ?_
                    refine k_if0 (tgt := 107) E dX6_layFar_99 (by decide) (fun c99 => ?_) (fun c99 => absurd c99 (by decide))
                    refine lv_iload E.1.1 E.1.2.1 dX6_layFar_107 (lv_at hl 1 rfl) ?_
                    refine lv_istore (lv' := [(6, .int (nI (K0 / base))), (5, .int (nI ((trn S base (ns * base)).2.2 K0))), (4, .int (nI (K0 / base))), (3, .int (nI K0)), (2, .int (nI r0)), (0, .ref (A 0)), (1, .int (b2i false))]) E.1.1 E.1.2.1 dX6_layFar_109 hl (by decide) rfl (fun ls hl => ?_)
                    refine lv_iload_n E.1.1 E.1.2.1 dX6_layFar_111 rfl (lv_at hl 6 rfl) ?_
                    refine k_if0 (tgt := 120) E dX6_layFar_112 (by decide) (fun c112 => ?_) (fun c112 => absurd c112 (by decide))
                    refine lv_iload E.1.1 E.1.2.1 dX6_layFar_120 (lv_at hl 1 rfl) ?_
                    refine lv_istore (lv' := [(7, .int (nI ((trn S base (ns * base)).2.2 K0))), (6, .int (nI (K0 / base))), (5, .int (nI ((trn S base (ns * base)).2.2 K0))), (4, .int (nI (K0 / base))), (3, .int (nI K0)), (2, .int (nI r0)), (0, .ref (A 0)), (1, .int (b2i false))]) E.1.1 E.1.2.1 dX6_layFar_122 hl (by decide) rfl (fun ls hl => ?_)
                    refine lv_aload_n E.1.1 E.1.2.1 dX6_layFar_124 rfl (lv_at hl 6 rfl) ?_
                    refine k_get (v := .ref (A 6)) E inlX6 rfl 9 (by decide) w3_1 rfl hw h_o rfl dX6_layFar_125 ?_
                    refine lv_iload E.1.1 E.1.2.1 dX6_layFar_128 (lv_at hl 1 rfl) ?_
                    refine k_iald E hw (v := F1 (K0 / base)) h_fa (by omega) (by omega) (rfl) dX6_layFar_130 ?_
                    refine lv_iload_n E.1.1 E.1.2.1 dX6_layFar_131 rfl (lv_at hl 5 rfl) ?_
                    refine lv_icmp_ne (tgt := 155) E.1.1 E.1.2.1 dX6_layFar_132 (by decide) (fun c132 => ?_) (fun c132 => ?_)
                    · refine lv_iinc (v := nI (K0 + 1)) (lv' := [(3, .int (nI (K0 + 1))), (7, .int (nI ((trn S base (ns * base)).2.2 K0))), (6, .int (nI (K0 / base))), (5, .int (nI ((trn S base (ns * base)).2.2 K0))), (4, .int (nI (K0 / base))), (2, .int (nI r0)), (0, .ref (A 0)), (1, .int (b2i false))]) E.1.1 E.1.2.1 dX6_layFar_155 hl (k := 4) rfl (nI_1 _) (by decide) rfl (fun ls hl => ?_)
                      refine lv_goto (tgt := 59) E.1.1 E.1.2.1 dX6_layFar_158 (by decide) ?_
                      have hFI3 := FI_skip hFI2 (by omega) (hedge K0 (by omega)).1 c132
                      exact ih59  (K0 + 1) F1 f H locs ls (by omega) (by omega) (hFI3) h_o h_ts h_ps h_bs h_gs h_fa hF hw (lv_sub hl [0, 5, 6, 7] rfl)
                    · refine lv_aload_n E.1.1 E.1.2.1 dX6_layFar_135 rfl (lv_at hl 6 rfl) ?_
                      refine k_get (v := .ref (A 6)) E inlX6 rfl 9 (by decide) w3_1 rfl hw h_o rfl dX6_layFar_136 ?_
                      refine lv_iload E.1.1 E.1.2.1 dX6_layFar_139 (lv_at hl 0 rfl) ?_
                      refine k_iald E hw (v := F1 ((trn S base (ns * base)).2.2 K0)) h_fa (by omega) (by omega) (rfl) dX6_layFar_141 ?_
                      refine lv_if_ge (tgt := 155) E.1.1 E.1.2.1 dX6_layFar_142 (by decide) (fun c142 => ?_) (fun c142 => ?_)
                      · refine lv_iinc (v := nI (K0 + 1)) (lv' := [(3, .int (nI (K0 + 1))), (7, .int (nI ((trn S base (ns * base)).2.2 K0))), (6, .int (nI (K0 / base))), (5, .int (nI ((trn S base (ns * base)).2.2 K0))), (4, .int (nI (K0 / base))), (2, .int (nI r0)), (0, .ref (A 0)), (1, .int (b2i false))]) E.1.1 E.1.2.1 dX6_layFar_155 hl (k := 4) rfl (nI_1 _) (by decide) rfl (fun ls hl => ?_)
                        refine lv_goto (tgt := 59) E.1.1 E.1.2.1 dX6_layFar_158 (by decide) ?_
                        have hFI3 := FI_old hFI2 c142
                        exact ih59  (K0 + 1) F1 f H locs ls (by omega) (by omega) (hFI3) h_o h_ts h_ps h_bs h_gs h_fa hF hw (lv_sub hl [0, 5, 6, 7] rfl)
                      · refine lv_aload_n E.1.1 E.1.2.1 dX6_layFar_145 rfl (lv_at hl 6 rfl) ?_
                        refine k_get (v := .ref (A 6)) E inlX6 rfl 9 (by decide) w3_1 rfl hw h_o rfl dX6_layFar_146 ?_
                        refine lv_iload E.1.1 E.1.2.1 dX6_layFar_149 (lv_at hl 0 rfl) ?_
                        refine lv_iload_n E.1.1 E.1.2.1 dX6_layFar_151 rfl (lv_at hl 5 rfl) ?_
                        refine lv_iconst (v := nI 1) E.1.1 E.1.2.1 dX6_layFar_152 rfl ?_
                        refine k_add E dX6_layFar_153 ?_
                        refine k_iast E hw (fun k => if k = (trn S base (ns * base)).2.2 K0 then nI (r0 + 1) else F1 k) h_fa (by omega) (by omega) (fun _ _ => rfl) dX6_layFar_154 (fun f H locs h_fa hfr hw => ?_)
                        have h_o := h_o.kp hfr n_o_fa
                        have h_ts := h_ts.kp hfr n_ts_fa
                        have h_ps := h_ps.kp hfr n_ps_fa
                        have h_bs := h_bs.kp hfr n_bs_fa
                        have h_gs := h_gs.kp hfr n_gs_fa
                        have hF : ∀ b ∈ L, b ≠ (A 6) → f b = f0 b := fun b hb h0 => (hfr b h0).trans (hF b hb h0)
                        refine lv_iinc (v := nI (K0 + 1)) (lv' := [(3, .int (nI (K0 + 1))), (7, .int (nI ((trn S base (ns * base)).2.2 K0))), (6, .int (nI (K0 / base))), (5, .int (nI ((trn S base (ns * base)).2.2 K0))), (4, .int (nI (K0 / base))), (2, .int (nI r0)), (0, .ref (A 0)), (1, .int (b2i false))]) E.1.1 E.1.2.1 dX6_layFar_155 hl (k := 4) rfl (nI_1 _) (by decide) rfl (fun ls hl => ?_)
                        refine lv_goto (tgt := 59) E.1.1 E.1.2.1 dX6_layFar_158 (by decide) ?_
                        have hFI3 := FI_set hFI2 (by omega) (hedge K0 (by omega)).1 (hedge K0 (by omega)).2 c132 c142
                        exact ih59  (K0 + 1) (fun k => if k = (trn S base (ns * base)).2.2 K0 then nI (r0 + 1) else F1 k) f H locs ls (by omega) (by omega) (hFI3) h_o h_ts h_ps h_bs h_gs h_fa hF hw (lv_sub hl [0, 5, 6, 7] rfl)
              exact lp59 (ns * base - 0 + 1) 0 F1 f H locs ls (Nat.lt_succ_self _) (by omega) (hFI) h_o h_ts h_ps h_bs h_gs h_fa hF hw (lv_sub hl [0, 1, 2, 3] rfl)
        exact lp49 (ns - 0 + 1) 0 F1 f H locs ls (Nat.lt_succ_self _) (by omega) (FI_0 (fun x hx => hg x (by omega))) h_o h_ts h_ps h_bs h_gs h_fa hF hw (lv_sub hl [0, 1, 2] rfl)
      · refine lv_aload_n E.1.1 E.1.2.1 dX6_layFar_10 rfl (lv_at hl 1 rfl) ?_
        refine k_get (v := .ref (A 6)) E inlX6 rfl 9 (by decide) w3_1 rfl hw h_o rfl dX6_layFar_11 ?_
        refine lv_iload_n E.1.1 E.1.2.1 dX6_layFar_14 rfl (lv_at hl 0 rfl) ?_
        refine lv_iload_n E.1.1 E.1.2.1 dX6_layFar_15 rfl (lv_at hl 2 rfl) ?_
        refine k_if0 (tgt := 30) E dX6_layFar_16 (by decide) (fun c16 => ?_) (fun c16 => absurd c16 (by decide))
        refine lv_iload_n E.1.1 E.1.2.1 dX6_layFar_30 rfl (lv_at hl 0 rfl) ?_
        refine k_z1 (tgt := 38) E dX6_layFar_31 (by decide) (by omega) (fun c31 => ?_) (fun c31 => ?_)
        · refine lv_bipush (v := -6) E.1.1 E.1.2.1 dX6_layFar_38 rfl ?_
          refine k_iast E hw (fun k => if k = i then (-6) else F1 k) h_fa (by omega) (by omega) (fun _ _ => rfl) dX6_layFar_40 (fun f H locs h_fa hfr hw => ?_)
          have h_o := h_o.kp hfr n_o_fa
          have h_ts := h_ts.kp hfr n_ts_fa
          have h_ps := h_ps.kp hfr n_ps_fa
          have h_bs := h_bs.kp hfr n_bs_fa
          have h_gs := h_gs.kp hfr n_gs_fa
          have hF : ∀ b ∈ L, b ≠ (A 6) → f b = f0 b := fun b hb h0 => (hfr b h0).trans (hF b hb h0)
          refine lv_iinc (v := nI (i + 1)) (lv' := [(2, .int (nI (i + 1))), (0, .ref (A 0)), (1, .int (b2i false))]) E.1.1 E.1.2.1 dX6_layFar_41 hl (k := 0) rfl (nI_1 _) (by decide) rfl (fun ls hl => ?_)
          refine lv_goto (tgt := 2) E.1.1 E.1.2.1 dX6_layFar_44 (by decide) ?_
          have hz0 : (sg 0) i = false := by unfold sg; simp [c31]
          exact ih2  (i + 1) (fun k => if k = i then (-6) else F1 k) f H locs ls (by omega) (by omega) (fun x hx => by
      by_cases h : x = i
      · rw [if_pos h, h, hz0]; rfl
      · rw [if_neg h]; exact hg x (by omega)) h_o h_ts h_ps h_bs h_gs h_fa hF hw (lv_sub hl [0, 1, 2] rfl)
        · refine lv_iconst (v := nI 0) E.1.1 E.1.2.1 dX6_layFar_34 rfl ?_
          refine lv_goto (tgt := 40) E.1.1 E.1.2.1 dX6_layFar_35 (by decide) ?_
          refine k_iast E hw (fun k => if k = i then nI 0 else F1 k) h_fa (by omega) (by omega) (fun _ _ => rfl) dX6_layFar_40 (fun f H locs h_fa hfr hw => ?_)
          have h_o := h_o.kp hfr n_o_fa
          have h_ts := h_ts.kp hfr n_ts_fa
          have h_ps := h_ps.kp hfr n_ps_fa
          have h_bs := h_bs.kp hfr n_bs_fa
          have h_gs := h_gs.kp hfr n_gs_fa
          have hF : ∀ b ∈ L, b ≠ (A 6) → f b = f0 b := fun b hb h0 => (hfr b h0).trans (hF b hb h0)
          refine lv_iinc (v := nI (i + 1)) (lv' := [(2, .int (nI (i + 1))), (0, .ref (A 0)), (1, .int (b2i false))]) E.1.1 E.1.2.1 dX6_layFar_41 hl (k := 0) rfl (nI_1 _) (by decide) rfl (fun ls hl => ?_)
          refine lv_goto (tgt := 2) E.1.1 E.1.2.1 dX6_layFar_44 (by decide) ?_
          have hz0 : (sg 0) i = true := by unfold sg; simp [c31]
          exact ih2  (i + 1) (fun k => if k = i then nI 0 else F1 k) f H locs ls (by omega) (by omega) (fun x hx => by
      by_cases h : x = i
      · rw [if_pos h, h, hz0]; rfl
      · rw [if_neg h]; exact hg x (by omega)) h_o h_ts h_ps h_bs h_gs h_fa hF hw (lv_sub hl [0, 1, 2] rfl)
  exact lp2 (ns - 0 + 1) 0 Fz f H locs ls (Nat.lt_succ_self _) (by omega) (fun j hj => absurd hj (by omega)) h_o h_ts h_ps h_bs h_gs h_fa hF hw (lv_sub hl [0, 1, 2] rfl)

set_option maxHeartbeats 4000000 in
set_option maxRecDepth 100000 in
theorem m_layFar1 (l : Launch) (D : va_G) (cy : Nat → ClassId) (L : List Nat) (f0 : Nat → va_E) (sz : Nat) (A : Nat → Nat) (base fr pb ns : Nat) (T P : Nat → Nat) (B : Nat → Nat → Bool) (rr : Nat → Bool) (G : Nat → Int32) (hA : MAd A) (hTP : TP T P) (S : Nat → Bool) (Fz : Nat → Int32) (hb0 : 0 < base) (hb5 : base ≤ 5) (hM : MchOf S base ns) (hMI : MI S base (ns * base) ns T P B G) (h_o : cel L f0 (A 0) (.inr (6, [.int (nI base), .ref (A 1), .ref (A 2), .ref (A 3), .ref (A 4), .int (nI fr), .int (nI pb), .ref (A 5), .int (nI ns), .ref (A 6), .ref (A 7), .ref (A 8)]))) (h_ts : cel L f0 (A 1) (.inl (cy 0, 84, .inl (fun k => nI (T k))))) (h_ps : cel L f0 (A 2) (.inl (cy 0, 84, .inl (fun k => nI (P k))))) (h_bs : cel L f0 (A 3) (.inl (cy 1, 252, .inr (.inl (rw3 B))))) (h_gs : cel L f0 (A 5) (.inl (cy 0, 325, .inl G))) (h_fa : cel L f0 (A 6) (.inl (cy 0, 65, .inl Fz))) : Met l yX6_layFar (.code yX6_layFar cX6_layFar 8 none :: wsL_law) { frames := 2, cells := 0, slots := 0, locals := 46 } (va_Pc [.ref (A 0), .int (b2i true)] (PW D cy L f0 sz)) (va_Qv (fun u : List Nat × (Nat → va_E) => L = u.1 ∧ (∀ b ∈ L, b ≠ A 6 → u.2 b = f0 b) ∧ ∃ F2, cel L u.2 (A 6) (.inl (cy 0, 65, .inl F2)) ∧ ∀ i, i < ns → F2 i = stp (sg i) (gq (fun x => (trn S base (ns * base)).2.1 x 0) ns) (trn S base (ns * base)).2.2 base ns) (PB D (AW L sz)) (AW L sz)) 0 0 (AW L sz) := by
  refine m_start (by decide) (Nat.le_of_ble_eq_true rfl) ?_
  intro p e R Q s m args below meth c ls hsz hR hQ E hr hlk hnm hw hl
  have hl : lv_has ls 8 [(0, .ref (A 0)), (1, .int (b2i true))] := hl
  obtain ⟨H, hH⟩ : ∃ X, X = s.heap := ⟨_, rfl⟩
  obtain ⟨locs, hlocs⟩ : ∃ X : List Loc, X = [] := ⟨_, rfl⟩
  have hw0 := hw
  obtain ⟨f, hf0⟩ : ∃ X, X = f0 := ⟨_, rfl⟩
  rw [← hf0] at h_o h_ts h_ps h_bs h_gs h_fa
  have hw : WW D (AW L sz) s.heap L f H locs := by rw [hH, hlocs, hf0]; exact hw
  have hF : ∀ b ∈ L, b ≠ (A 6) → f b = f0 b := fun b hb h0 => by rw [hf0]
  suffices hgo : W p l e R s m args below meth c H locs 0 0 Q (F0 m 0 ls []) by rw [hH, hlocs] at hgo; exact hgo
  clear hH hlocs hw0 hf0
  have hLs : ∀ b ∈ L, b ∈ L := fun _ h => h
  have n_o_ts : A 0 ≠ A 1 := hA.ne (by decide) (by decide) (by decide)
  have n_o_ps : A 0 ≠ A 2 := hA.ne (by decide) (by decide) (by decide)
  have n_o_bs : A 0 ≠ A 3 := hA.ne (by decide) (by decide) (by decide)
  have n_o_gs : A 0 ≠ A 5 := hA.ne (by decide) (by decide) (by decide)
  have n_o_fa : A 0 ≠ A 6 := hA.ne (by decide) (by decide) (by decide)
  have n_ts_ps : A 1 ≠ A 2 := hA.ne (by decide) (by decide) (by decide)
  have n_ts_bs : A 1 ≠ A 3 := hA.ne (by decide) (by decide) (by decide)
  have n_ts_gs : A 1 ≠ A 5 := hA.ne (by decide) (by decide) (by decide)
  have n_ts_fa : A 1 ≠ A 6 := hA.ne (by decide) (by decide) (by decide)
  have n_ps_bs : A 2 ≠ A 3 := hA.ne (by decide) (by decide) (by decide)
  have n_ps_gs : A 2 ≠ A 5 := hA.ne (by decide) (by decide) (by decide)
  have n_ps_fa : A 2 ≠ A 6 := hA.ne (by decide) (by decide) (by decide)
  have n_bs_gs : A 3 ≠ A 5 := hA.ne (by decide) (by decide) (by decide)
  have n_bs_fa : A 3 ≠ A 6 := hA.ne (by decide) (by decide) (by decide)
  have n_gs_fa : A 5 ≠ A 6 := hA.ne (by decide) (by decide) (by decide)
  have hns := hM.2.2
  have hbb : ns * base ≤ 320 := by have := Nat.mul_le_mul hns hb5; omega
  have hedge : ∀ j, j < ns * base → (trn S base (ns * base)).2.2 j < ns ∧ (fun j => j / base) j < ns := fun j hj => ⟨hM.go j hj, (Nat.div_lt_iff_lt_mul hb0).mpr hj⟩
  refine lv_iconst (v := nI 0) E.1.1 E.1.2.1 dX6_layFar_0 rfl ?_
  refine lv_istore_n (lv' := [(2, .int (nI 0)), (0, .ref (A 0)), (1, .int (b2i true))]) E.1.1 E.1.2.1 dX6_layFar_1 rfl hl (by decide) rfl (fun ls hl => ?_)
  have lp2 : ∀ (k : Nat) (i : Nat) (F1 : Nat → Int32) (f : Nat → va_E) (H : Heap) (locs : List Loc) (ls : Array Slot), (ns - i < k) → (i ≤ ns) → (∀ x, x < i → F1 x = if (gq (fun x => (trn S base (ns * base)).2.1 x 0) ns) x then nI 0 else -6) → (cel L f (A 0) (.inr (6, [.int (nI base), .ref (A 1), .ref (A 2), .ref (A 3), .ref (A 4), .int (nI fr), .int (nI pb), .ref (A 5), .int (nI ns), .ref (A 6), .ref (A 7), .ref (A 8)]))) → (cel L f (A 1) (.inl (cy 0, 84, .inl (fun k => nI (T k))))) → (cel L f (A 2) (.inl (cy 0, 84, .inl (fun k => nI (P k))))) → (cel L f (A 3) (.inl (cy 1, 252, .inr (.inl (rw3 B))))) → (cel L f (A 5) (.inl (cy 0, 325, .inl G))) → (cel L f (A 6) (.inl (cy 0, 65, .inl F1))) → (∀ b ∈ L, b ≠ (A 6) → f b = f0 b) → (WW D (AW L sz) s.heap L f H locs) → (lv_has ls 8 [(2, .int (nI i)), (0, .ref (A 0)), (1, .int (b2i true))]) → W p l e R s m args below meth c H locs 0 0 Q (F0 m 2 ls []) := by
    intro k
    induction k with
    | zero => intro _ _ _ _ _ _ hk; exact absurd hk (Nat.not_lt_zero _)
    | succ k ih2 =>
      intro i F1 f H locs ls hk hi hg h_o h_ts h_ps h_bs h_gs h_fa hF hw hl
      refine lv_iload_n E.1.1 E.1.2.1 dX6_layFar_2 rfl (lv_at hl 0 rfl) ?_
      refine lv_aload_n E.1.1 E.1.2.1 dX6_layFar_3 rfl (lv_at hl 1 rfl) ?_
      refine k_get (v := .int (nI ns)) E inlX6 rfl 8 (by decide) w3_0 rfl hw h_o rfl dX6_layFar_4 ?_
      refine k_ge (tgt := 47) E dX6_layFar_7 (by decide) (by omega) (by omega) (fun c7 => ?_) (fun c7 => ?_)
      · refine lv_iconst (v := nI 0) E.1.1 E.1.2.1 dX6_layFar_47 rfl ?_
        refine lv_istore_n (lv' := [(2, .int (nI 0)), (0, .ref (A 0)), (1, .int (b2i true))]) E.1.1 E.1.2.1 dX6_layFar_48 rfl hl (by decide) rfl (fun ls hl => ?_)
        have lp49 : ∀ (k : Nat) (r0 : Nat) (F1 : Nat → Int32) (f : Nat → va_E) (H : Heap) (locs : List Loc) (ls : Array Slot), (ns - r0 < k) → (r0 ≤ ns) → (FI ns (gq (fun x => (trn S base (ns * base)).2.1 x 0) ns) (trn S base (ns * base)).2.2 (fun j => j / base) (ns * base) r0 0 F1) → (cel L f (A 0) (.inr (6, [.int (nI base), .ref (A 1), .ref (A 2), .ref (A 3), .ref (A 4), .int (nI fr), .int (nI pb), .ref (A 5), .int (nI ns), .ref (A 6), .ref (A 7), .ref (A 8)]))) → (cel L f (A 1) (.inl (cy 0, 84, .inl (fun k => nI (T k))))) → (cel L f (A 2) (.inl (cy 0, 84, .inl (fun k => nI (P k))))) → (cel L f (A 3) (.inl (cy 1, 252, .inr (.inl (rw3 B))))) → (cel L f (A 5) (.inl (cy 0, 325, .inl G))) → (cel L f (A 6) (.inl (cy 0, 65, .inl F1))) → (∀ b ∈ L, b ≠ (A 6) → f b = f0 b) → (WW D (AW L sz) s.heap L f H locs) → (lv_has ls 8 [(2, .int (nI r0)), (0, .ref (A 0)), (1, .int (b2i true))]) → W p l e R s m args below meth c H locs 0 0 Q (F0 m 49 ls []) := by
          intro k
          induction k with
          | zero => intro _ _ _ _ _ _ hk; exact absurd hk (Nat.not_lt_zero _)
          | succ k ih49 =>
            intro r0 F1 f H locs ls hk hr0 hFI h_o h_ts h_ps h_bs h_gs h_fa hF hw hl
            refine lv_iload_n E.1.1 E.1.2.1 dX6_layFar_49 rfl (lv_at hl 0 rfl) ?_
            refine lv_aload_n E.1.1 E.1.2.1 dX6_layFar_50 rfl (lv_at hl 1 rfl) ?_
            refine k_get (v := .int (nI ns)) E inlX6 rfl 8 (by decide) w3_0 rfl hw h_o rfl dX6_layFar_51 ?_
            refine k_ge (tgt := 167) E dX6_layFar_54 (by decide) (by omega) (by omega) (fun c54 => ?_) (fun c54 => ?_)
            · exact k_mvret E hQ hlk hr hw (Nat.le_of_ble_eq_true rfl) (Nat.le_of_ble_eq_true rfl) (⟨rfl, hF, F1, h_fa, fun i hi => (FI_end (by rw [show r0 = ns by omega] at hFI; exact hFI) hns hedge i hi).trans (fst_bw hns)⟩) dX6_layFar_167
            · refine lv_iconst (v := nI 0) E.1.1 E.1.2.1 dX6_layFar_57 rfl ?_
              refine lv_istore_n (lv' := [(3, .int (nI 0)), (2, .int (nI r0)), (0, .ref (A 0)), (1, .int (b2i true))]) E.1.1 E.1.2.1 dX6_layFar_58 rfl hl (by decide) rfl (fun ls hl => ?_)
              have lp59 : ∀ (k : Nat) (K0 : Nat) (F1 : Nat → Int32) (f : Nat → va_E) (H : Heap) (locs : List Loc) (ls : Array Slot), (ns * base - K0 < k) → (K0 ≤ ns * base) → (FI ns (gq (fun x => (trn S base (ns * base)).2.1 x 0) ns) (trn S base (ns * base)).2.2 (fun j => j / base) (ns * base) r0 K0 F1) → (cel L f (A 0) (.inr (6, [.int (nI base), .ref (A 1), .ref (A 2), .ref (A 3), .ref (A 4), .int (nI fr), .int (nI pb), .ref (A 5), .int (nI ns), .ref (A 6), .ref (A 7), .ref (A 8)]))) → (cel L f (A 1) (.inl (cy 0, 84, .inl (fun k => nI (T k))))) → (cel L f (A 2) (.inl (cy 0, 84, .inl (fun k => nI (P k))))) → (cel L f (A 3) (.inl (cy 1, 252, .inr (.inl (rw3 B))))) → (cel L f (A 5) (.inl (cy 0, 325, .inl G))) → (cel L f (A 6) (.inl (cy 0, 65, .inl F1))) → (∀ b ∈ L, b ≠ (A 6) → f b = f0 b) → (WW D (AW L sz) s.heap L f H locs) → (lv_has ls 8 [(3, .int (nI K0)), (2, .int (nI r0)), (0, .ref (A 0)), (1, .int (b2i true))]) → W p l e R s m args below meth c H locs 0 0 Q (F0 m 59 ls []) := by
                intro k
                induction k with
                | zero => intro _ _ _ _ _ _ hk; exact absurd hk (Nat.not_lt_zero _)
                | succ k ih59 =>
                  intro K0 F1 f H locs ls hk hK0 hFI2 h_o h_ts h_ps h_bs h_gs h_fa hF hw hl
                  refine lv_iload_n E.1.1 E.1.2.1 dX6_layFar_59 rfl (lv_at hl 0 rfl) ?_
                  refine lv_aload_n E.1.1 E.1.2.1 dX6_layFar_60 rfl (lv_at hl 2 rfl) ?_
                  refine k_get (v := .int (nI ns)) E inlX6 rfl 8 (by decide) w3_0 rfl hw h_o rfl dX6_layFar_61 ?_
                  refine lv_aload_n E.1.1 E.1.2.1 dX6_layFar_64 rfl (lv_at hl 2 rfl) ?_
                  refine k_get (v := .int (nI base)) E inlX6 rfl 0 (by decide) w2_232 rfl hw h_o rfl dX6_layFar_65 ?_
                  refine k_mul E dX6_layFar_68 ?_
                  refine k_ge (tgt := 161) E dX6_layFar_69 (by decide) (by omega) (by omega) (fun c69 => ?_) (fun c69 => ?_)
                  · refine lv_iinc (v := nI (r0 + 1)) (lv' := [(2, .int (nI (r0 + 1))), (3, .int (nI K0)), (0, .ref (A 0)), (1, .int (b2i true))]) E.1.1 E.1.2.1 dX6_layFar_161 hl (k := 1) rfl (nI_1 _) (by decide) rfl (fun ls hl => ?_)
                    refine lv_goto (tgt := 49) E.1.1 E.1.2.1 dX6_layFar_164 (by decide) ?_
                    exact ih49  (r0 + 1) F1 f H locs ls (by omega) (by omega) (FI_round (by rw [show K0 = ns * base by omega] at hFI2; exact hFI2)) h_o h_ts h_ps h_bs h_gs h_fa hF hw (lv_sub hl [0, 2, 3] rfl)
                  · have hd1 : K0 / base < ns := (Nat.div_lt_iff_lt_mul hb0).mpr (by omega)
                    have hd2 := Nat.mod_lt K0 hb0
                    have hd3 := hM.go K0 (by omega)
                    refine lv_iload_n E.1.1 E.1.2.1 dX6_layFar_72 rfl (lv_at hl 0 rfl) ?_
                    refine lv_aload_n E.1.1 E.1.2.1 dX6_layFar_73 rfl (lv_at hl 2 rfl) ?_
                    refine k_get (v := .int (nI base)) E inlX6 rfl 0 (by decide) w2_232 rfl hw h_o rfl dX6_layFar_74 ?_
                    refine k_div E dX6_layFar_77 (by omega) (by omega) (by omega) ?_
                    refine lv_istore (lv' := [(4, .int (nI (K0 / base))), (3, .int (nI K0)), (2, .int (nI r0)), (0, .ref (A 0)), (1, .int (b2i true))]) E.1.1 E.1.2.1 dX6_layFar_78 hl (by decide) rfl (fun ls hl => ?_)
                    refine lv_aload_n E.1.1 E.1.2.1 dX6_layFar_80 rfl (lv_at hl 3 rfl) ?_
                    refine k_get (v := .ref (A 5)) E inlX6 rfl 7 (by decide) w2_239 rfl hw h_o rfl dX6_layFar_81 ?_
                    refine lv_iconst (v := nI 5) E.1.1 E.1.2.1 dX6_layFar_84 rfl ?_
                    refine lv_iload E.1.1 E.1.2.1 dX6_layFar_85 (lv_at hl 0 rfl) ?_
                    refine k_mul E dX6_layFar_87 ?_
                    refine lv_iload_n E.1.1 E.1.2.1 dX6_layFar_88 rfl (lv_at hl 1 rfl) ?_
                    refine lv_aload_n E.1.1 E.1.2.1 dX6_layFar_89 rfl (lv_at hl 3 rfl) ?_
                    refine k_get (v := .int (nI base)) E inlX6 rfl 0 (by decide) w2_232 rfl hw h_o rfl dX6_layFar_90 ?_
                    refine k_rem E dX6_layFar_93 (by omega) (by omega) (by omega) ?_
                    refine k_add E dX6_layFar_94 ?_
                    refine k_iald E hw (v := nI ((trn S base (ns * base)).2.2 K0)) h_gs (by omega) (by omega) (hMI.2.2.1 K0 (by omega)) dX6_layFar_95 ?_
                    refine lv_istore (lv' := [(5, .int (nI ((trn S base (ns * base)).2.2 K0))), (4, .int (nI (K0 / base))), (3, .int (nI K0)), (2, .int (nI r0)), (0, .ref (A 0)), (1, .int (b2i true))]) E.1.1 E.1.2.1 dX6_layFar_96 hl (by decide) rfl (fun ls hl => ?_)
                    refine lv_iload_n E.1.1 E.1.2.1 dX6_layFar_98 rfl (lv_at hl 5 rfl) ?_
                    refine k_if0 (tgt := 107) E dX6_layFar_99 (by decide) (fun c99 => absurd c99 (by decide)) (fun c99 => ?_)
                    refine lv_iload E.1.1 E.1.2.1 dX6_layFar_102 (lv_at hl 0 rfl) ?_
                    refine lv_goto (tgt := 109) E.1.1 E.1.2.1 dX6_layFar_104 (by decide) ?_
                    refine lv_istore (lv' := [(6, .int (nI ((trn S base (ns * base)).2.2 K0))), (5, .int (nI ((trn S base (ns * base)).2.2 K0))), (4, .int (nI (K0 / base))), (3, .int (nI K0)), (2, .int (nI r0)), (0, .ref (A 0)), (1, .int (b2i true))]) E.1.1 E.1.2.1 dX6_layFar_109 hl (by decide) rfl (fun ls hl => ?_)
                    refine lv_iload_n E.1.1 E.1.2.1 dX6_layFar_111 rfl (lv_at hl 6 rfl) ?_
                    refine k_if0 (tgt := 120) E dX6_layFar_112 (by decide) (fun c112 => absurd c112 (by decide)) (fun c112 => ?_)
                    refine lv_iload E.1.1 E.1.2.1 dX6_layFar_115 (lv_at hl 2 rfl) ?_
                    refine lv_goto (tgt := 122) E.1.1 E.1.2.1 dX6_layFar_117 (by decide) ?_
                    refine lv_istore (lv' := [(7, .int (nI (K0 / base))), (6, .int (nI ((trn S base (ns * base)).2.2 K0))), (5, .int (nI ((trn S base (ns * base)).2.2 K0))), (4, .int (nI (K0 / base))), (3, .int (nI K0)), (2, .int (nI r0)), (0, .ref (A 0)), (1, .int (b2i true))]) E.1.1 E.1.2.1 dX6_layFar_122 hl (by decide) rfl (fun ls hl => ?_)
                    refine lv_aload_n E.1.1 E.1.2.1 dX6_layFar_124 rfl (lv_at hl 6 rfl) ?_
                    refine k_get (v := .ref (A 6)) E inlX6 rfl 9 (by decide) w3_1 rfl hw h_o rfl dX6_layFar_125 ?_
                    refine lv_iload E.1.1 E.1.2.1 dX6_layFar_128 (lv_at hl 1 rfl) ?_
                    refine k_iald E hw (v := F1 ((trn S base (ns * base)).2.2 K0)) h_fa (by omega) (by omega) (rfl) dX6_layFar_130 ?_
                    refine lv_iload_n E.1.1 E.1.2.1 dX6_layFar_131 rfl (lv_at hl 5 rfl) ?_
                    refine lv_icmp_ne (tgt := 155) E.1.1 E.1.2.1 dX6_layFar_132 (by decide) (fun c132 => ?_) (fun c132 => ?_)
                    · refine lv_iinc (v := nI (K0 + 1)) (lv' := [(3, .int (nI (K0 + 1))), (7, .int (nI (K0 / base))), (6, .int (nI ((trn S base (ns * base)).2.2 K0))), (5, .int (nI ((trn S base (ns * base)).2.2 K0))), (4, .int (nI (K0 / base))), (2, .int (nI r0)), (0, .ref (A 0)), (1, .int (b2i true))]) E.1.1 E.1.2.1 dX6_layFar_155 hl (k := 4) rfl (nI_1 _) (by decide) rfl (fun ls hl => ?_)
                      refine lv_goto (tgt := 59) E.1.1 E.1.2.1 dX6_layFar_158 (by decide) ?_
                      have hFI3 := FI_skip hFI2 (by omega) (hedge K0 (by omega)).1 c132
                      exact ih59  (K0 + 1) F1 f H locs ls (by omega) (by omega) (hFI3) h_o h_ts h_ps h_bs h_gs h_fa hF hw (lv_sub hl [0, 5, 6, 7] rfl)
                    · refine lv_aload_n E.1.1 E.1.2.1 dX6_layFar_135 rfl (lv_at hl 6 rfl) ?_
                      refine k_get (v := .ref (A 6)) E inlX6 rfl 9 (by decide) w3_1 rfl hw h_o rfl dX6_layFar_136 ?_
                      refine lv_iload E.1.1 E.1.2.1 dX6_layFar_139 (lv_at hl 0 rfl) ?_
                      refine k_iald E hw (v := F1 (K0 / base)) h_fa (by omega) (by omega) (rfl) dX6_layFar_141 ?_
                      refine lv_if_ge (tgt := 155) E.1.1 E.1.2.1 dX6_layFar_142 (by decide) (fun c142 => ?_) (fun c142 => ?_)
                      · refine lv_iinc (v := nI (K0 + 1)) (lv' := [(3, .int (nI (K0 + 1))), (7, .int (nI (K0 / base))), (6, .int (nI ((trn S base (ns * base)).2.2 K0))), (5, .int (nI ((trn S base (ns * base)).2.2 K0))), (4, .int (nI (K0 / base))), (2, .int (nI r0)), (0, .ref (A 0)), (1, .int (b2i true))]) E.1.1 E.1.2.1 dX6_layFar_155 hl (k := 4) rfl (nI_1 _) (by decide) rfl (fun ls hl => ?_)
                        refine lv_goto (tgt := 59) E.1.1 E.1.2.1 dX6_layFar_158 (by decide) ?_
                        have hFI3 := FI_old hFI2 c142
                        exact ih59  (K0 + 1) F1 f H locs ls (by omega) (by omega) (hFI3) h_o h_ts h_ps h_bs h_gs h_fa hF hw (lv_sub hl [0, 5, 6, 7] rfl)
                      · refine lv_aload_n E.1.1 E.1.2.1 dX6_layFar_145 rfl (lv_at hl 6 rfl) ?_
                        refine k_get (v := .ref (A 6)) E inlX6 rfl 9 (by decide) w3_1 rfl hw h_o rfl dX6_layFar_146 ?_
                        refine lv_iload E.1.1 E.1.2.1 dX6_layFar_149 (lv_at hl 0 rfl) ?_
                        refine lv_iload_n E.1.1 E.1.2.1 dX6_layFar_151 rfl (lv_at hl 5 rfl) ?_
                        refine lv_iconst (v := nI 1) E.1.1 E.1.2.1 dX6_layFar_152 rfl ?_
                        refine k_add E dX6_layFar_153 ?_
                        refine k_iast E hw (fun k => if k = K0 / base then nI (r0 + 1) else F1 k) h_fa (by omega) (by omega) (fun _ _ => rfl) dX6_layFar_154 (fun f H locs h_fa hfr hw => ?_)
                        have h_o := h_o.kp hfr n_o_fa
                        have h_ts := h_ts.kp hfr n_ts_fa
                        have h_ps := h_ps.kp hfr n_ps_fa
                        have h_bs := h_bs.kp hfr n_bs_fa
                        have h_gs := h_gs.kp hfr n_gs_fa
                        have hF : ∀ b ∈ L, b ≠ (A 6) → f b = f0 b := fun b hb h0 => (hfr b h0).trans (hF b hb h0)
                        refine lv_iinc (v := nI (K0 + 1)) (lv' := [(3, .int (nI (K0 + 1))), (7, .int (nI (K0 / base))), (6, .int (nI ((trn S base (ns * base)).2.2 K0))), (5, .int (nI ((trn S base (ns * base)).2.2 K0))), (4, .int (nI (K0 / base))), (2, .int (nI r0)), (0, .ref (A 0)), (1, .int (b2i true))]) E.1.1 E.1.2.1 dX6_layFar_155 hl (k := 4) rfl (nI_1 _) (by decide) rfl (fun ls hl => ?_)
                        refine lv_goto (tgt := 59) E.1.1 E.1.2.1 dX6_layFar_158 (by decide) ?_
                        have hFI3 := FI_set hFI2 (by omega) (hedge K0 (by omega)).1 (hedge K0 (by omega)).2 c132 c142
                        exact ih59  (K0 + 1) (fun k => if k = K0 / base then nI (r0 + 1) else F1 k) f H locs ls (by omega) (by omega) (hFI3) h_o h_ts h_ps h_bs h_gs h_fa hF hw (lv_sub hl [0, 5, 6, 7] rfl)
              exact lp59 (ns * base - 0 + 1) 0 F1 f H locs ls (Nat.lt_succ_self _) (by omega) (hFI) h_o h_ts h_ps h_bs h_gs h_fa hF hw (lv_sub hl [0, 1, 2, 3] rfl)
        exact lp49 (ns - 0 + 1) 0 F1 f H locs ls (Nat.lt_succ_self _) (by omega) (FI_0 (fun x hx => hg x (by omega))) h_o h_ts h_ps h_bs h_gs h_fa hF hw (lv_sub hl [0, 1, 2] rfl)
      · refine lv_aload_n E.1.1 E.1.2.1 dX6_layFar_10 rfl (lv_at hl 1 rfl) ?_
        refine k_get (v := .ref (A 6)) E inlX6 rfl 9 (by decide) w3_1 rfl hw h_o rfl dX6_layFar_11 ?_
        refine lv_iload_n E.1.1 E.1.2.1 dX6_layFar_14 rfl (lv_at hl 0 rfl) ?_
        refine lv_iload_n E.1.1 E.1.2.1 dX6_layFar_15 rfl (lv_at hl 2 rfl) ?_
        refine k_if0 (tgt := 30) E dX6_layFar_16 (by decide) (fun c16 => absurd c16 (by decide)) (fun c16 => ?_)
        refine lv_aload_n E.1.1 E.1.2.1 dX6_layFar_19 rfl (lv_at hl 1 rfl) ?_
        refine lv_iload_n E.1.1 E.1.2.1 dX6_layFar_20 rfl (lv_at hl 0 rfl) ?_
        refine k_ri (va_runV (As := [.int (nI i)]) (rest := [.int (nI i), .ref (A 6)]) E.1 (m_isGood l D cy L f H.size A base fr pb ns T P B rr G hA hTP i ((trn S base (ns * base)).2.1 i) (hMI.2.1 i (by omega)) (by omega) h_o h_ts h_ps h_bs) ⟨callB_of 1 E.1.2.2.2.2 (gd_own w3_122) rfl rfl rfl (E.1.2.2.2.2 _ w1_10) (E.1.2.2.2.2 _ w3_119) hd_X6_isGood (by rw [hR]; exact ⟨Nat.le_of_ble_eq_true rfl, Nat.le_of_ble_eq_true rfl⟩), E.1.2.2.2.2 _ w3_121, E.1.2.2.2.2 _ ws_37⟩ (pw_preV (q := (RX6, TX6, 12)) E.2 hw h_o rfl) rfl rfl hl.1 rfl (lv_room (Nat.le_of_ble_eq_true rfl)) dX6_layFar_21 ⟨Nat.zero_le _, Nat.zero_le _⟩) ?_
        refine k_if0 (tgt := 38) E dX6_layFar_24 (by decide) (fun c24 => ?_) (fun c24 => ?_)
        · refine lv_bipush (v := -6) E.1.1 E.1.2.1 dX6_layFar_38 rfl ?_
          refine k_iast E hw (fun k => if k = i then (-6) else F1 k) h_fa (by omega) (by omega) (fun _ _ => rfl) dX6_layFar_40 (fun f H locs h_fa hfr hw => ?_)
          have h_o := h_o.kp hfr n_o_fa
          have h_ts := h_ts.kp hfr n_ts_fa
          have h_ps := h_ps.kp hfr n_ps_fa
          have h_bs := h_bs.kp hfr n_bs_fa
          have h_gs := h_gs.kp hfr n_gs_fa
          have hF : ∀ b ∈ L, b ≠ (A 6) → f b = f0 b := fun b hb h0 => (hfr b h0).trans (hF b hb h0)
          refine lv_iinc (v := nI (i + 1)) (lv' := [(2, .int (nI (i + 1))), (0, .ref (A 0)), (1, .int (b2i true))]) E.1.1 E.1.2.1 dX6_layFar_41 hl (k := 0) rfl (nI_1 _) (by decide) rfl (fun ls hl => ?_)
          refine lv_goto (tgt := 2) E.1.1 E.1.2.1 dX6_layFar_44 (by decide) ?_
          have hz0 : (gq (fun x => (trn S base (ns * base)).2.1 x 0) ns) i = false := by show (decide (i < ns) && (trn S base (ns * base)).2.1 i 0) = false; rw [decide_eq_true (show i < ns by omega), c24]; rfl
          exact ih2  (i + 1) (fun k => if k = i then (-6) else F1 k) f H locs ls (by omega) (by omega) (fun x hx => by
      by_cases h : x = i
      · rw [if_pos h, h, hz0]; rfl
      · rw [if_neg h]; exact hg x (by omega)) h_o h_ts h_ps h_bs h_gs h_fa hF hw (lv_sub hl [0, 1, 2] rfl)
        · refine lv_goto (tgt := 34) E.1.1 E.1.2.1 dX6_layFar_27 (by decide) ?_
          refine lv_iconst (v := nI 0) E.1.1 E.1.2.1 dX6_layFar_34 rfl ?_
          refine lv_goto (tgt := 40) E.1.1 E.1.2.1 dX6_layFar_35 (by decide) ?_
          refine k_iast E hw (fun k => if k = i then nI 0 else F1 k) h_fa (by omega) (by omega) (fun _ _ => rfl) dX6_layFar_40 (fun f H locs h_fa hfr hw => ?_)
          have h_o := h_o.kp hfr n_o_fa
          have h_ts := h_ts.kp hfr n_ts_fa
          have h_ps := h_ps.kp hfr n_ps_fa
          have h_bs := h_bs.kp hfr n_bs_fa
          have h_gs := h_gs.kp hfr n_gs_fa
          have hF : ∀ b ∈ L, b ≠ (A 6) → f b = f0 b := fun b hb h0 => (hfr b h0).trans (hF b hb h0)
          refine lv_iinc (v := nI (i + 1)) (lv' := [(2, .int (nI (i + 1))), (0, .ref (A 0)), (1, .int (b2i true))]) E.1.1 E.1.2.1 dX6_layFar_41 hl (k := 0) rfl (nI_1 _) (by decide) rfl (fun ls hl => ?_)
          refine lv_goto (tgt := 2) E.1.1 E.1.2.1 dX6_layFar_44 (by decide) ?_
          have hz0 : (gq (fun x => (trn S base (ns * base)).2.1 x 0) ns) i = true := by show (decide (i < ns) && (trn S base (ns * base)).2.1 i 0) = true; rw [decide_eq_true (show i < ns by omega), c24]; rfl
          exact ih2  (i + 1) (fun k => if k = i then nI 0 else F1 k) f H locs ls (by omega) (by omega) (fun x hx => by
      by_cases h : x = i
      · rw [if_pos h, h, hz0]; rfl
      · rw [if_neg h]; exact hg x (by omega)) h_o h_ts h_ps h_bs h_gs h_fa hF hw (lv_sub hl [0, 1, 2] rfl)
  exact lp2 (ns - 0 + 1) 0 Fz f H locs ls (Nat.lt_succ_self _) (by omega) (fun j hj => absurd hj (by omega)) h_o h_ts h_ps h_bs h_gs h_fa hF hw (lv_sub hl [0, 1, 2] rfl)
