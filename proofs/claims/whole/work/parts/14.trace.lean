/-! ===== the first index with a property; a count ===== -/
/-- the first k < n with p k, n if there is none -/
def fa_first (p : Nat → Bool) : Nat → Nat
  | 0 => 0
  | n + 1 => if fa_first p n < n then fa_first p n else if p n then n else n + 1
theorem fa_first_le (p : Nat → Bool) : ∀ n, fa_first p n ≤ n
  | 0 => Nat.le_refl 0
  | n + 1 => by
    have ih := fa_first_le p n
    unfold fa_first
    split
    · omega
    · split
      · omega
      · omega
theorem fa_first_no (p : Nat → Bool) : ∀ n k, k < fa_first p n → p k = false
  | 0, k, h => absurd h (Nat.not_lt_zero k)
  | n + 1, k, h => by
    have ih := fa_first_no p n
    have hl := fa_first_le p n
    unfold fa_first at h
    split at h
    · exact ih k h
    · rename_i h1
      split at h
      · exact ih k (by omega)
      · rename_i h2
        by_cases e : k = n
        · subst e
          exact Bool.eq_false_iff.mpr h2
        · exact ih k (by omega)
theorem fa_first_yes (p : Nat → Bool) : ∀ n, fa_first p n < n → p (fa_first p n) = true
  | 0, h => absurd h (Nat.not_lt_zero _)
  | n + 1, h => by
    have ih := fa_first_yes p n
    have hl := fa_first_le p n
    unfold fa_first at h ⊢
    split at h
    · rename_i h1
      rw [if_pos h1]
      exact ih h1
    · rename_i h1
      rw [if_neg h1]
      split at h
      · rename_i h2
        rw [if_pos h2]
        exact h2
      · omega
/-- how many k < n have p k -/
def fa_cnt (p : Nat → Bool) : Nat → Nat
  | 0 => 0
  | n + 1 => fa_cnt p n + if p n then 1 else 0
theorem fa_cnt_le (p : Nat → Bool) : ∀ n, fa_cnt p n ≤ n
  | 0 => Nat.le_refl 0
  | n + 1 => by
    have ih := fa_cnt_le p n
    unfold fa_cnt
    split
    · omega
    · omega
theorem fa_cnt_yes {p : Nat → Bool} {n : Nat} (h : p n = true) : fa_cnt p (n + 1) = fa_cnt p n + 1 := by rw [fa_cnt, if_pos h]
theorem fa_cnt_no {p : Nat → Bool} {n : Nat} (h : p n = false) : fa_cnt p (n + 1) = fa_cnt p n := by rw [fa_cnt, if_neg (by rw [h]; decide)]; rfl
theorem fa_cnt_cong {p q : Nat → Bool} : ∀ {n : Nat}, (∀ k, k < n → p k = q k) → fa_cnt p n = fa_cnt q n
  | 0, _ => rfl
  | n + 1, h => by rw [fa_cnt, fa_cnt, fa_cnt_cong (fun k hk => h k (Nat.lt_succ_of_lt hk)), h n (Nat.lt_succ_self n)]
/-! ===== an answer carried into a post; a branch on a boolean answer ===== -/
/-! rows of the tracer: state s has the words 3 s, 3 s + 1, 3 s + 2 -/
def rw3 (B : Nat → Nat → Bool) : Nat → Int64 := fun w => wd (B (w / 3)) (w % 3)
theorem rw3_at (B : Nat → Nat → Bool) (x : Nat) {k : Nat} (hk : k < 3) : rw3 B (x * 3 + k) = wd (B x) k := by
  unfold rw3
  rw [show (x * 3 + k) / 3 = x by omega, show (x * 3 + k) % 3 = k by omega]
theorem rw3_at' (B : Nat → Nat → Bool) (x : Nat) {k : Nat} (hk : k < 3) : rw3 B (3 * x + k) = wd (B x) k := by rw [Nat.mul_comm]; exact rw3_at B x hk
def SameR (x y : Nat → Bool) : Prop := ∀ n, n < 192 → x n = y n
theorem same_wd {x y : Nat → Bool} : (∀ k, k < 3 → wd x k = wd y k) ↔ SameR x y := by
  constructor
  · intro h n hn
    have h1 := wd_inj (h (n / 64) (by omega)) (n % 64) (by omega)
    rw [show 64 * (n / 64) + n % 64 = n by omega] at h1
    exact h1
  · intro h k hk
    exact wd_cong (fun i hi => h _ (by omega))
def rz (B : Nat → Nat → Bool) (x k : Nat) : Nat → Int64 := fun w => if w / 3 = x ∧ w % 3 < k then 0 else rw3 B w
theorem rz_0 (B : Nat → Nat → Bool) (x : Nat) : rz B x 0 = rw3 B := by
  funext w
  simp [rz]
theorem rz_s (B : Nat → Nat → Bool) {x k : Nat} (hk : k < 3) (w : Nat) : (if w = x * 3 + k then 0 else rz B x k w) = rz B x (k + 1) w := by
  unfold rz
  by_cases h : w = x * 3 + k
  · rw [if_pos h, if_pos (by omega)]
  · rw [if_neg h]
    by_cases h2 : w / 3 = x ∧ w % 3 < k
    · rw [if_pos h2, if_pos (by omega)]
    · rw [if_neg h2, if_neg (by omega)]
theorem rz_3 (B : Nat → Nat → Bool) (x : Nat) : rz B x 3 = rw3 (va_up B x (fun _ => false)) := by
  funext w
  unfold rz rw3
  by_cases h : w / 3 = x
  · rw [if_pos ⟨h, by omega⟩, h, va_up_self]
    exact (wd_zero (fun _ _ => rfl)).symm
  · rw [if_neg (fun q => h q.1), va_up_ne _ _ h]
def rb (X : Nat → Bool) (u : Nat) : Nat → Bool := fun n => if n < u then X n else false
theorem rb_0 (X : Nat → Bool) : rb X 0 = fun _ => false := by
  funext n
  simp [rb]
theorem rb_s (X : Nat → Bool) (u : Nat) : bset (rb X u) u (rb X u u || X u) = rb X (u + 1) := by
  funext n
  by_cases h : n = u
  · subst h
    rw [bset_same]
    simp [rb]
  · rw [bset_ne _ _ h]
    simp only [rb]
    by_cases h2 : n < u
    · rw [if_pos h2, if_pos (by omega)]
    · rw [if_neg h2, if_neg (by omega)]
theorem st_rest (B : Nat → Nat → Bool) (X : Nat → Bool) (x : Nat) {u : Nat} (hu : u < 192) (w : Nat) : (if w = x * 3 + u / 64 then wd (rb X u) (u / 64) ||| lN (if X u then 2 ^ (u % 64) else 0) else rw3 (va_up B x (rb X u)) w) = rw3 (va_up B x (rb X (u + 1))) w := by
  by_cases h : w = x * 3 + u / 64
  · rw [if_pos h, h, rw3_at _ _ (by omega), va_up_self, wd_or rfl, rb_s]
  · rw [if_neg h]
    unfold rw3
    by_cases h2 : w / 3 = x
    · rw [h2, va_up_self, va_up_self, ← rb_s X u]
      exact wd_or_ne (by omega)
    · rw [va_up_ne _ _ h2, va_up_ne _ _ h2]
theorem fold_add {t per : Nat} (hp : 0 < per) (n x : Nat) : fold t per (fold t per n + x) = fold t per (n + x) := by
  by_cases h : n < t + per
  · rw [fold_in h]
  · rw [fold_ge hp (show t ≤ n by omega), fold_ge hp (by omega), fold_ge hp (by omega), show t + (n - t) % per + x - t = (n - t) % per + x by omega, Nat.mod_add_mod, show n - t + x = n + x - t by omega]
/-- the states, gone through: how many, which sets, where each goes -/
noncomputable def trn (S : Nat → Bool) (base : Nat) : Nat → Nat × (Nat → Nat → Bool) × (Nat → Nat)
  | 0 => (1, fun _ => S, fun _ => 0)
  | k + 1 => (max (trn S base k).1 (fa_first (fun i => dB ((trn S base k).2.1 i = fun u => (trn S base k).2.1 (k / base) (base * u + k % base))) (trn S base k).1 + 1), va_up (trn S base k).2.1 (trn S base k).1 (fun u => (trn S base k).2.1 (k / base) (base * u + k % base)), va_up (trn S base k).2.2 k (fa_first (fun i => dB ((trn S base k).2.1 i = fun u => (trn S base k).2.1 (k / base) (base * u + k % base))) (trn S base k).1))
def Stop (S : Nat → Bool) (base K : Nat) : Prop := (trn S base K).1 * base ≤ K ∨ 64 < (trn S base K).1
def FS (S : Nat → Bool) (base K : Nat) : Prop := Stop S base K ∧ ∀ K', K' < K → ¬ Stop S base K'
theorem FS.uni {S : Nat → Bool} {base K K' : Nat} (h : FS S base K) (h' : FS S base K') : K = K' := by
  rcases Nat.lt_trichotomy K K' with q | q | q
  · exact absurd h.1 (h'.2 K q)
  · exact q
  · exact absurd h'.1 (h.2 K' q)
def RowOf (t per : Nat) (x σ : Nat → Bool) : Prop := (∀ n, n < t + per → x n = σ n) ∧ (∀ n, t + per ≤ n → n < 192 → x n = false) ∧ EvP σ t per
theorem RowOf.den {t per : Nat} {x σ : Nat → Bool} (hp : 0 < per) (h : RowOf t per x σ) : ∀ n, σ n = x (fold t per n) := ev_den hp h.2.2 h.1
theorem RowOf.rest {t per base d : Nat} {x σ : Nat → Bool} (hp : 0 < per) (hb : 0 < base) (h : RowOf t per x σ) : RowOf t per (rb (fun u => x (fold t per (base * u + d))) (t + per)) (fun u => σ (base * u + d)) := by
  refine ⟨fun n hn => ?_, fun n hn _ => ?_, fun u hu => ?_⟩
  · simp only [rb]
    rw [if_pos hn, h.den hp]
  · simp only [rb]
    rw [if_neg (by omega)]
  · have h1 := h.2.2.mul base (base * u + d) (by have := Nat.le_mul_of_pos_left u hb; omega)
    show σ (base * u + d) = σ (base * (u + per) + d)
    rw [h1, Nat.mul_add]
    congr 1
    omega
theorem RowOf.same {t per : Nat} {x σ y τ : Nat → Bool} (hp : 0 < per) (h192 : t + per ≤ 192) (h : RowOf t per x σ) (h' : RowOf t per y τ) : SameR x y ↔ σ = τ := by
  constructor
  · intro hs
    funext n
    have hl := fold_lt (t := t) (n := n) hp
    rw [h.den hp, h'.den hp]
    exact hs _ (by omega)
  · intro e n hn
    by_cases hl : n < t + per
    · rw [h.1 n hl, h'.1 n hl, e]
    · rw [h.2.1 n (by omega) hn, h'.2.1 n (by omega) hn]
theorem first_is {q : Nat → Bool} {n j : Nat} (h1 : j ≤ n) (h2 : ∀ i, i < j → q i = false) (h3 : j = n ∨ q j = true) : fa_first q n = j := by
  have a1 := fa_first_le q n
  rcases Nat.lt_trichotomy (fa_first q n) j with z | z | z
  · have := fa_first_yes q n (by omega)
    rw [h2 _ z] at this
    cases this
  · exact z
  · rcases h3 with h3 | h3
    · omega
    · have := fa_first_no q n j z
      rw [h3] at this
      cases this
/-- what the tracer holds when K pairs have been gone through -/
def TI (S : Nat → Bool) (base t per K nf : Nat) (B : Nat → Nat → Bool) (G : Nat → Int32) : Prop := nf = (trn S base K).1 ∧ (∀ x, x < nf → RowOf t per (B x) ((trn S base K).2.1 x)) ∧ (∀ x, x < K → G x = nI ((trn S base K).2.2 x)) ∧ ∀ K', K' < K → ¬ Stop S base K'
theorem TI_0 {S : Nat → Bool} {base t per : Nat} {B : Nat → Nat → Bool} {G : Nat → Int32} (h : RowOf t per (B 0) S) : TI S base t per 0 1 B G := by
  refine ⟨rfl, fun x hx => ?_, fun x hx => absurd hx (by omega), fun K' h => absurd h (by omega)⟩
  rw [show x = 0 by omega]
  exact h
theorem trn_1 (S : Nat → Bool) (base K : Nat) : (trn S base (K + 1)).1 = max (trn S base K).1 (fa_first (fun i => dB ((trn S base K).2.1 i = fun u => (trn S base K).2.1 (K / base) (base * u + K % base))) (trn S base K).1 + 1) := rfl
theorem trn_2 (S : Nat → Bool) (base K : Nat) : (trn S base (K + 1)).2.1 = va_up (trn S base K).2.1 (trn S base K).1 (fun u => (trn S base K).2.1 (K / base) (base * u + K % base)) := rfl
theorem trn_3 (S : Nat → Bool) (base K : Nat) : (trn S base (K + 1)).2.2 = va_up (trn S base K).2.2 K (fa_first (fun i => dB ((trn S base K).2.1 i = fun u => (trn S base K).2.1 (K / base) (base * u + K % base))) (trn S base K).1) := rfl
theorem TI_first {S : Nat → Bool} {base t per K nf j i d : Nat} {B : Nat → Nat → Bool} {G : Nat → Int32} (hp : 0 < per) (h192 : t + per ≤ 192) (hb : 0 < base) (h : TI S base t per K nf B G) (hi : K / base = i) (hd : K % base = d) (hin : i < nf) (h1 : j ≤ nf)
    (h2 : ∀ x, x < j → ¬ SameR (va_up B nf (rb (fun u => B i (fold t per (base * u + d))) (t + per)) x) (va_up B nf (rb (fun u => B i (fold t per (base * u + d))) (t + per)) nf))
    (h3 : j = nf ∨ SameR (va_up B nf (rb (fun u => B i (fold t per (base * u + d))) (t + per)) j) (va_up B nf (rb (fun u => B i (fold t per (base * u + d))) (t + per)) nf)) :
    fa_first (fun i => dB ((trn S base K).2.1 i = fun u => (trn S base K).2.1 (K / base) (base * u + K % base))) (trn S base K).1 = j := by
  obtain ⟨e1, e2, e3, e4⟩ := h
  have hrest := (e2 i hin).rest (d := d) hp hb
  rw [va_up_self] at h2 h3
  rw [hi, hd, ← e1]
  refine first_is h1 (fun x hx => ?_) ?_
  · refine dB_f (fun e => h2 x hx ?_)
    rw [va_up_ne _ _ (show x ≠ nf by omega)]
    exact ((e2 x (by omega)).same hp h192 hrest).mpr e
  · rcases h3 with h3 | h3
    · exact Or.inl h3
    · rcases Nat.lt_or_ge j nf with z | z
      · right
        rw [va_up_ne _ _ (show j ≠ nf by omega)] at h3
        exact dB_t (((e2 j z).same hp h192 hrest).mp h3)
      · left; omega
theorem TI_step {S : Nat → Bool} {base t per K nf j i d : Nat} {B : Nat → Nat → Bool} {G G' : Nat → Int32} (hp : 0 < per) (h192 : t + per ≤ 192) (hb : 0 < base) (h : TI S base t per K nf B G) (hi : K / base = i) (hd : K % base = d) (hin : i < nf) (h64 : nf ≤ 64) (h1 : j ≤ nf)
    (h2 : ∀ x, x < j → ¬ SameR (va_up B nf (rb (fun u => B i (fold t per (base * u + d))) (t + per)) x) (va_up B nf (rb (fun u => B i (fold t per (base * u + d))) (t + per)) nf))
    (h3 : j = nf ∨ SameR (va_up B nf (rb (fun u => B i (fold t per (base * u + d))) (t + per)) j) (va_up B nf (rb (fun u => B i (fold t per (base * u + d))) (t + per)) nf))
    (hG : ∀ x, x < K + 1 → G' x = if x = K then nI j else G x) (hstop : K < nf * base) :
    TI S base t per (K + 1) (max nf (j + 1)) (va_up B nf (rb (fun u => B i (fold t per (base * u + d))) (t + per))) G' := by
  have hf := TI_first hp h192 hb h hi hd hin h1 h2 h3
  obtain ⟨e1, e2, e3, e4⟩ := h
  have hrest := (e2 i hin).rest (d := d) hp hb
  refine ⟨?_, fun x hx => ?_, fun x hx => ?_, fun K' hK => ?_⟩
  · rw [trn_1, hf, ← e1]
  · rw [trn_2, ← e1, hi, hd]
    by_cases hxn : x = nf
    · rw [hxn, va_up_self, va_up_self]; exact hrest
    · rw [va_up_ne _ _ hxn, va_up_ne _ _ hxn]; exact e2 x (by omega)
  · rw [trn_3, hf, hG x hx]
    by_cases hxK : x = K
    · rw [if_pos hxK, hxK, va_up_self]
    · rw [if_neg hxK, va_up_ne _ _ hxK]; exact e3 x (by omega)
  · by_cases hKK : K' = K
    · subst hKK
      rintro (hs | hs)
      · rw [← e1] at hs; omega
      · rw [← e1] at hs; omega
    · exact e4 K' (by omega)
theorem TI_big {S : Nat → Bool} {base t per K nf j i d : Nat} {B : Nat → Nat → Bool} {G : Nat → Int32} (hp : 0 < per) (h192 : t + per ≤ 192) (hb : 0 < base) (h : TI S base t per K nf B G) (hi : K / base = i) (hd : K % base = d) (hin : i < nf) (h64 : nf ≤ 64) (h1 : j ≤ nf)
    (h2 : ∀ x, x < j → ¬ SameR (va_up B nf (rb (fun u => B i (fold t per (base * u + d))) (t + per)) x) (va_up B nf (rb (fun u => B i (fold t per (base * u + d))) (t + per)) nf))
    (h3 : j = nf ∨ SameR (va_up B nf (rb (fun u => B i (fold t per (base * u + d))) (t + per)) j) (va_up B nf (rb (fun u => B i (fold t per (base * u + d))) (t + per)) nf)) (hstop : K < nf * base) (hj : j = 64) : FS S base (K + 1) ∧ (trn S base (K + 1)).1 = 65 := by
  have h9 := TI_step (G' := fun x => if x = K then nI j else G x) hp h192 hb h hi hd hin h64 h1 h2 h3 (fun _ _ => rfl) hstop
  have e5 : (trn S base (K + 1)).1 = 65 := by rw [← h9.1]; omega
  exact ⟨⟨Or.inr (by omega), h9.2.2.2⟩, e5⟩
theorem TI_end {S : Nat → Bool} {base t per nf : Nat} {B : Nat → Nat → Bool} {G : Nat → Int32} (h : TI S base t per (nf * base) nf B G) : FS S base (nf * base) := ⟨Or.inl (by rw [← h.1]; exact Nat.le_refl _), h.2.2.2⟩
theorem SetIs.row {S : Nat → Bool} {t q : Nat} {b : Nat → Bool} (h : SetIs S t q b) : RowOf t q b S := ⟨h.2.2.2.1, h.2.2.2.2, h.1.2.1⟩
