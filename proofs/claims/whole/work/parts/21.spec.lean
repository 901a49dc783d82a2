/-! what each call answers, over the sets that the slots hold -/
def ix (x : Int32) : Nat := x.toNatClampNeg
theorem ix_nI {j : Nat} (h : j < 2147483648) : ix (nI j) = j := nI_clamp h
def inS (x : Int32) : Bool := i32in x 0 (nI 5)
theorem inS_t {j : Nat} (h : j ≤ 5) : ¬ inS (nI j) = false := by unfold inS; rw [in_t (by decide) h]; decide
theorem nb {x : Bool} (h : (!x) = true) : x = false := by cases x; rfl; cases h
theorem nf' {x : Bool} (h : (!x) = false) : x = true := by cases x; cases h; rfl
theorem inS_ex {x : Int32} (h : (!(i32in x 0 (nI 5))) = false) : ∃ j, j ≤ 5 ∧ x = nI j := in_ex (by decide) (nf' h)
def sp_put (base : Nat) (SS SS' : Nat → Nat → Bool) (to kind a m0 r : Int32) : Prop := if inS to = false then r = -1 ∧ SS' = SS else if i32in kind 0 (nI 4) = false ∨ (kind < 3 ∧ i32in a 0 (nI 100) = false) ∨ (kind = 2 ∧ i32in m0 (nI 1) (nI 60) = false) then r = -2 ∧ SS' = SS else HoldR (kd (ix kind) (ix a) (ix m0)) base (ix to) SS SS' r
def sp_join (base : Nat) (SS SS' : Nat → Nat → Bool) (to one other way r : Int32) : Prop := if inS to = false ∨ inS one = false ∨ inS other = false then r = -1 ∧ SS' = SS else if i32in way 0 (nI 3) = false then r = -2 ∧ SS' = SS else HoldR (fun n => jw (ix way) (SS (ix one) n) (SS (ix other) n)) base (ix to) SS SS' r
def sp_un (base : Nat) (SS SS' : Nat → Nat → Bool) (to fr : Int32) (ok : Bool) (X : (Nat → Bool) → Nat → Bool) (r : Int32) : Prop := if inS to = false ∨ inS fr = false then r = -1 ∧ SS' = SS else if ok = false then r = -2 ∧ SS' = SS else HoldR (X (SS (ix fr))) base (ix to) SS SS' r
def xTurn (S : Nat → Bool) : Nat → Bool := fun n => !S n
def xShift (w : Int32) (S : Nat → Bool) : Nat → Bool := if w < 0 then shD S (ix (-w)) else shU S (ix w)
theorem sp_join_1 {base : Nat} {SS : Nat → Nat → Bool} {to one other way : Int32} (h : inS to = false ∨ inS one = false ∨ inS other = false) : sp_join base SS SS to one other way (-1) := by unfold sp_join; rw [if_pos h]; exact ⟨rfl, rfl⟩
theorem sp_join_2 {base : Nat} {SS : Nat → Nat → Bool} {j x1 x2 : Nat} {way : Int32} (hj : j ≤ 5) (h1 : x1 ≤ 5) (h2 : x2 ≤ 5) (h : i32in way 0 (nI 3) = false) : sp_join base SS SS (nI j) (nI x1) (nI x2) way (-2) := by
  unfold sp_join
  rw [if_neg (by rintro (h | h | h); exact inS_t hj h; exact inS_t h1 h; exact inS_t h2 h), if_pos h]
  exact ⟨rfl, rfl⟩
theorem sp_join_ok {base : Nat} {SS SS' : Nat → Nat → Bool} {j x1 x2 w : Nat} {r : Int32} (hj : j ≤ 5) (h1 : x1 ≤ 5) (h2 : x2 ≤ 5) (hw : w ≤ 3) (h : HoldR (fun n => jw w (SS x1 n) (SS x2 n)) base j SS SS' r) : sp_join base SS SS' (nI j) (nI x1) (nI x2) (nI w) r := by
  unfold sp_join
  rw [if_neg (by rintro (h | h | h); exact inS_t hj h; exact inS_t h1 h; exact inS_t h2 h), if_neg (by rw [in_t (by decide) hw]; decide), ix_nI (by omega), ix_nI (by omega), ix_nI (by omega), ix_nI (by omega)]
  exact h
theorem sp_un_1 {base : Nat} {SS : Nat → Nat → Bool} {to fr : Int32} {ok : Bool} {X : (Nat → Bool) → Nat → Bool} (h : inS to = false ∨ inS fr = false) : sp_un base SS SS to fr ok X (-1) := by unfold sp_un; rw [if_pos h]; exact ⟨rfl, rfl⟩
theorem sp_un_2 {base : Nat} {SS : Nat → Nat → Bool} {j x1 : Nat} {ok : Bool} {X : (Nat → Bool) → Nat → Bool} (hj : j ≤ 5) (h1 : x1 ≤ 5) (h : ok = false) : sp_un base SS SS (nI j) (nI x1) ok X (-2) := by
  unfold sp_un
  rw [if_neg (by rintro (h | h); exact inS_t hj h; exact inS_t h1 h), if_pos h]
  exact ⟨rfl, rfl⟩
theorem sp_un_ok {base : Nat} {SS SS' : Nat → Nat → Bool} {j x1 : Nat} {ok : Bool} {X : (Nat → Bool) → Nat → Bool} {r : Int32} (hj : j ≤ 5) (h1 : x1 ≤ 5) (hok : ok = true) (h : HoldR (X (SS x1)) base j SS SS' r) : sp_un base SS SS' (nI j) (nI x1) ok X r := by
  unfold sp_un
  rw [if_neg (by rintro (h | h); exact inS_t hj h; exact inS_t h1 h), if_neg (by rw [hok]; decide), ix_nI (by omega), ix_nI (by omega)]
  exact h
theorem sp_put_1 {base : Nat} {SS : Nat → Nat → Bool} {to kind a m0 : Int32} (h : inS to = false) : sp_put base SS SS to kind a m0 (-1) := by unfold sp_put; rw [if_pos h]; exact ⟨rfl, rfl⟩
theorem sp_put_2 {base : Nat} {SS : Nat → Nat → Bool} {j : Nat} {kind a m0 : Int32} (hj : j ≤ 5) (h : i32in kind 0 (nI 4) = false ∨ (kind < 3 ∧ i32in a 0 (nI 100) = false) ∨ (kind = 2 ∧ i32in m0 (nI 1) (nI 60) = false)) : sp_put base SS SS (nI j) kind a m0 (-2) := by
  unfold sp_put
  rw [if_neg (inS_t hj), if_pos h]
  exact ⟨rfl, rfl⟩
theorem kd_01 {k : Nat} (hk : k < 2) (a m m' : Nat) : kd k a m = kd k a m' := by
  funext n
  rcases (show k = 0 ∨ k = 1 by omega) with rfl | rfl <;> rfl
theorem kd_34 {k : Nat} (hk : 3 ≤ k) (a m a' m' : Nat) : kd k a m = kd k a' m' := by
  funext n
  simp only [kd]
  rw [if_neg (by omega), if_neg (by omega), if_neg (by omega), if_neg (by omega), if_neg (by omega), if_neg (by omega)]
theorem sp_put_ok {base : Nat} {SS SS' : Nat → Nat → Bool} {j k : Nat} {a m0 r : Int32} (hj : j ≤ 5) (hk : k ≤ 4) (ha : k < 3 → i32in a 0 (nI 100) = true) (hm : k = 2 → i32in m0 (nI 1) (nI 60) = true) (h : HoldR (kd k (ix a) (ix m0)) base j SS SS' r) : sp_put base SS SS' (nI j) (nI k) a m0 r := by
  unfold sp_put
  rw [if_neg (inS_t hj), if_neg, ix_nI (by omega), ix_nI (by omega)]
  · exact h
  · rintro (h | h | h)
    · rw [in_t (by decide) hk] at h; cases h
    · have h3 : k < 3 := (nI_ltI (show k < 2 ^ 31 by omega) (by decide)).mp (show nI k < nI 3 from h.1)
      rw [ha h3] at h; cases h.2
    · have h3 : k = 2 := (nI_eq (show k < 2 ^ 31 by omega) (by decide)).mp (show nI k = nI 2 from h.1)
      rw [hm h3] at h; cases h.2
theorem xShift_p {w : Nat} (hw : w ≤ 100) (S : Nat → Bool) : xShift (nI w) S = shU S w := by
  unfold xShift
  rw [if_neg (nI_pos (show w < 2 ^ 31 by omega)), ix_nI (by omega)]
theorem neg_neg_nI (w : Nat) : - -nI w = nI w := by
  apply Int32.toBitVec_inj.mp
  rw [Int32.toBitVec_neg, Int32.toBitVec_neg, BitVec.neg_neg]
theorem xShift_n {w : Nat} (h0 : 0 < w) (hw : w ≤ 100) (S : Nat → Bool) : xShift (-nI w) S = shD S w := by
  unfold xShift
  have e : (-nI w).toInt = -(w : Int) := sb_negT (show w < 2 ^ 31 by omega)
  rw [if_pos, neg_neg_nI, ix_nI (by omega)]
  rw [i32_lt, e]
  have e0 : (0 : Int32).toInt = 0 := rfl
  omega
theorem shift_ex {x : Int32} (h : i32in x (-100) (nI 100) = true) : (∃ w, w ≤ 100 ∧ x = nI w) ∨ ∃ w, 0 < w ∧ w ≤ 100 ∧ x = -nI w := by
  unfold i32in at h
  rw [Bool.and_eq_true, decide_eq_true_eq, decide_eq_true_eq, i32_le, i32_le, nI_t (by decide)] at h
  have e1 : (-100 : Int32).toInt = -100 := by decide
  rw [e1] at h
  rcases Int.lt_or_le x.toInt 0 with z | z
  · right
    refine ⟨(-x.toInt).toNat, by omega, by omega, ?_⟩
    apply Int32.toInt_inj.mp
    have e : (-nI (-x.toInt).toNat).toInt = -(((-x.toInt).toNat : Nat) : Int) := sb_negT (show (-x.toInt).toNat < 2 ^ 31 by omega)
    rw [e]
    omega
  · left
    refine ⟨x.toInt.toNat, by omega, ?_⟩
    apply Int32.toInt_inj.mp
    rw [nI_t (by omega)]
    omega
def rd_has (SS : Nat → Nat → Bool) (slot num r : Int32) : Prop := if inS slot = false then r = -1 else if i32in num 0 (nI 1000000000) = false then r = -2 else r = b2i (SS (ix slot) (ix num))
def rd_next (SS : Nat → Nat → Bool) (slot num r : Int32) : Prop := if inS slot = false then r = -1 else if i32in num 0 (nI 1000000000) = false then r = -2 else ∃ t q, Canon (SS (ix slot)) t q ∧ r = lfrom (SS (ix slot)) (t + q) (ix num)
def rd_below (SS : Nat → Nat → Bool) (slot num r : Int32) : Prop := if inS slot = false then r = -1 else if i32in num 0 (nI 1000000000) = false then r = -2 else r = nI (fa_cnt (SS (ix slot)) (ix num))
def rd_walk (base : Nat) (SS : Nat → Nat → Bool) (slot num n r : Int32) : Prop := if inS slot = false then r = -1 else if i32in n 0 (nI 40) = false ∨ num < 0 then r = -2 else ∃ k, MchOf (SS (ix slot)) base k ∧ r = nI (wlk (trn (SS (ix slot)) base (k * base)).2.2 base (ix num) (ix n))
/-- what is told of a set -/
def TV (S : Nat → Bool) (base what : Nat) (r : Int32) : Prop := (what = 0 ∧ ∃ t q, Canon S t q ∧ r = nI t) ∨ (what = 1 ∧ ∃ t q, Canon S t q ∧ r = nI q) ∨ (what = 2 ∧ ∃ n, MchOf S base n ∧ r = nI n) ∨ (what = 3 ∧ ∃ n, MchOf S base n ∧ r = nI (fa_cnt (fun x => (trn S base (n * base)).2.1 x 0) n)) ∨ (what = 4 ∧ ∃ t q, Canon S t q ∧ r = nI (fa_cnt S t)) ∨ (what = 5 ∧ ∃ t q, Canon S t q ∧ r = nI (fa_cnt S (t + q) - fa_cnt S t))
def rd_told (base : Nat) (SS : Nat → Nat → Bool) (slot what r : Int32) : Prop := if inS slot = false then r = -1 else if i32in what 0 (nI 5) = false then r = -2 else TV (SS (ix slot)) base (ix what) r
def sg (i : Nat) : Nat → Bool := fun j => decide (j = i)
def gq (g : Nat → Bool) (n : Nat) : Nat → Bool := fun j => decide (j < n) && g j
def SV (S : Nat → Bool) (base n i what : Nat) (r : Int32) : Prop := (what < 5 ∧ ((what < base ∧ r = nI ((trn S base (n * base)).2.2 (i * base + what))) ∨ (base ≤ what ∧ r = -3))) ∨ (what = 5 ∧ r = b2i ((trn S base (n * base)).2.1 i 0)) ∨ (what = 6 ∧ r = stp (sg 0) (sg i) (trn S base (n * base)).2.2 base n) ∨ (what = 7 ∧ r = stp (sg i) (gq (fun x => (trn S base (n * base)).2.1 x 0) n) (trn S base (n * base)).2.2 base n)
def rd_state (base : Nat) (SS : Nat → Nat → Bool) (slot i what r : Int32) : Prop := if inS slot = false then r = -1 else ∃ n, MchOf (SS (ix slot)) base n ∧ (if i32in i 0 (nI (n - 1)) = false then r = -1 else if i32in what 0 (nI 7) = false then r = -2 else SV (SS (ix slot)) base n (ix i) (ix what) r)
/-- the least one of a set; NONE -/
def LI (X : Nat → Bool) (r : Int32) : Prop := (r = -6 ∧ ∀ n, X n = false) ∨ ∃ n, n < 1000000 ∧ r = nI n ∧ X n = true ∧ ∀ j, j < n → X j = false
def AV (S T : Nat → Bool) (what : Nat) (r : Int32) : Prop := (what = 0 ∧ r = b2i (dB (S = T))) ∨ (what = 1 ∧ r = b2i (dB (∀ n, jw 2 (S n) (T n) = false))) ∨ (what = 2 ∧ r = b2i (dB (∀ n, jw 1 (S n) (T n) = false))) ∨ (what = 3 ∧ LI (fun n => jw 3 (S n) (T n)) r) ∨ (what = 4 ∧ LI (fun n => jw 1 (S n) (T n)) r)
def rd_alike (SS : Nat → Nat → Bool) (one other what r : Int32) : Prop := if inS one = false ∨ inS other = false then r = -1 else if i32in what 0 (nI 4) = false then r = -2 else AV (SS (ix one)) (SS (ix other)) (ix what) r
def fsum (g : Nat → Nat) : Nat → Nat
  | 0 => 0
  | n + 1 => fsum g n + g n
def CV (base : Nat) (SS : Nat → Nat → Bool) (kp : Nat → Bool) (what : Nat) (r : Int32) : Prop := (what = 0 ∧ r = nI (fa_cnt (fun j => dB (∃ n, SS j n = true)) 6)) ∨ (what = 1 ∧ r = nI (fa_cnt (fun j => dB (∀ i, i < j → SS i ≠ SS j)) 6)) ∨ (what = 2 ∧ r = nI base) ∨ (what = 3 ∧ ∃ nn : Nat → Nat, (∀ j, j < 6 → MchOf (SS j) base (nn j)) ∧ r = nI (fsum nn 6)) ∨ (what = 4 ∧ r = nI ((if kp 0 then 1 else 0) + if kp 1 then 2 else 0))
def rd_count (base : Nat) (SS : Nat → Nat → Bool) (kp : Nat → Bool) (what r : Int32) : Prop := if i32in what 0 (nI 4) = false then r = -2 else CV base SS kp (ix what) r
/-! plain facts on the machine -/
theorem trn_mono (S : Nat → Bool) (base K : Nat) : (trn S base K).1 ≤ (trn S base (K + 1)).1 := by rw [trn_1]; omega
theorem trn_go (S : Nat → Bool) (base : Nat) : ∀ K k, k < K → (trn S base K).2.2 k < (trn S base K).1
  | 0, k, h => absurd h (by omega)
  | K + 1, k, h => by
    have hm := trn_mono S base K
    rw [trn_3]
    by_cases hk : k = K
    · subst hk
      rw [va_up_self, trn_1]
      omega
    · rw [va_up_ne _ _ hk]
      have := trn_go S base K k (by omega)
      omega
theorem trn_pos (S : Nat → Bool) (base : Nat) : ∀ K, 0 < (trn S base K).1
  | 0 => Nat.one_pos
  | K + 1 => Nat.lt_of_lt_of_le (trn_pos S base K) (trn_mono S base K)
theorem MchOf.go {S : Nat → Bool} {base n : Nat} (h : MchOf S base n) : ∀ k, k < n * base → (trn S base (n * base)).2.2 k < n := fun k hk => by
  have := trn_go S base (n * base) k hk
  rw [← h.2.1] at this
  exact this
theorem MchOf.pos {S : Nat → Bool} {base n : Nat} (h : MchOf S base n) : 0 < n := by
  rw [h.2.1]
  exact trn_pos S base _
theorem B235.two {b : Nat} (h : B235 b) : 1 < b ∧ b ≤ 5 := by rcases h with h | h | h <;> omega
theorem fin_keep {cy : Nat → ClassId} {L L1 : List Nat} {f0 f : Nat → va_E} {M : List Nat} {A : Nat → Nat} {base : Nat} {SS : Nat → Nat → Bool} {kp : Nat → Bool} {kb : Nat → Nat} {KS : Nat → Nat → Nat → Bool} {sa : Nat → Nat} (hA : AdOK L M A) (hB : B235 base) (hSl : ∀ j, j < 6 → Rnd cy L f0 M (sa j) (SS j) base) (hR : NmR cy L f0 M A kp kb KS) (hLs : ∀ b ∈ L, b ∈ L1) (hF : ∀ b ∈ L, b ≠ A 1 → b ≠ A 3 → b ≠ A 4 → b ≠ A 5 → b ≠ A 6 → b ≠ A 7 → f b = f0 b) (h_nm : cel L1 f (A 0) (.inr (5, [.ref (A 1), .ref (A 2), .ref (A 3), .ref (A 5), .int (nI base)]))) (hs : Scr cy L1 f (A 3) (A 4) (A 5) (A 6) (A 7)) (h_sl : cel L1 f (A 1) (.inl (cy 4, 6, .inr (.inr (.inr (.inr (fun k => some (sa k)))))))) : NmW cy L1 f M A base SS kp kb KS :=
  ⟨hB, h_nm, ⟨sa, h_sl, fun j hj => (hSl j hj).keep hLs (fun b hb hn => hF b hb (hA.out hn (by decide)) (hA.out hn (by decide)) (hA.out hn (by decide)) (hA.out hn (by decide)) (hA.out hn (by decide)) (hA.out hn (by decide)))⟩, hs, hR.keep hA hLs (fun b hb _ h1 h3 h4 h5 h6 h7 => hF b hb h1 h3 h4 h5 h6 h7)⟩
theorem fin_hold {cy : Nat → ClassId} {L L1 : List Nat} {f0 f : Nat → va_E} {M : List Nat} {A : Nat → Nat} {base : Nat} {SS : Nat → Nat → Bool} {kp : Nat → Bool} {kb : Nat → Nat} {KS : Nat → Nat → Nat → Bool} {sa : Nat → Nat} {X : Nat → Bool} {t per j : Nat} {b : Nat → Bool} {r : Int32} (hX : den t per b = X) (hA : AdOK L M A) (hB : B235 base) (hSl : ∀ j, j < 6 → Rnd cy L f0 M (sa j) (SS j) base) (hR : NmR cy L f0 M A kp kb KS) (hLs : ∀ b ∈ L, b ∈ L1) (hF : ∀ b ∈ L, b ≠ A 1 → b ≠ A 3 → b ≠ A 4 → b ≠ A 5 → b ≠ A 6 → b ≠ A 7 → f b = f0 b) (h_nm : cel L1 f (A 0) (.inr (5, [.ref (A 1), .ref (A 2), .ref (A 3), .ref (A 5), .int (nI base)]))) (hs : Scr cy L1 f (A 3) (A 4) (A 5) (A 6) (A 7))
    (hcase : (r = -4 ∧ Large (den t per b) base ∧ cel L1 f (A 1) (.inl (cy 4, 6, .inr (.inr (.inr (.inr (fun k => some (sa k)))))))) ∨ ∃ q n, r = nI n ∧ MchOf (den t per b) base n ∧ Rnd cy L1 f M q (den t per b) base ∧ cel L1 f (A 1) (.inl (cy 4, 6, .inr (.inr (.inr (.inr (fun k => some (if k = j then q else sa k)))))))) : ∃ SS', NmW cy L1 f M A base SS' kp kb KS ∧ HoldR X base j SS SS' r := by
  rw [hX] at hcase
  rcases hcase with ⟨e, hl, h_sl⟩ | ⟨q, n, e, hm, hq, h_sl⟩
  · exact ⟨SS, fin_keep hA hB hSl hR hLs hF h_nm hs h_sl, Or.inl ⟨e, hl, rfl⟩⟩
  · have hfit : Fits X := by obtain ⟨t, q, b, n, h1, _⟩ := hq; exact h1.fits
    refine ⟨va_up SS j X, ⟨hB, h_nm, ⟨fun k => if k = j then q else sa k, h_sl, fun i hi => ?_⟩, hs, hR.keep hA hLs (fun b hb _ h1 h3 h4 h5 h6 h7 => hF b hb h1 h3 h4 h5 h6 h7)⟩, Or.inr ⟨n, e, hm, hfit, rfl⟩⟩
    by_cases hij : i = j
    · rw [hij, va_up_self]
      simp only [if_pos]
      exact hq
    · rw [va_up_ne _ _ hij]
      simp only [if_neg hij]
      exact (hSl i hi).keep hLs (fun b hb hn => hF b hb (hA.out hn (by decide)) (hA.out hn (by decide)) (hA.out hn (by decide)) (hA.out hn (by decide)) (hA.out hn (by decide)) (hA.out hn (by decide)))
