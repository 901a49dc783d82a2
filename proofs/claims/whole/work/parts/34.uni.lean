/-! one answer each -/
theorem ite_uni {c : Prop} [Decidable c] {A1 B1 A2 B2 G : Prop} (h1 : if c then A1 else B1) (h2 : if c then A2 else B2) (ha : A1 → A2 → G) (hb : B1 → B2 → G) : G := by
  by_cases h : c
  · rw [if_pos h] at h1 h2; exact ha h1 h2
  · rw [if_neg h] at h1 h2; exact hb h1 h2
theorem two_uni {α β : Type} {a a1 a2 : α} {b b1 b2 : β} (h1 : a1 = a ∧ b1 = b) (h2 : a2 = a ∧ b2 = b) : a1 = a2 ∧ b1 = b2 := ⟨h1.1.trans h2.1.symm, h1.2.trans h2.2.symm⟩
theorem sp_put_uni {base : Nat} {SS S1 S2 : Nat → Nat → Bool} {to kind a m0 r1 r2 : Int32} (hb : 0 < base) (h1 : sp_put base SS S1 to kind a m0 r1) (h2 : sp_put base SS S2 to kind a m0 r2) : r1 = r2 ∧ S1 = S2 := by
  unfold sp_put at h1 h2
  exact ite_uni h1 h2 two_uni (fun h1 h2 => ite_uni h1 h2 two_uni (fun h1 h2 => h1.uni hb h2))
theorem sp_join_uni {base : Nat} {SS S1 S2 : Nat → Nat → Bool} {to one other way r1 r2 : Int32} (hb : 0 < base) (h1 : sp_join base SS S1 to one other way r1) (h2 : sp_join base SS S2 to one other way r2) : r1 = r2 ∧ S1 = S2 := by
  unfold sp_join at h1 h2
  exact ite_uni h1 h2 two_uni (fun h1 h2 => ite_uni h1 h2 two_uni (fun h1 h2 => h1.uni hb h2))
theorem sp_un_uni {base : Nat} {SS S1 S2 : Nat → Nat → Bool} {to fr : Int32} {ok : Bool} {X : (Nat → Bool) → Nat → Bool} {r1 r2 : Int32} (hb : 0 < base) (h1 : sp_un base SS S1 to fr ok X r1) (h2 : sp_un base SS S2 to fr ok X r2) : r1 = r2 ∧ S1 = S2 := by
  unfold sp_un at h1 h2
  exact ite_uni h1 h2 two_uni (fun h1 h2 => ite_uni h1 h2 two_uni (fun h1 h2 => h1.uni hb h2))
theorem thr_uni {α β γ : Type} {a a1 a2 : α} {b b1 b2 : β} {d d1 d2 : γ} (h1 : a1 = a ∧ b1 = b ∧ d1 = d) (h2 : a2 = a ∧ b2 = b ∧ d2 = d) : a1 = a2 ∧ b1 = b2 ∧ d1 = d2 := ⟨h1.1.trans h2.1.symm, two_uni h1.2 h2.2⟩
theorem fou_uni {α β γ δ : Type} {a a1 a2 : α} {b b1 b2 : β} {d d1 d2 : γ} {x x1 x2 : δ} (h1 : a1 = a ∧ b1 = b ∧ d1 = d ∧ x1 = x) (h2 : a2 = a ∧ b2 = b ∧ d2 = d ∧ x2 = x) : a1 = a2 ∧ b1 = b2 ∧ d1 = d2 ∧ x1 = x2 := ⟨h1.1.trans h2.1.symm, thr_uni h1.2 h2.2⟩
theorem sp_base_uni {base b1 b2 : Nat} {SS S1 S2 : Nat → Nat → Bool} {n r1 r2 : Int32} (h1 : sp_base base SS b1 S1 n r1) (h2 : sp_base base SS b2 S2 n r2) : r1 = r2 ∧ b1 = b2 ∧ S1 = S2 := by
  unfold sp_base at h1 h2
  exact ite_uni h1 h2 thr_uni thr_uni
theorem sp_image_uni {base : Nat} {SS : Nat → Nat → Bool} {kp k1 k2 : Nat → Bool} {kb b1 b2 : Nat → Nat} {KS K1 K2 : Nat → Nat → Nat → Bool} {x r1 r2 : Int32} (h1 : sp_image base SS kp k1 kb b1 KS K1 x r1) (h2 : sp_image base SS kp k2 kb b2 KS K2 x r2) : r1 = r2 ∧ k1 = k2 ∧ b1 = b2 ∧ K1 = K2 := by
  unfold sp_image at h1 h2
  exact ite_uni h1 h2 fou_uni fou_uni
theorem sp_restore_uni {base b1 b2 : Nat} {SS S1 S2 : Nat → Nat → Bool} {kp : Nat → Bool} {kb : Nat → Nat} {KS : Nat → Nat → Nat → Bool} {x r1 r2 : Int32} (h1 : sp_restore base SS b1 S1 kp kb KS x r1) (h2 : sp_restore base SS b2 S2 kp kb KS x r2) : r1 = r2 ∧ b1 = b2 ∧ S1 = S2 := by
  unfold sp_restore at h1 h2
  exact ite_uni h1 h2 thr_uni (fun h1 h2 => ite_uni h1 h2 thr_uni thr_uni)
theorem e_uni {α : Type} {a a1 a2 : α} (h1 : a1 = a) (h2 : a2 = a) : a1 = a2 := h1.trans h2.symm
theorem rd_has_uni {SS : Nat → Nat → Bool} {x y r1 r2 : Int32} (h1 : rd_has SS x y r1) (h2 : rd_has SS x y r2) : r1 = r2 := by
  unfold rd_has at h1 h2
  exact ite_uni h1 h2 e_uni (fun h1 h2 => ite_uni h1 h2 e_uni e_uni)
theorem rd_below_uni {SS : Nat → Nat → Bool} {x y r1 r2 : Int32} (h1 : rd_below SS x y r1) (h2 : rd_below SS x y r2) : r1 = r2 := by
  unfold rd_below at h1 h2
  exact ite_uni h1 h2 e_uni (fun h1 h2 => ite_uni h1 h2 e_uni e_uni)
theorem rd_next_uni {SS : Nat → Nat → Bool} {x y r1 r2 : Int32} (h1 : rd_next SS x y r1) (h2 : rd_next SS x y r2) : r1 = r2 := by
  unfold rd_next at h1 h2
  refine ite_uni h1 h2 e_uni (fun h1 h2 => ite_uni h1 h2 e_uni (fun h1 h2 => ?_))
  obtain ⟨t, q, a, e⟩ := h1
  obtain ⟨t', q', a', e'⟩ := h2
  obtain ⟨rfl, rfl⟩ := a.uni a'
  exact e.trans e'.symm
theorem rd_walk_uni {base : Nat} {SS : Nat → Nat → Bool} {x y z r1 r2 : Int32} (hb : 0 < base) (h1 : rd_walk base SS x y z r1) (h2 : rd_walk base SS x y z r2) : r1 = r2 := by
  unfold rd_walk at h1 h2
  refine ite_uni h1 h2 e_uni (fun h1 h2 => ite_uni h1 h2 e_uni (fun h1 h2 => ?_))
  obtain ⟨n, a, e⟩ := h1
  obtain ⟨n', a', e'⟩ := h2
  obtain rfl := a.uni hb a'
  exact e.trans e'.symm
theorem TV_uni {S : Nat → Bool} {base w : Nat} {r1 r2 : Int32} (hb : 0 < base) (h1 : TV S base w r1) (h2 : TV S base w r2) : r1 = r2 := by
  unfold TV at h1 h2
  rcases h1 with ⟨e, t, q, a, x⟩ | ⟨e, t, q, a, x⟩ | ⟨e, n, a, x⟩ | ⟨e, n, a, x⟩ | ⟨e, t, q, a, x⟩ | ⟨e, t, q, a, x⟩ <;> rcases h2 with ⟨e', t', q', a', x'⟩ | ⟨e', t', q', a', x'⟩ | ⟨e', n', a', x'⟩ | ⟨e', n', a', x'⟩ | ⟨e', t', q', a', x'⟩ | ⟨e', t', q', a', x'⟩ <;> first | (exfalso; omega) | (obtain ⟨rfl, rfl⟩ := a.uni a'; exact x.trans x'.symm) | (obtain rfl := a.uni hb a'; exact x.trans x'.symm)
theorem rd_told_uni {base : Nat} {SS : Nat → Nat → Bool} {x y r1 r2 : Int32} (hb : 0 < base) (h1 : rd_told base SS x y r1) (h2 : rd_told base SS x y r2) : r1 = r2 := by
  unfold rd_told at h1 h2
  exact ite_uni h1 h2 e_uni (fun h1 h2 => ite_uni h1 h2 e_uni (TV_uni hb))
theorem SV_uni {S : Nat → Bool} {base n i w : Nat} {r1 r2 : Int32} (h1 : SV S base n i w r1) (h2 : SV S base n i w r2) : r1 = r2 := by
  unfold SV at h1 h2
  rcases h1 with ⟨e, ⟨a, x⟩ | ⟨a, x⟩⟩ | ⟨e, x⟩ | ⟨e, x⟩ | ⟨e, x⟩ <;> rcases h2 with ⟨e', ⟨a', x'⟩ | ⟨a', x'⟩⟩ | ⟨e', x'⟩ | ⟨e', x'⟩ | ⟨e', x'⟩ <;> first | (exfalso; omega) | exact x.trans x'.symm
theorem rd_state_uni {base : Nat} {SS : Nat → Nat → Bool} {x y z r1 r2 : Int32} (hb : 0 < base) (h1 : rd_state base SS x y z r1) (h2 : rd_state base SS x y z r2) : r1 = r2 := by
  unfold rd_state at h1 h2
  refine ite_uni h1 h2 e_uni (fun h1 h2 => ?_)
  obtain ⟨n, a, x⟩ := h1
  obtain ⟨n', a', x'⟩ := h2
  obtain rfl := a.uni hb a'
  exact ite_uni x x' e_uni (fun h1 h2 => ite_uni h1 h2 e_uni SV_uni)
theorem AV_uni {S T : Nat → Bool} {w : Nat} {r1 r2 : Int32} (h1 : AV S T w r1) (h2 : AV S T w r2) : r1 = r2 := by
  unfold AV at h1 h2
  rcases h1 with ⟨e, x⟩ | ⟨e, x⟩ | ⟨e, x⟩ | ⟨e, x⟩ | ⟨e, x⟩ <;> rcases h2 with ⟨e', x'⟩ | ⟨e', x'⟩ | ⟨e', x'⟩ | ⟨e', x'⟩ | ⟨e', x'⟩ <;> first | (exfalso; omega) | exact x.trans x'.symm | exact x.uni x'
theorem rd_alike_uni {SS : Nat → Nat → Bool} {x y z r1 r2 : Int32} (h1 : rd_alike SS x y z r1) (h2 : rd_alike SS x y z r2) : r1 = r2 := by
  unfold rd_alike at h1 h2
  exact ite_uni h1 h2 e_uni (fun h1 h2 => ite_uni h1 h2 e_uni AV_uni)
theorem fsum_cong {x y : Nat → Nat} : ∀ {n : Nat}, (∀ i, i < n → x i = y i) → fsum x n = fsum y n
  | 0, _ => rfl
  | n + 1, h => by rw [fsum, fsum, fsum_cong (fun i hi => h i (Nat.lt_succ_of_lt hi)), h n (Nat.lt_succ_self n)]
theorem CV_uni {base : Nat} {SS : Nat → Nat → Bool} {kp : Nat → Bool} {w : Nat} {r1 r2 : Int32} (hb : 0 < base) (h1 : CV base SS kp w r1) (h2 : CV base SS kp w r2) : r1 = r2 := by
  unfold CV at h1 h2
  rcases h1 with ⟨e, x⟩ | ⟨e, x⟩ | ⟨e, x⟩ | ⟨e, nn, a, x⟩ | ⟨e, x⟩ <;> rcases h2 with ⟨e', x'⟩ | ⟨e', x'⟩ | ⟨e', x'⟩ | ⟨e', nn', a', x'⟩ | ⟨e', x'⟩ <;> first | (exfalso; omega) | exact x.trans x'.symm | (rw [x, x', fsum_cong (fun i hi => (a i hi).uni hb (a' i hi))])
theorem rd_count_uni {base : Nat} {SS : Nat → Nat → Bool} {kp : Nat → Bool} {x r1 r2 : Int32} (hb : 0 < base) (h1 : rd_count base SS kp x r1) (h2 : rd_count base SS kp x r2) : r1 = r2 := by
  unfold rd_count at h1 h2
  exact ite_uni h1 h2 e_uni (CV_uni hb)
/-! the class's world beside the model's -/
theorem NmW.keep2 {cy : Nat → ClassId} {L L1 : List Nat} {f f1 : Nat → va_E} {M : List Nat} {A : Nat → Nat} {base : Nat} {SS : Nat → Nat → Bool} {kp : Nat → Bool} {kb : Nat → Nat} {KS : Nat → Nat → Nat → Bool} (h : NmW cy L f M A base SS kp kb KS) (hL : ∀ b ∈ L, b ∈ L1) (h1 : ∀ i, i < 12 → f1 (A i) = f (A i)) (hf : ∀ b ∈ L, b ∉ M → f1 b = f b) : NmW cy L1 f1 M A base SS kp kb KS := by
  obtain ⟨hB, h_nm, ⟨sa, h_sl, hSl⟩, hs, hi, g1, g2⟩ := h
  exact ⟨hB, h_nm.keep hL (h1 0 (by decide)), ⟨sa, h_sl.keep hL (h1 1 (by decide)), fun j hj => (hSl j hj).keep hL hf⟩, hs.keep hL (h1 3 (by decide)) (h1 4 (by decide)) (h1 5 (by decide)) (h1 6 (by decide)) (h1 7 (by decide)), hi.keep hL (h1 2 (by decide)), g1.keep hL (h1 8 (by decide)) (h1 10 (by decide)) hf, g2.keep hL (h1 9 (by decide)) (h1 11 (by decide)) hf⟩
theorem Rnd.more {cy : Nat → ClassId} {L : List Nat} {f : Nat → va_E} {M N : List Nat} {a : Nat} {S : Nat → Bool} {base : Nat} (h : Rnd cy L f M a S base) (hN : ∀ x ∈ N, x ∉ L) : Rnd cy L f (M ++ N) a S base := by
  obtain ⟨t, q, b, n, h1, h2, rw, mc, gs, m1, m2, m3, m4, c1, c2, c3, c4⟩ := h
  have hm : ∀ x, x ∉ M → x ∈ L → x ∉ M ++ N := fun x h5 h6 h7 => by
    rcases List.mem_append.mp h7 with h8 | h8
    · exact h5 h8
    · exact hN x h8 h6
  exact ⟨t, q, b, n, h1, h2, rw, mc, gs, hm _ m1 c1.1, hm _ m2 c2.1, hm _ m3 c3.1, hm _ m4 c4.1, c1, c2, c3, c4⟩
theorem Img.more {cy : Nat → ClassId} {L : List Nat} {f : Nat → va_E} {M N : List Nat} {g s : Nat} {kp : Bool} {kb : Nat} {KS : Nat → Nat → Bool} (h : Img cy L f M g s kp kb KS) (hN : ∀ x ∈ N, x ∉ L) : Img cy L f (M ++ N) g s kp kb KS := by
  obtain ⟨ia, h1, h2, h3⟩ := h
  refine ⟨ia, h1, h2, fun hk => ⟨(h3 hk).1, ?_⟩⟩
  obtain ⟨ga, e, hq⟩ := (h3 hk).2
  exact ⟨ga, e, fun j hj => (hq j hj).more hN⟩
theorem NmW.more {cy : Nat → ClassId} {L : List Nat} {f : Nat → va_E} {M N : List Nat} {A : Nat → Nat} {base : Nat} {SS : Nat → Nat → Bool} {kp : Nat → Bool} {kb : Nat → Nat} {KS : Nat → Nat → Nat → Bool} (h : NmW cy L f M A base SS kp kb KS) (hN : ∀ x ∈ N, x ∉ L) : NmW cy L f (M ++ N) A base SS kp kb KS := by
  obtain ⟨hB, h_nm, ⟨sa, h_sl, hSl⟩, hs, hi, g1, g2⟩ := h
  exact ⟨hB, h_nm, ⟨sa, h_sl, fun j hj => (hSl j hj).more hN⟩, hs, hi, g1.more hN, g2.more hN⟩
/-- both at once -/
def BothW (cy : Nat → ClassId) (L : List Nat) (f : Nat → va_E) (M : List Nat) (A Z : Nat → Nat) (base : Nat) (SS : Nat → Nat → Bool) (kp : Nat → Bool) (kb : Nat → Nat) (KS : Nat → Nat → Nat → Bool) : Prop := AdOK L M A ∧ MAd Z ∧ (∀ i, i < 9 → Z i ∈ M) ∧ (∀ i j, i < 12 → j < 9 → A i ≠ Z j) ∧ NmW cy L f M A base SS kp kb KS ∧ MoW cy L f Z base SS kp kb KS
theorem AdOK.grow {L L1 M : List Nat} {A : Nat → Nat} (h : AdOK L M A) (hL : ∀ b ∈ L, b ∈ L1) : AdOK L1 M A := ⟨h.1, h.2.1, fun x hx => hL x (h.2.2 x hx)⟩
theorem lt_len {n i : Nat} (hn : n ≤ 2560) (hi : i ≤ 2560) (h : ¬ nI n - nI 5 < nI i) : i + 5 ≤ n := by
  rw [i32_lt, pk_sub_toInt (by omega) (by omega), nI_t (by omega)] at h
  omega
theorem ge_len {n i : Nat} (hn : n ≤ 2560) (hi : i ≤ 2560) (h : nI n - nI 5 < nI i) : n < i + 5 := by
  rw [i32_lt, pk_sub_toInt (by omega) (by omega), nI_t (by omega)] at h
  omega
theorem MoW.mem {cy : Nat → ClassId} {L : List Nat} {f : Nat → va_E} {A : Nat → Nat} {base : Nat} {SS : Nat → Nat → Bool} {kp : Nat → Bool} {kb : Nat → Nat} {KS : Nat → Nat → Nat → Bool} (h : MoW cy L f A base SS kp kb KS) : ∀ i, i < 9 → A i ∈ L := by
  obtain ⟨hB, fr, pb, ns, T, P, B, rr, G, Fa, kb1, ⟨c0, c1, c2, c3, c4, c5, c6, c7, c8⟩, h2⟩ := h
  intro i hi
  rcases (show i = 0 ∨ i = 1 ∨ i = 2 ∨ i = 3 ∨ i = 4 ∨ i = 5 ∨ i = 6 ∨ i = 7 ∨ i = 8 by omega) with rfl | rfl | rfl | rfl | rfl | rfl | rfl | rfl | rfl
  · exact c0.1
  · exact c1.1
  · exact c2.1
  · exact c3.1
  · exact c4.1
  · exact c5.1
  · exact c6.1
  · exact c7.1
  · exact c8.1
theorem MoW.obj {cy : Nat → ClassId} {L : List Nat} {f : Nat → va_E} {A : Nat → Nat} {base : Nat} {SS : Nat → Nat → Bool} {kp : Nat → Bool} {kb : Nat → Nat} {KS : Nat → Nat → Nat → Bool} (h : MoW cy L f A base SS kp kb KS) : ∃ vs, cel L f (A 0) (.inr (6, vs)) := by
  obtain ⟨hB, fr, pb, ns, T, P, B, rr, G, Fa, kb1, ⟨c0, c1⟩, h2⟩ := h
  exact ⟨_, c0⟩
theorem both_start {cy : Nat → ClassId} {La Lb : List Nat} {fa f : Nat → va_E} {M0 : List Nat} {A Z : Nat → Nat} (hAd : AdOK La M0 A) (hN : NmW cy La fa M0 A 2 (fun _ _ => false) (fun _ => false) (fun _ => 2) (fun _ _ _ => false)) (hLn : ∀ b ∈ La, b ∈ Lb) (hK : ∀ b ∈ La, f b = fa b) (hZA : MAd Z) (hZn : ∀ i, i < 9 → Z i ∉ La) (hMo : MoW cy Lb f Z 2 (fun _ _ => false) (fun _ => false) (fun _ => 2) (fun _ _ _ => false)) : ∃ M, BothW cy Lb f M A Z 2 (fun _ _ => false) (fun _ => false) (fun _ => 2) (fun _ _ _ => false) := by
  refine ⟨M0 ++ (List.range 9).map Z, ⟨fun i hi => List.mem_append_left _ (hAd.1 i hi), hAd.2.1, fun x hx => ?_⟩, hZA, fun i hi => List.mem_append_right _ (List.mem_map.mpr ⟨i, List.mem_range.mpr hi, rfl⟩), fun i j hi hj e => hZn j hj (e ▸ hAd.2.2 _ (hAd.1 i hi)), (hN.more (fun x hx => ?_)).keep hLn hK, hMo⟩
  · rcases List.mem_append.mp hx with h | h
    · exact hLn _ (hAd.2.2 x h)
    · obtain ⟨i, hi, rfl⟩ := List.mem_map.mp h
      exact hMo.mem i (List.mem_range.mp hi)
  · obtain ⟨i, hi, rfl⟩ := List.mem_map.mp hx
    exact hZn i (List.mem_range.mp hi)
theorem nx_in : ∀ w ∈ nxW, w ∈ lw_tbl := by
  intro w hw
  simp only [nxW, List.mem_cons, List.not_mem_nil, or_false] at hw
  rcases hw with rfl | rfl | rfl | rfl | rfl | rfl | rfl | rfl | rfl | rfl | rfl | rfl | rfl | rfl | rfl | rfl | rfl | rfl | rfl | rfl | rfl | rfl
  · exact List.mem_append_right _ (List.mem_append_left _ (List.mem_of_getElem? (i := 26) rfl))
  · exact List.mem_append_right _ (List.mem_append_left _ (List.mem_of_getElem? (i := 31) rfl))
  · exact List.mem_append_right _ (List.mem_append_left _ (List.mem_of_getElem? (i := 32) rfl))
  · exact List.mem_append_right _ (List.mem_append_left _ (List.mem_of_getElem? (i := 33) rfl))
  · exact List.mem_append_right _ (List.mem_append_left _ (List.mem_of_getElem? (i := 34) rfl))
  · exact List.mem_append_right _ (List.mem_append_left _ (List.mem_of_getElem? (i := 36) rfl))
  · exact List.mem_append_right _ (List.mem_append_left _ (List.mem_of_getElem? (i := 37) rfl))
  · exact List.mem_append_right _ (List.mem_append_left _ (List.mem_of_getElem? (i := 49) rfl))
  · exact List.mem_append_right _ (List.mem_append_left _ (List.mem_of_getElem? (i := 74) rfl))
  · exact List.mem_append_right _ (List.mem_append_left _ (List.mem_of_getElem? (i := 82) rfl))
  · exact List.mem_append_right _ (List.mem_append_left _ (List.mem_of_getElem? (i := 124) rfl))
  · exact List.mem_append_right _ (List.mem_append_left _ (List.mem_of_getElem? (i := 135) rfl))
  · exact List.mem_append_right _ (List.mem_append_left _ (List.mem_of_getElem? (i := 153) rfl))
  · exact List.mem_append_right _ (List.mem_append_left _ (List.mem_of_getElem? (i := 190) rfl))
  · exact List.mem_append_right _ (List.mem_append_left _ (List.mem_of_getElem? (i := 193) rfl))
  · exact List.mem_append_right _ (List.mem_append_left _ (List.mem_of_getElem? (i := 216) rfl))
  · exact List.mem_append_right _ (List.mem_append_left _ (List.mem_of_getElem? (i := 218) rfl))
  · exact List.mem_append_right _ (List.mem_append_left _ (List.mem_of_getElem? (i := 221) rfl))
  · exact List.mem_append_right _ (List.mem_append_right _ (List.mem_append_left _ (List.mem_of_getElem? (i := 30) rfl)))
  · exact List.mem_append_right _ (List.mem_append_right _ (List.mem_append_left _ (List.mem_of_getElem? (i := 54) rfl)))
  · exact List.mem_append_right _ (List.mem_append_right _ (List.mem_append_left _ (List.mem_of_getElem? (i := 82) rfl)))
  · exact List.mem_append_right _ (List.mem_append_left _ (List.mem_of_getElem? (i := 180) rfl))
theorem ao_I : Cond.arrayOver (.object "NumberMachines$Image") ∈ lw_tbl := List.mem_append_right _ (List.mem_append_left _ (List.mem_of_getElem? (i := 23) rfl))
theorem ao_R : Cond.arrayOver (.object "NumberMachines$Round") ∈ lw_tbl := List.mem_append_right _ (List.mem_append_left _ (List.mem_of_getElem? (i := 21) rfl))
theorem kk_start {s : State} {a : Array Value} (hts : ∀ w ∈ lw_tbl, w.before a s = true) : ∃ (D : va_G) (cy : Nat → ClassId), KK D cy s := by
  have htw : ∀ w ∈ wsL_law, w.before a s = true := fun w h => hts w (wsL_in w h)
  obtain ⟨c0, i0, k0⟩ := u_known (C := RX0) (T := TX0) (N := 3) (n := 3) htw inlX0 (htw _ w1_25)
  obtain ⟨c1, i1, k1⟩ := u_known (C := RX1) (T := TX1) (N := 3) (n := 3) htw inlX1 (htw _ w1_73)
  obtain ⟨c2, i2, k2⟩ := u_known (C := RX2) (T := TX2) (N := 4) (n := 4) htw inlX2 (htw _ w1_171)
  obtain ⟨c3, i3, k3⟩ := u_known (C := RX3) (T := TX3) (N := 4) (n := 4) htw inlX3 (htw _ w1_165)
  obtain ⟨c4, i4, k4⟩ := u_known (C := RX4) (T := TX4) (N := 6) (n := 6) htw inlX4 (htw _ w1_48)
  obtain ⟨c5, i5, k5⟩ := u_known (C := RX5) (T := TX5) (N := 5) (n := 5) htw inlX5 (htw _ w1_13)
  obtain ⟨c6, i6, k6⟩ := u_known (C := RX6) (T := TX6) (N := 12) (n := 12) htw inlX6 (htw _ w2_227)
  obtain ⟨cI, kI, pI, aI1, aI2, aI3⟩ := Cond.arrayClass_spec (htw _ w1_72)
  obtain ⟨cJ, kJ, pJ, aJ1, aJ2, aJ3⟩ := Cond.arrayClass_spec (htw _ w1_46)
  obtain ⟨cB, kB, pB, aB1, aB2, aB3⟩ := Cond.arrayClass_spec (htw _ w3_29)
  obtain ⟨pM, cM, kM, aM1, aM2, aM3, aM4, aM5⟩ := Cond.arrayOver_spec (hts _ ao_I)
  obtain ⟨pO, cO, kO, aO1, aO2, aO3, aO4, aO5⟩ := Cond.arrayOver_spec (hts _ ao_R)
  refine ⟨(fun k => if k = 0 then c0 else if k = 1 then c1 else if k = 2 then c2 else if k = 3 then c3 else if k = 4 then c4 else if k = 5 then c5 else c6, fun k => if k = 0 then i0 else if k = 1 then i1 else if k = 2 then i2 else if k = 3 then i3 else if k = 4 then i4 else if k = 5 then i5 else i6), fun k => if k = 0 then cI else if k = 1 then cJ else if k = 2 then cB else if k = 3 then cM else cO, ⟨?_, ?_⟩, fun w hw => va_Nw.of (nx_tab w hw) (hts w (nx_in w hw)), va_AO.of (hts _ ao_I), va_AO.of (hts _ ao_R)⟩
  · intro k q hq
    match k, hq with
    | 0, hq => cases hq; exact k0
    | 1, hq => cases hq; exact k1
    | 2, hq => cases hq; exact k2
    | 3, hq => cases hq; exact k3
    | 4, hq => cases hq; exact k4
    | 5, hq => cases hq; exact k5
    | 6, hq => cases hq; exact k6
    | k + 7, hq => simp [vwCl] at hq
  · intro k q hq
    match k, hq with
    | 0, hq => cases hq; exact ⟨fun n z => ⟨fun k h => (by cases h), kI, aI2, pI, aI3⟩, aI1⟩
    | 1, hq => cases hq; exact ⟨fun n z => ⟨fun k h => (by cases h), kJ, aJ2, pJ, aJ3⟩, aJ1⟩
    | 2, hq => cases hq; exact ⟨fun n z => ⟨fun k h => (by cases h), kB, aB2, pB, aB3⟩, aB1⟩
    | 3, hq => cases hq; exact ⟨fun n z => ⟨fun k h => (by cases h), kM, aM3, pM, aM4⟩, kM, pM, aM3, aM4, aM1, aM5⟩
    | 4, hq => cases hq; exact ⟨fun n z => ⟨fun k h => (by cases h), kO, aO3, pO, aO4⟩, kO, pO, aO3, aO4, aO1, aO5⟩
    | k + 5, hq => simp [tyz] at hq
