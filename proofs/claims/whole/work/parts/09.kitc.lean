theorem k_rip {p : Program} {l : Launch} {e : Env} {R : Room} {s : State} {m : MethodId} {args : Array Value} {below : List Frame} {meth : Method} {c : Code} {H : Heap} {locs : List Loc} {cells slots : Nat} {Q : State → Prop} {pc : Nat} {ls : Array Slot} {rest : List Value} {a : Array Value} {st0 : List Value} {post : Int32 → Prop} (hr : va_Run p l e R s m args below meth c H locs cells slots 0 0 (F0 m pc ls st0) rest (vp_Si post a) (fun _ => False)) (kk : ∀ r, post r → W p l e R s m args below meth c H locs cells slots Q (F0 m (pc + 3) ls (.int r :: rest))) : W p l e R s m args below meth c H locs cells slots Q (F0 m pc ls st0) := by
  intro T hT X
  obtain ⟨v1, st₀, t, T', L1, h0, X', hL, e1, e2, ⟨r, hv, hp, hh⟩, st⟩ := hr T hT X
  cases hv
  obtain ⟨t2, a1, b1⟩ := kk r hp T' (by rw [e1, hh, h0]) (Stand.forget X' (fun q h => (hL q h).elim))
  exact ⟨t2, st t2 a1, b1⟩
theorem k_sw {D : va_G} {A : Nat → Prop} {H0 : Heap} {L : List Nat} {f : Nat → va_E} {H : Heap} {locs : List Loc} {a : Nat} {x y : va_E} (hw : WW D A H0 L f H locs) (hc : cel L f a x) (h : ∀ Hq : Heap, va_at D vwCl (a, x) Hq → va_at D vwCl (a, y) Hq) : ∃ f1, cel L f1 a y ∧ (∀ b, b ≠ a → f1 b = f b) ∧ WW D A H0 L f1 H locs := by
  obtain ⟨q0, hq⟩ := hc.at
  have e0 : (va_pl L f).set q0 (a, x) = va_pl L f := by
    apply List.ext_getElem?
    intro j
    by_cases hj : j = q0
    · subst hj
      rw [List.getElem?_set_self (List.getElem?_eq_some_iff.mp hq).1, hq]
    · rw [List.getElem?_set_ne (Ne.symm hj)]
  exact ⟨va_up f a y, up_at hc.1, fun b hb => va_up_ne _ _ hb, k_upd hw hc hq (by rw [e0]; exact hw.1) (by rw [e0]; exact hw.2.1) hw.2.2.1 h⟩
theorem k_swl {D : va_G} {A : Nat → Prop} {H0 : Heap} {L : List Nat} {f : Nat → va_E} {H : Heap} {locs : List Loc} {a n : Nat} {cA : ClassId} {g : Nat → Int64} (g' : Nat → Int64) (hw : WW D A H0 L f H locs) (hc : cel L f a (.inl (cA, n, .inr (.inl g)))) (h : ∀ j, j < n → g j = g' j) : ∃ f1, cel L f1 a (.inl (cA, n, .inr (.inl g'))) ∧ (∀ b, b ≠ a → f1 b = f b) ∧ WW D A H0 L f1 H locs := k_sw hw hc (at_long h)
theorem k_swi {D : va_G} {A : Nat → Prop} {H0 : Heap} {L : List Nat} {f : Nat → va_E} {H : Heap} {locs : List Loc} {a n : Nat} {cA : ClassId} {g : Nat → Int32} (g' : Nat → Int32) (hw : WW D A H0 L f H locs) (hc : cel L f a (.inl (cA, n, .inl g))) (h : ∀ j, j < n → g j = g' j) : ∃ f1, cel L f1 a (.inl (cA, n, .inl g')) ∧ (∀ b, b ≠ a → f1 b = f b) ∧ WW D A H0 L f1 H locs := k_sw hw hc (at_int h)
theorem k_swr {D : va_G} {A : Nat → Prop} {H0 : Heap} {L : List Nat} {f : Nat → va_E} {H : Heap} {locs : List Loc} {a n : Nat} {cA : ClassId} {g : Nat → Option Nat} (g' : Nat → Option Nat) (hw : WW D A H0 L f H locs) (hc : cel L f a (.inl (cA, n, .inr (.inr (.inr (.inr g)))))) (h : ∀ j, j < n → g j = g' j) : ∃ f1, cel L f1 a (.inl (cA, n, .inr (.inr (.inr (.inr g'))))) ∧ (∀ b, b ≠ a → f1 b = f b) ∧ WW D A H0 L f1 H locs := k_sw hw hc (at_ref h)
noncomputable def dB (x : Prop) : Bool := @decide x (Classical.propDecidable x)
theorem dB_t {x : Prop} (h : x) : dB x = true := @decide_eq_true x (Classical.propDecidable x) h
theorem dB_f {x : Prop} (h : ¬ x) : dB x = false := @decide_eq_false x (Classical.propDecidable x) h
theorem dB_iff {x : Prop} : dB x = true ↔ x := @decide_eq_true_iff x (Classical.propDecidable x)
