section KU
variable {p : Program} {l : Launch} {e : Env} {R : Room} {s : State} {m : MethodId} {args : Array Value} {below : List Frame} {meth : Method} {c : Code} {H : Heap} {locs : List Loc} {cells slots : Nat} {Q : State → Prop} {cc : ByteArray} {nL : Nat} {own : String} {D : va_G} {cy : Nat → ClassId} {A : Nat → Prop} {H0 : Heap} {L : List Nat} {f : Nat → va_E} {pc : Nat} {ls : Array Slot} {rest : List Value}
theorem k_copyl (E : EE p s m args c cc nL own D cy) (hls : ls.size = nL) {index : Nat} (h1 : Cond.methodLink own index arraycopyName ∈ wsL_law) (h2 : Cond.native arraycopyName ∈ wsL_law) (h3 : Cond.static arraycopyName ∈ wsL_law) (h4 : Cond.initialized "java/lang/System" ∈ wsL_law) (hw : WW D A H0 L f H locs) {a0 a n0 n1 sp dp n : Nat} {x y : Nat → Int64} (g' : Nat → Int64) (hc0 : cel L f a0 (.inl (cy 1, n0, .inr (.inl x)))) (hc1 : cel L f a (.inl (cy 1, n1, .inr (.inl y)))) (b1 : sp + n ≤ n0) (b2 : dp + n ≤ n1) (b3 : n0 < 2147483648) (b4 : n1 < 2147483648) (hg : ∀ j, j < n1 → va_cpy x y sp dp n j = g' j) (hfr : 1 ≤ R.frames) (hlo : (rest.map fun v => v.category).sum + 18 ≤ R.locals) (hdg : decode cc pc = .ok (.invokestatic index, 3))
    (kk : ∀ (f1 : Nat → va_E) (H1 : Heap) (locs1 : List Loc), cel L f1 a (.inl (cy 1, n1, .inr (.inl g'))) → (∀ b, b ≠ a → f1 b = f b) → WW D A H0 L f1 H1 locs1 → W p l e R s m args below meth c H1 locs1 cells slots Q (F0 m (pc + 3) ls rest)) : W p l e R s m args below meth c H locs cells slots Q (F0 m pc ls (.int (nI n) :: .int (nI dp) :: .ref a :: .int (nI sp) :: .ref a0 :: rest)) := by
  obtain ⟨q0, hq0⟩ := hc0.at
  obtain ⟨q1, hq1⟩ := hc1.at
  refine va_copyl E.1.1 E.1.2.1 (by rw [hls]; exact E.1.2.2.1) E.1.2.2.2.1 (E.1.2.2.2.2 _ h1) (E.1.2.2.2.2 _ h2) (E.1.2.2.2.2 _ h3) (E.1.2.2.2.2 _ h4) E.2.1 hw.1 hw.2.1 hw.2.2.1 q0 q1 1 1 (ty := .long) hq0 hq1 rfl rfl rfl (nI_pos (show sp < 2 ^ 31 by omega)) (nI_pos (show dp < 2 ^ 31 by omega)) (nI_pos (show n < 2 ^ 31 by omega)) ?_ ?_ (fun _ _ => rfl) hfr hlo hdg (fun H1 locs1 hP hD hS => ?_)
  · rw [nI_clamp (show sp < 2 ^ 31 by omega), nI_clamp (show n < 2 ^ 31 by omega)]; exact b1
  · rw [nI_clamp (show dp < 2 ^ 31 by omega), nI_clamp (show n < 2 ^ 31 by omega)]; exact b2
  rw [nI_clamp (show sp < 2 ^ 31 by omega), nI_clamp (show dp < 2 ^ 31 by omega), nI_clamp (show n < 2 ^ 31 by omega)] at hP hD
  exact kk (va_up f a (.inl (cy 1, n1, .inr (.inl g')))) H1 locs1 (up_at hc1.1) (fun b hb => va_up_ne _ _ hb) (k_upd hw hc1 hq1 hP hD hS (at_long hg))
theorem k_copyi (E : EE p s m args c cc nL own D cy) (hls : ls.size = nL) {index : Nat} (h1 : Cond.methodLink own index arraycopyName ∈ wsL_law) (h2 : Cond.native arraycopyName ∈ wsL_law) (h3 : Cond.static arraycopyName ∈ wsL_law) (h4 : Cond.initialized "java/lang/System" ∈ wsL_law) (hw : WW D A H0 L f H locs) {a0 a n0 n1 sp dp n : Nat} {x y : Nat → Int32} (g' : Nat → Int32) (hc0 : cel L f a0 (.inl (cy 0, n0, .inl x))) (hc1 : cel L f a (.inl (cy 0, n1, .inl y))) (b1 : sp + n ≤ n0) (b2 : dp + n ≤ n1) (b3 : n0 < 2147483648) (b4 : n1 < 2147483648) (hg : ∀ j, j < n1 → va_cpy x y sp dp n j = g' j) (hfr : 1 ≤ R.frames) (hlo : (rest.map fun v => v.category).sum + 18 ≤ R.locals) (hdg : decode cc pc = .ok (.invokestatic index, 3))
    (kk : ∀ (f1 : Nat → va_E) (H1 : Heap) (locs1 : List Loc), cel L f1 a (.inl (cy 0, n1, .inl g')) → (∀ b, b ≠ a → f1 b = f b) → WW D A H0 L f1 H1 locs1 → W p l e R s m args below meth c H1 locs1 cells slots Q (F0 m (pc + 3) ls rest)) : W p l e R s m args below meth c H locs cells slots Q (F0 m pc ls (.int (nI n) :: .int (nI dp) :: .ref a :: .int (nI sp) :: .ref a0 :: rest)) := by
  obtain ⟨q0, hq0⟩ := hc0.at
  obtain ⟨q1, hq1⟩ := hc1.at
  refine va_copyi E.1.1 E.1.2.1 (by rw [hls]; exact E.1.2.2.1) E.1.2.2.2.1 (E.1.2.2.2.2 _ h1) (E.1.2.2.2.2 _ h2) (E.1.2.2.2.2 _ h3) (E.1.2.2.2.2 _ h4) E.2.1 hw.1 hw.2.1 hw.2.2.1 q0 q1 0 0 (ty := .int) hq0 hq1 rfl rfl rfl (nI_pos (show sp < 2 ^ 31 by omega)) (nI_pos (show dp < 2 ^ 31 by omega)) (nI_pos (show n < 2 ^ 31 by omega)) ?_ ?_ (fun _ _ => rfl) hfr hlo hdg (fun H1 locs1 hP hD hS => ?_)
  · rw [nI_clamp (show sp < 2 ^ 31 by omega), nI_clamp (show n < 2 ^ 31 by omega)]; exact b1
  · rw [nI_clamp (show dp < 2 ^ 31 by omega), nI_clamp (show n < 2 ^ 31 by omega)]; exact b2
  rw [nI_clamp (show sp < 2 ^ 31 by omega), nI_clamp (show dp < 2 ^ 31 by omega), nI_clamp (show n < 2 ^ 31 by omega)] at hP hD
  exact kk (va_up f a (.inl (cy 0, n1, .inl g'))) H1 locs1 (up_at hc1.1) (fun b hb => va_up_ne _ _ hb) (k_upd hw hc1 hq1 hP hD hS (at_int hg))
theorem cyI_is (hK : KK D cy s) : s.vm.findClass "[I" = some (cy 0) := (hK.1.2 0 (cy 0, .int) rfl).2
theorem k_clonei (E : EE p s m args c cc nL own D cy) (hls : ls.size = nL) {index : Nat} (h1 : Cond.methodLink own index ⟨"[I", "clone", "()Ljava/lang/Object;"⟩ ∈ wsL_law) (h2 : Cond.sameMethod "[I" "java/lang/Object" "clone" "()Ljava/lang/Object;" ∈ wsL_law) (h3 : Cond.native ⟨"java/lang/Object", "clone", "()Ljava/lang/Object;"⟩ ∈ wsL_law) (h4 : Cond.instanceMethod ⟨"java/lang/Object", "clone", "()Ljava/lang/Object;"⟩ ∈ wsL_law) (h5 : Cond.selects "[I" ⟨"[I", "clone", "()Ljava/lang/Object;"⟩ ⟨"java/lang/Object", "clone", "()Ljava/lang/Object;"⟩ ∈ wsL_law) (hw : WW D A H0 L f H locs) {a n0 : Nat} {x : Nat → Int32} (hc0 : cel L f a (.inl (cy 0, n0, .inl x))) (hfr : 1 ≤ R.frames) (hlo : (rest.map fun v => v.category).sum + 14 ≤ R.locals) (hcells : cells + 1 ≤ R.cells) (hslots : slots + n0 ≤ R.slots) (hdg : decode cc pc = .ok (.invokevirtual index, 3))
    (kk : ∀ (q : Nat) (f1 : Nat → va_E) (H1 : Heap), q ∉ L → cel (L ++ [q]) f1 q (.inl (cy 0, n0, .inl x)) → (∀ b, b ≠ q → f1 b = f b) → WW D A H0 (L ++ [q]) f1 H1 locs → W p l e R s m args below meth c H1 locs (cells + 1) (slots + n0) Q (F0 m (pc + 3) ls (.ref q :: rest))) : W p l e R s m args below meth c H locs cells slots Q (F0 m pc ls (.ref a :: rest)) := by
  obtain ⟨q0, hq0⟩ := hc0.at
  refine va_clone E.1.1 E.1.2.1 (by rw [hls]; exact E.1.2.2.1) E.1.2.2.2.1 (E.1.2.2.2.2 _ h1) (E.1.2.2.2.2 _ h2) (E.1.2.2.2.2 _ h3) (E.1.2.2.2.2 _ h4) (E.1.2.2.2.2 _ h5) (E.2.2.1 _ (List.mem_of_getElem? (i := 21) rfl)) E.2.1 hw.1 hw.2.1 hw.2.2.1 hw.2.2.2 q0 0 (ty := .int) hq0 rfl (cyI_is E.2) ?_ hfr hlo hcells hslots hdg (fun q H1 hK hP hD hS => ?_)
  · intro i v hv
    have hi : i < n0 := by
      have := (Array.getElem?_eq_some_iff.mp hv).1
      have e1 : (vp_cell (cy 0) (n0, .inl x)).slots.size = n0 := arrV_size _ _ _
      omega
    have e2 : (vp_cell (cy 0) (n0, .inl x)).slots[i]? = some (.int (x i)) := arrV_read _ (fun j => .int (x j)) hi
    rw [e2] at hv
    obtain rfl := Option.some.inj hv
    rfl
  obtain ⟨hq, hw1⟩ := k_mk hw hP hD hS (fun _ h => h)
  exact kk q _ H1 hq (up_at mem_snoc) (fun b hb => va_up_ne _ _ hb) hw1
theorem k_casti (E : EE p s m args c cc nL own D cy) {index : Nat} (h1 : Cond.classLink own index "[I" ∈ wsL_law) (hw : WW D A H0 L f H locs) {a n0 : Nat} {x : Nat → Int32} (hc0 : cel L f a (.inl (cy 0, n0, .inl x))) (hdg : decode cc pc = .ok (.checkcast index, 3))
    (kk : W p l e R s m args below meth c H locs cells slots Q (F0 m (pc + 3) ls (.ref a :: rest))) : W p l e R s m args below meth c H locs cells slots Q (F0 m pc ls (.ref a :: rest)) := by
  obtain ⟨q0, hq0⟩ := hc0.at
  exact va_castA E.1.1 E.1.2.1 E.1.2.2.2.1 (E.1.2.2.2.2 _ h1) hw.1 q0 hq0 (cyI_is E.2) hdg kk
end KU
