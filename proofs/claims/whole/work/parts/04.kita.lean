/-! OWN KIT: a world is a pool (L, f): the addresses L, what each holds f. One environment E, one world hypothesis hw. -/
def b2i (b : Bool) : Int32 := if b then 1 else 0
def nxW : List Cond := [.methodLinkNest RX5 23 yX0_init "NumberMachines", .fieldLinkNest RX3 22 "NumberMachines$Draft" "row" "[J" "NumberMachines", .fieldLinkNest RX4 39 "NumberMachines$Draft" "row" "[J" "NumberMachines", .fieldLinkNest RX3 9 "NumberMachines$Draft" "start" "I" "NumberMachines", .fieldLinkNest RX4 19 "NumberMachines$Draft" "start" "I" "NumberMachines", .fieldLinkNest RX3 18 "NumberMachines$Draft" "period" "I" "NumberMachines", .fieldLinkNest RX4 25 "NumberMachines$Draft" "period" "I" "NumberMachines", .methodLinkNest RX5 30 yX4_init "NumberMachines", .methodLinkNest RX5 35 yX1_init "NumberMachines", .fieldLinkNest RX5 147 "NumberMachines$Image" "kept" "Z" "NumberMachines", .methodLinkNest RX0 55 yX5_bit "NumberMachines", .methodLinkNest RX0 59 yX5_clearBit "NumberMachines", .methodLinkNest RX4 73 yX5_folded "NumberMachines", .fieldLinkNest RX5 89 "NumberMachines$Machine" "states" "I" "NumberMachines", .fieldLinkNest RX5 94 "NumberMachines$Machine" "good" "J" "NumberMachines", .fieldLinkNest RX5 79 "NumberMachines$Round" "start" "I" "NumberMachines", .fieldLinkNest RX5 82 "NumberMachines$Round" "period" "I" "NumberMachines", .fieldLinkNest RX5 85 "NumberMachines$Round" "machine" "LNumberMachines$Machine;" "NumberMachines", .methodLinkNest RX0 34 yX5_setBit "NumberMachines", .methodLinkNest RX3 45 yX5_bit "NumberMachines", .methodLinkNest RX3 37 yX5_folded "NumberMachines", .castable "[I" "java/lang/Cloneable"]
abbrev tyz (cy : Nat → ClassId) : List (ClassId × FieldType) := [(cy 0, .int), (cy 1, .long), (cy 2, .boolean), (cy 3, .object "NumberMachines$Image"), (cy 4, .object "NumberMachines$Round")]
def KK (D : va_G) (cy : Nat → ClassId) (U : State) : Prop := va_K D vwCl (tyz cy) U ∧ (∀ w ∈ nxW, va_Nw w U) ∧ va_AO "NumberMachines$Image" U ∧ va_AO "NumberMachines$Round" U
theorem nx_warm {s U : State} (hW : s.WarmedH U.vm) (h : ∀ w ∈ nxW, va_Nw w s) : ∀ w ∈ nxW, va_Nw w U := by
  intro w hw
  have h1 := h w hw
  simp only [nxW, List.mem_cons, List.not_mem_nil, or_false] at hw
  rcases hw with rfl | rfl | rfl | rfl | rfl | rfl | rfl | rfl | rfl | rfl | rfl | rfl | rfl | rfl | rfl | rfl | rfl | rfl | rfl | rfl | rfl | rfl <;> first | exact va_Nw.warmM hW h1 | exact va_Nw.warmF hW h1 | exact va_Nw.warmC hW h1
theorem nx_tab : ∀ w ∈ nxW, w.onTables = true := by decide +kernel
theorem KK.warm {D : va_G} {cy : Nat → ClassId} {s U : State} (hW : s.WarmedH U.vm) (h : KK D cy s) : KK D cy U := ⟨va_K.moved hW.alike h.1, nx_warm hW h.2.1, h.2.2.1.moved hW.alike, h.2.2.2.moved hW.alike⟩
theorem KK.same {D : va_G} {cy : Nat → ClassId} {s U : State} (hv : s.vm = U.vm) (h : KK D cy s) : KK D cy U := by
  have ha : s.vm.Alike U.vm := by rw [hv]; exact Vm.Alike.refl U.vm
  exact ⟨va_K.moved ha h.1, fun w hw => va_Nw.same (nx_tab w hw) hv (h.2.1 w hw), h.2.2.1.moved ha, h.2.2.2.moved ha⟩
/-- a cell of the pool -/
def cel (L : List Nat) (f : Nat → va_E) (a : Nat) (e : va_E) : Prop := a ∈ L ∧ f a = e
theorem cel.ne {L : List Nat} {f : Nat → va_E} {a b : Nat} {x y : va_E} (h1 : cel L f a x) (h2 : cel L f b y) (h : x ≠ y) : a ≠ b := fun e => h (by rw [← h1.2, ← h2.2, e])
theorem cel.keep {L L1 : List Nat} {f f1 : Nat → va_E} {a : Nat} {x : va_E} (h : cel L f a x) (hL : ∀ b ∈ L, b ∈ L1) (hf : f1 a = f a) : cel L1 f1 a x := ⟨hL a h.1, hf.trans h.2⟩
theorem cel.kp {L : List Nat} {f f1 : Nat → va_E} {a q : Nat} {x : va_E} (h : cel L f a x) (hf : ∀ b, b ≠ q → f1 b = f b) (hn : a ≠ q) : cel L f1 a x := ⟨h.1, (hf a hn).trans h.2⟩
theorem cel.kq {L L1 : List Nat} {f f1 : Nat → va_E} {a q : Nat} {x : va_E} (h : cel L f a x) (hL : ∀ b ∈ L, b ∈ L1) (hf : ∀ b ∈ L, f1 b = f b) : cel L1 f1 a x := ⟨hL a h.1, (hf a h.1).trans h.2⟩
def AW (L : List Nat) (sz : Nat) : Nat → Prop := fun q => q ∈ L ∨ sz ≤ q
/-- the world: the pool in the heap, apart, and what may change -/
def WW (D : va_G) (A : Nat → Prop) (H0 : Heap) (L : List Nat) (f : Nat → va_E) (H : Heap) (locs : List Loc) : Prop := va_P D vwCl (va_pl L f) H ∧ va_D A (va_pl L f) ∧ va_S A H0 H locs ∧ ∀ q, H0.size ≤ q → A q
def PW (D : va_G) (cy : Nat → ClassId) (L : List Nat) (f : Nat → va_E) (sz : Nat) (U : State) : Prop := U.heap.size = sz ∧ va_P D vwCl (va_pl L f) U.heap ∧ KK D cy U ∧ va_D (fun _ => True) (va_pl L f)
def PB (D : va_G) (A : Nat → Prop) (u : List Nat × (Nat → va_E)) (t : State) : Prop := va_P D vwCl (va_pl u.1 u.2) t.heap ∧ va_D A (va_pl u.1 u.2)
theorem pl_get {L : List Nat} {f : Nat → va_E} {a : Nat} (h : a ∈ L) : ∃ k : Nat, (va_pl L f)[k]? = some (a, f a) := va_pl_get (X := []) h
theorem cel.at {L : List Nat} {f : Nat → va_E} {a : Nat} {x : va_E} (h : cel L f a x) : ∃ k : Nat, (va_pl L f)[k]? = some (a, x) := by
  obtain ⟨k, hk⟩ := pl_get (f := f) h.1
  exact ⟨k, by rw [hk, h.2]⟩
theorem pl_mem {L : List Nat} {f : Nat → va_E} {k : Nat} {q : Nat × va_E} (h : (va_pl L f)[k]? = some q) : q.1 ∈ L := by
  simp only [va_pl, List.getElem?_map] at h
  cases hb : L[k]? with
  | none => rw [hb] at h; cases h
  | some b =>
    rw [hb] at h
    have h2 : (b, f b) = q := Option.some.inj h
    rw [← h2]
    exact List.mem_of_getElem? hb
theorem pl_set {A : Nat → Prop} {L : List Nat} {f : Nat → va_E} {a k : Nat} {e x : va_E} (hD : va_D A (va_pl L f)) (h : a ∈ L) (hk : (va_pl L f)[k]? = some (a, x)) : (va_pl L f).set k (a, e) = va_pl L (va_up f a e) := by
  obtain ⟨k2, hk2⟩ := pl_get (f := f) h
  have e1 : k = k2 := hD.1 k k2 _ _ hk hk2 rfl
  subst e1
  exact va_pl_set (X := []) hD h hk2
theorem WW.A {D : va_G} {A : Nat → Prop} {H0 : Heap} {L : List Nat} {f : Nat → va_E} {H : Heap} {locs : List Loc} (hw : WW D A H0 L f H locs) : ∀ q, AW L H.size q → A q := by
  intro q h
  rcases h with h | h
  · obtain ⟨k, hk⟩ := pl_get (f := f) h
    exact hw.2.1.2 k _ hk
  · exact hw.2.2.2 q (Nat.le_trans hw.2.2.1.1 h)
theorem WW.lt {D : va_G} {A : Nat → Prop} {H0 : Heap} {L : List Nat} {f : Nat → va_E} {H : Heap} {locs : List Loc} (hw : WW D A H0 L f H locs) {a : Nat} (h : a ∈ L) : a < H.size := va_pl_lt (X := []) hw.1 h
/-- arrays are told by their values below their length -/
theorem arr_ext {cA : ClassId} {n : Nat} {f g : Nat → Value} (h : ∀ j, j < n → f j = g j) : arrV cA n f = arrV cA n g := by
  unfold arrV
  congr 1
  apply Array.ext
  · simp
  · intro i h1 h2
    simp at h1
    simp [h i h1]
/-- the fixed things of a walk: the machine, the code, the class, the tables' words, the classes -/
abbrev EE (p : Program) (s : State) (m : MethodId) (args : Array Value) (c : Code) (cc : ByteArray) (nL : Nat) (own : String) (D : va_G) (cy : Nat → ClassId) : Prop := CallFix p m c cc nL s args wsL_law own ∧ KK D cy s
