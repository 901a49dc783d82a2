section KT
variable {p : Program} {l : Launch} {e : Env} {R : Room} {s : State} {m : MethodId} {args : Array Value} {below : List Frame} {meth : Method} {c : Code} {H : Heap} {locs : List Loc} {cells slots : Nat} {Q : State → Prop} {cc : ByteArray} {nL : Nat} {own : String} {D : va_G} {cy : Nat → ClassId} {A : Nat → Prop} {H0 : Heap} {L : List Nat} {f : Nat → va_E} {pc : Nat} {ls : Array Slot} {rest : List Value}
theorem k_add (E : EE p s m args c cc nL own D cy) {a b : Nat} (hdg : decode cc pc = .ok (.iadd, 1)) (k : W p l e R s m args below meth c H locs cells slots Q (F0 m (pc + 1) ls (.int (nI (a + b)) :: rest))) : W p l e R s m args below meth c H locs cells slots Q (F0 m pc ls (.int (nI b) :: .int (nI a) :: rest)) :=
  lv_iadd E.1.1 E.1.2.1 hdg (by rw [nI_add]; exact k)
theorem k_sub (E : EE p s m args c cc nL own D cy) {a b : Nat} (hdg : decode cc pc = .ok (.isub, 1)) (h : b ≤ a) (k : W p l e R s m args below meth c H locs cells slots Q (F0 m (pc + 1) ls (.int (nI (a - b)) :: rest))) : W p l e R s m args below meth c H locs cells slots Q (F0 m pc ls (.int (nI b) :: .int (nI a) :: rest)) :=
  lv_isub E.1.1 E.1.2.1 hdg (by rw [pk_sub h]; exact k)
theorem k_mul (E : EE p s m args c cc nL own D cy) {a b : Nat} (hdg : decode cc pc = .ok (.imul, 1)) (k : W p l e R s m args below meth c H locs cells slots Q (F0 m (pc + 1) ls (.int (nI (a * b)) :: rest))) : W p l e R s m args below meth c H locs cells slots Q (F0 m pc ls (.int (nI b) :: .int (nI a) :: rest)) :=
  lv_imul E.1.1 E.1.2.1 hdg (by rw [pk_mul]; exact k)
theorem k_div (E : EE p s m args c cc nL own D cy) {a d : Nat} (hdg : decode cc pc = .ok (.idiv, 1)) (ha : a < 2147483648) (h0 : 0 < d) (hd : d < 2147483648) (k : W p l e R s m args below meth c H locs cells slots Q (F0 m (pc + 1) ls (.int (nI (a / d)) :: rest))) : W p l e R s m args below meth c H locs cells slots Q (F0 m pc ls (.int (nI d) :: .int (nI a) :: rest)) :=
  lv_idiv E.1.1 E.1.2.1 hdg (nI_ne0 h0 hd) (by rw [pk_div ha h0 hd]; exact k)
theorem k_rem (E : EE p s m args c cc nL own D cy) {a d : Nat} (hdg : decode cc pc = .ok (.irem, 1)) (ha : a < 2147483648) (h0 : 0 < d) (hd : d < 2147483648) (k : W p l e R s m args below meth c H locs cells slots Q (F0 m (pc + 1) ls (.int (nI (a % d)) :: rest))) : W p l e R s m args below meth c H locs cells slots Q (F0 m pc ls (.int (nI d) :: .int (nI a) :: rest)) :=
  lv_irem E.1.1 E.1.2.1 hdg (nI_ne0 h0 hd) (by rw [pk_rem ha h0 hd]; exact k)
theorem k_shr6 (E : EE p s m args c cc nL own D cy) {a : Nat} (hdg : decode cc pc = .ok (.ishr, 1)) (ha : a < 2147483648) (k : W p l e R s m args below meth c H locs cells slots Q (F0 m (pc + 1) ls (.int (nI (a / 64)) :: rest))) : W p l e R s m args below meth c H locs cells slots Q (F0 m pc ls (.int (nI 6) :: .int (nI a) :: rest)) :=
  lv_ishr E.1.1 E.1.2.1 hdg (by rw [pk_shrN ha (nI 6 &&& 31) 6 (by decide +kernel)]; exact k)
theorem k_top (E : EE p s m args c cc nL own D cy) {x : Int32} (y : Int32) (h : x = y) (k : W p l e R s m args below meth c H locs cells slots Q (F0 m pc ls (.int y :: rest))) : W p l e R s m args below meth c H locs cells slots Q (F0 m pc ls (.int x :: rest)) := by rw [h]; exact k
theorem k_topl (E : EE p s m args c cc nL own D cy) {x : Int64} (y : Int64) (h : x = y) (k : W p l e R s m args below meth c H locs cells slots Q (F0 m pc ls (.long y :: rest))) : W p l e R s m args below meth c H locs cells slots Q (F0 m pc ls (.long x :: rest)) := by rw [h]; exact k
theorem k_ge (E : EE p s m args c cc nL own D cy) {a b : Nat} {off : Int} {tgt : Nat} (hdg : decode cc pc = .ok (.if_icmp .ge off, 3)) (ht : (pc : Int) + off = (tgt : Int)) (ha : a < 2147483648) (hb : b < 2147483648) (kt : b ≤ a → W p l e R s m args below meth c H locs cells slots Q (F0 m tgt ls rest)) (kf : a < b → W p l e R s m args below meth c H locs cells slots Q (F0 m (pc + 3) ls rest)) : W p l e R s m args below meth c H locs cells slots Q (F0 m pc ls (.int (nI b) :: .int (nI a) :: rest)) :=
  lv_icmp_ge E.1.1 E.1.2.1 hdg ht (fun h => kt ((nI_leI hb ha).mp h)) (fun h => kf (Nat.lt_of_not_le (fun q => h ((nI_leI hb ha).mpr q))))
theorem k_lt (E : EE p s m args c cc nL own D cy) {a b : Nat} {off : Int} {tgt : Nat} (hdg : decode cc pc = .ok (.if_icmp .lt off, 3)) (ht : (pc : Int) + off = (tgt : Int)) (ha : a < 2147483648) (hb : b < 2147483648) (kt : a < b → W p l e R s m args below meth c H locs cells slots Q (F0 m tgt ls rest)) (kf : b ≤ a → W p l e R s m args below meth c H locs cells slots Q (F0 m (pc + 3) ls rest)) : W p l e R s m args below meth c H locs cells slots Q (F0 m pc ls (.int (nI b) :: .int (nI a) :: rest)) :=
  lv_icmp_lt E.1.1 E.1.2.1 hdg ht (fun h => kt ((nI_ltI ha hb).mp h)) (fun h => kf (Nat.le_of_not_lt (fun q => h ((nI_ltI ha hb).mpr q))))
theorem k_gt (E : EE p s m args c cc nL own D cy) {a b : Nat} {off : Int} {tgt : Nat} (hdg : decode cc pc = .ok (.if_icmp .gt off, 3)) (ht : (pc : Int) + off = (tgt : Int)) (ha : a < 2147483648) (hb : b < 2147483648) (kt : b < a → W p l e R s m args below meth c H locs cells slots Q (F0 m tgt ls rest)) (kf : a ≤ b → W p l e R s m args below meth c H locs cells slots Q (F0 m (pc + 3) ls rest)) : W p l e R s m args below meth c H locs cells slots Q (F0 m pc ls (.int (nI b) :: .int (nI a) :: rest)) :=
  lv_icmp_gt E.1.1 E.1.2.1 hdg ht (fun h => kt ((nI_ltI hb ha).mp h)) (fun h => kf (Nat.le_of_not_lt (fun q => h ((nI_ltI hb ha).mpr q))))
theorem k_le (E : EE p s m args c cc nL own D cy) {a b : Nat} {off : Int} {tgt : Nat} (hdg : decode cc pc = .ok (.if_icmp .le off, 3)) (ht : (pc : Int) + off = (tgt : Int)) (ha : a < 2147483648) (hb : b < 2147483648) (kt : a ≤ b → W p l e R s m args below meth c H locs cells slots Q (F0 m tgt ls rest)) (kf : b < a → W p l e R s m args below meth c H locs cells slots Q (F0 m (pc + 3) ls rest)) : W p l e R s m args below meth c H locs cells slots Q (F0 m pc ls (.int (nI b) :: .int (nI a) :: rest)) :=
  lv_icmp_le E.1.1 E.1.2.1 hdg ht (fun h => kt ((nI_leI ha hb).mp h)) (fun h => kf (Nat.lt_of_not_le (fun q => h ((nI_leI ha hb).mpr q))))
theorem k_eq (E : EE p s m args c cc nL own D cy) {a b : Nat} {off : Int} {tgt : Nat} (hdg : decode cc pc = .ok (.if_icmp .eq off, 3)) (ht : (pc : Int) + off = (tgt : Int)) (ha : a < 2147483648) (hb : b < 2147483648) (kt : a = b → W p l e R s m args below meth c H locs cells slots Q (F0 m tgt ls rest)) (kf : a ≠ b → W p l e R s m args below meth c H locs cells slots Q (F0 m (pc + 3) ls rest)) : W p l e R s m args below meth c H locs cells slots Q (F0 m pc ls (.int (nI b) :: .int (nI a) :: rest)) :=
  lv_icmp_eq E.1.1 E.1.2.1 hdg ht (fun h => kt ((nI_eq ha hb).mp h)) (fun h => kf (fun q => h ((nI_eq ha hb).mpr q)))
theorem k_ne (E : EE p s m args c cc nL own D cy) {a b : Nat} {off : Int} {tgt : Nat} (hdg : decode cc pc = .ok (.if_icmp .ne off, 3)) (ht : (pc : Int) + off = (tgt : Int)) (ha : a < 2147483648) (hb : b < 2147483648) (kt : a ≠ b → W p l e R s m args below meth c H locs cells slots Q (F0 m tgt ls rest)) (kf : a = b → W p l e R s m args below meth c H locs cells slots Q (F0 m (pc + 3) ls rest)) : W p l e R s m args below meth c H locs cells slots Q (F0 m pc ls (.int (nI b) :: .int (nI a) :: rest)) :=
  lv_icmp_ne E.1.1 E.1.2.1 hdg ht (fun h => kt (fun q => h ((nI_eq ha hb).mpr q))) (fun h => kf ((nI_eq ha hb).mp h))
theorem k_bne {x y : Bool} (E : EE p s m args c cc nL own D cy) {off : Int} {tgt : Nat} (hdg : decode cc pc = .ok (.if_icmp .ne off, 3)) (ht : (pc : Int) + off = (tgt : Int)) (kt : x ≠ y → W p l e R s m args below meth c H locs cells slots Q (F0 m tgt ls rest)) (kf : x = y → W p l e R s m args below meth c H locs cells slots Q (F0 m (pc + 3) ls rest)) : W p l e R s m args below meth c H locs cells slots Q (F0 m pc ls (.int (b2i y) :: .int (b2i x) :: rest)) :=
  lv_icmp_ne E.1.1 E.1.2.1 hdg ht (fun h => kt (fun q => h (by rw [q]))) (fun h => kf (by revert h; cases x <;> cases y <;> simp [b2i]))
theorem k_beq {x y : Bool} (E : EE p s m args c cc nL own D cy) {off : Int} {tgt : Nat} (hdg : decode cc pc = .ok (.if_icmp .eq off, 3)) (ht : (pc : Int) + off = (tgt : Int)) (kt : x = y → W p l e R s m args below meth c H locs cells slots Q (F0 m tgt ls rest)) (kf : x ≠ y → W p l e R s m args below meth c H locs cells slots Q (F0 m (pc + 3) ls rest)) : W p l e R s m args below meth c H locs cells slots Q (F0 m pc ls (.int (b2i y) :: .int (b2i x) :: rest)) :=
  lv_icmp_eq E.1.1 E.1.2.1 hdg ht (fun h => kt (by revert h; cases x <;> cases y <;> simp [b2i])) (fun h => kf (fun q => h (by rw [q])))
theorem b2i_0 {x : Bool} : b2i x = 0 ↔ x = false := by cases x <;> simp [b2i]
theorem k_if0 {x : Bool} (E : EE p s m args c cc nL own D cy) {off : Int} {tgt : Nat} (hdg : decode cc pc = .ok (.ifCond .eq off, 3)) (ht : (pc : Int) + off = (tgt : Int)) (kt : x = false → W p l e R s m args below meth c H locs cells slots Q (F0 m tgt ls rest)) (kf : x = true → W p l e R s m args below meth c H locs cells slots Q (F0 m (pc + 3) ls rest)) : W p l e R s m args below meth c H locs cells slots Q (F0 m pc ls (.int (b2i x) :: rest)) :=
  lv_if_eq E.1.1 E.1.2.1 hdg ht (fun h => kt (b2i_0.mp h)) (fun h => kf (by cases x; exact absurd rfl h; rfl))
theorem k_if1 {x : Bool} (E : EE p s m args c cc nL own D cy) {off : Int} {tgt : Nat} (hdg : decode cc pc = .ok (.ifCond .ne off, 3)) (ht : (pc : Int) + off = (tgt : Int)) (kt : x = true → W p l e R s m args below meth c H locs cells slots Q (F0 m tgt ls rest)) (kf : x = false → W p l e R s m args below meth c H locs cells slots Q (F0 m (pc + 3) ls rest)) : W p l e R s m args below meth c H locs cells slots Q (F0 m pc ls (.int (b2i x) :: rest)) :=
  lv_if_ne E.1.1 E.1.2.1 hdg ht (fun h => kt (by cases x; exact absurd rfl h; rfl)) (fun h => kf (b2i_0.mp h))
theorem k_z0 {a : Nat} (E : EE p s m args c cc nL own D cy) {off : Int} {tgt : Nat} (hdg : decode cc pc = .ok (.ifCond .eq off, 3)) (ht : (pc : Int) + off = (tgt : Int)) (ha : a < 2147483648) (kt : a = 0 → W p l e R s m args below meth c H locs cells slots Q (F0 m tgt ls rest)) (kf : a ≠ 0 → W p l e R s m args below meth c H locs cells slots Q (F0 m (pc + 3) ls rest)) : W p l e R s m args below meth c H locs cells slots Q (F0 m pc ls (.int (nI a) :: rest)) :=
  lv_if_eq E.1.1 E.1.2.1 hdg ht (fun h => kt ((nI_eq ha (by decide)).mp (h.trans nI_0.symm))) (fun h => kf (fun q => h (by rw [q]; exact nI_0)))
theorem k_z1 {a : Nat} (E : EE p s m args c cc nL own D cy) {off : Int} {tgt : Nat} (hdg : decode cc pc = .ok (.ifCond .ne off, 3)) (ht : (pc : Int) + off = (tgt : Int)) (ha : a < 2147483648) (kt : a ≠ 0 → W p l e R s m args below meth c H locs cells slots Q (F0 m tgt ls rest)) (kf : a = 0 → W p l e R s m args below meth c H locs cells slots Q (F0 m (pc + 3) ls rest)) : W p l e R s m args below meth c H locs cells slots Q (F0 m pc ls (.int (nI a) :: rest)) :=
  lv_if_ne E.1.1 E.1.2.1 hdg ht (fun h => kt (fun q => h (by rw [q]; exact nI_0))) (fun h => kf ((nI_eq ha (by decide)).mp (h.trans nI_0.symm)))
theorem k_zlt {a : Nat} (E : EE p s m args c cc nL own D cy) {off : Int} (hdg : decode cc pc = .ok (.ifCond .lt off, 3)) {tgt : Nat} (ht : (pc : Int) + off = (tgt : Int)) (ha : a < 2147483648) (kf : W p l e R s m args below meth c H locs cells slots Q (F0 m (pc + 3) ls rest)) : W p l e R s m args below meth c H locs cells slots Q (F0 m pc ls (.int (nI a) :: rest)) :=
  lv_if_lt E.1.1 E.1.2.1 hdg ht (fun h => absurd h (nI_pos ha)) (fun _ => kf)
theorem k_zge {a : Nat} (E : EE p s m args c cc nL own D cy) {off : Int} {tgt : Nat} (hdg : decode cc pc = .ok (.ifCond .ge off, 3)) (ht : (pc : Int) + off = (tgt : Int)) (ha : a < 2147483648) (kt : W p l e R s m args below meth c H locs cells slots Q (F0 m tgt ls rest)) : W p l e R s m args below meth c H locs cells slots Q (F0 m pc ls (.int (nI a) :: rest)) :=
  lv_if_ge E.1.1 E.1.2.1 hdg ht (fun _ => kt) (fun h => absurd (nI_pos' ha) h)
theorem k_zle {a : Nat} (E : EE p s m args c cc nL own D cy) {off : Int} {tgt : Nat} (hdg : decode cc pc = .ok (.ifCond .le off, 3)) (ht : (pc : Int) + off = (tgt : Int)) (ha : a < 2147483648) (kt : a = 0 → W p l e R s m args below meth c H locs cells slots Q (F0 m tgt ls rest)) (kf : a ≠ 0 → W p l e R s m args below meth c H locs cells slots Q (F0 m (pc + 3) ls rest)) : W p l e R s m args below meth c H locs cells slots Q (F0 m pc ls (.int (nI a) :: rest)) :=
  lv_if_le E.1.1 E.1.2.1 hdg ht (fun h => kt (by rcases Nat.eq_zero_or_pos a with q | q; exact q; exact absurd h (nI_nle q ha))) (fun h => kf (fun q => h (by rw [q]; decide)))
/-- reading -/
theorem k_get {ci N : Nat} {C : String} {T : u_T} (E : EE p s m args c cc nL own D cy) (hin : ∀ w ∈ u_ws C T N, w ∈ wsL_law) (hcl : vwCl[ci]? = some (C, T, N)) {index : Nat} {ref : String} (k : Nat) (hk : k < N) (hl : Cond.fieldLink own index ref (T k).2.1 (T k).2.2.1 ∈ wsL_law) (hs : (T k).1 = ref) (hw : WW D A H0 L f H locs) {a : Nat} {fs : List Value} (hc : cel L f a (.inr (ci, fs))) {v : Value} (hv : fs[k]? = some v) (hdg : decode cc pc = .ok (.getfield index, 3)) (kk : W p l e R s m args below meth c H locs cells slots Q (F0 m (pc + 3) ls (v :: rest))) : W p l e R s m args below meth c H locs cells slots Q (F0 m pc ls (.ref a :: rest)) := by
  obtain ⟨q0, hq⟩ := hc.at
  exact va_get E.1.1 E.1.2.1 E.1.2.2.2.2 hin E.1.2.2.2.1 E.2.1 hw.1 q0 hq hcl k hk (E.1.2.2.2.2 _ hl) (fun x h => by rw [← hs]; exact h) hv hdg kk
theorem k_getN {ci N : Nat} {C : String} {T : u_T} (E : EE p s m args c cc nL own D cy) (hin : ∀ w ∈ u_ws C T N, w ∈ wsL_law) (hcl : vwCl[ci]? = some (C, T, N)) {index : Nat} {ref host : String} (k : Nat) (hk : k < N) (hl : Cond.fieldLinkNest own index ref (T k).2.1 (T k).2.2.1 host ∈ nxW) (hs : (T k).1 = ref) (hw : WW D A H0 L f H locs) {a : Nat} {fs : List Value} (hc : cel L f a (.inr (ci, fs))) {v : Value} (hv : fs[k]? = some v) (hdg : decode cc pc = .ok (.getfield index, 3)) (kk : W p l e R s m args below meth c H locs cells slots Q (F0 m (pc + 3) ls (v :: rest))) : W p l e R s m args below meth c H locs cells slots Q (F0 m pc ls (.ref a :: rest)) := by
  obtain ⟨q0, hq⟩ := hc.at
  exact va_getN E.1.1 E.1.2.1 E.1.2.2.2.2 hin E.1.2.2.2.1 E.2.1 hw.1 q0 hq hcl k hk (va_Nw.use (nx_tab _ hl) (E.2.2.1 _ hl)) (fun x h => by rw [← hs]; exact h) hv hdg kk
theorem k_iald (E : EE p s m args c cc nL own D cy) (hw : WW D A H0 L f H locs) {a i n : Nat} {g : Nat → Int32} {v : Int32} (hc : cel L f a (.inl (cy 0, n, .inl g))) (hi : i < n) (hn : n < 2147483648) (hv : g i = v) (hdg : decode cc pc = .ok (.iaload, 1)) (kk : W p l e R s m args below meth c H locs cells slots Q (F0 m (pc + 1) ls (.int v :: rest))) : W p l e R s m args below meth c H locs cells slots Q (F0 m pc ls (.int (nI i) :: .ref a :: rest)) := by
  obtain ⟨q0, hq⟩ := hc.at
  refine va_iald E.1.1 E.1.2.1 E.2.1 hw.1 q0 0 hq rfl (vp_in_nI hi hn) hdg ?_
  rw [nI_clamp (Nat.lt_trans hi hn), hv]
  exact kk
theorem k_zald (E : EE p s m args c cc nL own D cy) (hw : WW D A H0 L f H locs) {a i n : Nat} {g : Nat → Int32} {v : Int32} (hc : cel L f a (.inl (cy 2, n, .inl g))) (hi : i < n) (hn : n < 2147483648) (hv : g i = v) (hdg : decode cc pc = .ok (.baload, 1)) (kk : W p l e R s m args below meth c H locs cells slots Q (F0 m (pc + 1) ls (.int v :: rest))) : W p l e R s m args below meth c H locs cells slots Q (F0 m pc ls (.int (nI i) :: .ref a :: rest)) := by
  obtain ⟨q0, hq⟩ := hc.at
  refine va_zald E.1.1 E.1.2.1 E.2.1 hw.1 q0 2 hq rfl (vp_in_nI hi hn) hdg ?_
  rw [nI_clamp (Nat.lt_trans hi hn), hv]
  exact kk
theorem k_lald (E : EE p s m args c cc nL own D cy) (hw : WW D A H0 L f H locs) {a i n : Nat} {g : Nat → Int64} {v : Int64} (hc : cel L f a (.inl (cy 1, n, .inr (.inl g)))) (hi : i < n) (hn : n < 2147483648) (hv : g i = v) (hdg : decode cc pc = .ok (.laload, 1)) (kk : W p l e R s m args below meth c H locs cells slots Q (F0 m (pc + 1) ls (.long v :: rest))) : W p l e R s m args below meth c H locs cells slots Q (F0 m pc ls (.int (nI i) :: .ref a :: rest)) := by
  obtain ⟨q0, hq⟩ := hc.at
  refine va_lald E.1.1 E.1.2.1 E.2.1 hw.1 q0 1 hq rfl (vp_in_nI hi hn) hdg ?_
  rw [nI_clamp (Nat.lt_trans hi hn), hv]
  exact kk
theorem k_aald (E : EE p s m args c cc nL own D cy) (hw : WW D A H0 L f H locs) (t0 : Nat) {a i n r : Nat} {g : Nat → Option Nat} {C : String} {cA : ClassId} (hc : cel L f a (.inl (cA, n, .inr (.inr (.inr (.inr g)))))) (ht : (tyz cy)[t0]? = some (cA, .object C)) (hi : i < n) (hn : n < 2147483648) (hv : g i = some r) (hdg : decode cc pc = .ok (.aaload, 1)) (kk : W p l e R s m args below meth c H locs cells slots Q (F0 m (pc + 1) ls (.ref r :: rest))) : W p l e R s m args below meth c H locs cells slots Q (F0 m pc ls (.int (nI i) :: .ref a :: rest)) := by
  obtain ⟨q0, hq⟩ := hc.at
  refine va_aldq E.1.1 E.1.2.1 E.2.1 hw.1 q0 t0 hq ht (vp_in_nI hi hn) hdg ?_
  rw [nI_clamp (Nat.lt_trans hi hn), hv]
  exact kk
theorem k_alen (E : EE p s m args c cc nL own D cy) (hw : WW D A H0 L f H locs) (t0 : Nat) {a : Nat} {x : vp_A} {cA : ClassId} {ty : FieldType} (hc : cel L f a (.inl (cA, x))) (ht : (tyz cy)[t0]? = some (cA, ty)) {n : Nat} (hn : x.1 = n) (hdg : decode cc pc = .ok (.arraylength, 1)) (kk : W p l e R s m args below meth c H locs cells slots Q (F0 m (pc + 1) ls (.int (nI n) :: rest))) : W p l e R s m args below meth c H locs cells slots Q (F0 m pc ls (.ref a :: rest)) := by
  obtain ⟨q0, hq⟩ := hc.at
  exact va_alen E.1.1 E.1.2.1 E.2.1 hw.1 q0 t0 hq ht (by rw [hn]; rfl) hdg kk
/-- writing -/
theorem up_at {L : List Nat} {g : Nat → va_E} {a : Nat} {x : va_E} (h : a ∈ L) : cel L (va_up g a x) a x := ⟨h, va_up_self g a x⟩
theorem k_upd {a : Nat} {x y z : va_E} (hw : WW D A H0 L f H locs) (hc : cel L f a x) {q0 : Nat} (hq : (va_pl L f)[q0]? = some (a, x)) {H1 : Heap} {locs1 : List Loc} (hP : va_P D vwCl ((va_pl L f).set q0 (a, y)) H1) (hD : va_D A ((va_pl L f).set q0 (a, y))) (hS : va_S A H0 H1 locs1) (hyz : ∀ Hq : Heap, va_at D vwCl (a, y) Hq → va_at D vwCl (a, z) Hq) : WW D A H0 L (va_up f a z) H1 locs1 := by
  have e1 := pl_set (e := y) hw.2.1 hc.1 hq
  have e2 := pl_set (e := z) hw.2.1 hc.1 hq
  rw [e1] at hP hD
  refine ⟨?_, ?_, hS, hw.2.2.2⟩
  · rw [← e2]
    intro k r hk
    by_cases hkq : k = q0
    · subst hkq
      have hl := (List.getElem?_eq_some_iff.mp hq).1
      rw [List.getElem?_set_self hl] at hk
      obtain rfl := Option.some.inj hk
      refine hyz H1 (hP k (a, y) ?_)
      rw [← e1, List.getElem?_set_self hl]
    · rw [List.getElem?_set_ne (Ne.symm hkq)] at hk
      exact hP k r (by rw [← e1, List.getElem?_set_ne (Ne.symm hkq)]; exact hk)
  · rw [← e2]
    exact hw.2.1.set hq
theorem at_int {a n : Nat} {cA : ClassId} {g g' : Nat → Int32} (h : ∀ j, j < n → g j = g' j) (Hq : Heap) (hv : va_at D vwCl (a, .inl (cA, n, .inl g)) Hq) : va_at D vwCl (a, .inl (cA, n, .inl g')) Hq := by
  have e1 : vp_cell cA (n, .inl g) = vp_cell cA (n, .inl g') := arr_ext (f := fun j => .int (g j)) (g := fun j => .int (g' j)) (fun j hj => by rw [h j hj])
  show Hq[a]? = some (vp_cell cA (n, .inl g'))
  rw [← e1]
  exact hv
theorem at_long {a n : Nat} {cA : ClassId} {g g' : Nat → Int64} (h : ∀ j, j < n → g j = g' j) (Hq : Heap) (hv : va_at D vwCl (a, .inl (cA, n, .inr (.inl g))) Hq) : va_at D vwCl (a, .inl (cA, n, .inr (.inl g'))) Hq := by
  have e1 : vp_cell cA (n, .inr (.inl g)) = vp_cell cA (n, .inr (.inl g')) := arr_ext (f := fun j => .long (g j)) (g := fun j => .long (g' j)) (fun j hj => by rw [h j hj])
  show Hq[a]? = some (vp_cell cA (n, .inr (.inl g')))
  rw [← e1]
  exact hv
theorem at_ref {a n : Nat} {cA : ClassId} {g g' : Nat → Option Nat} (h : ∀ j, j < n → g j = g' j) (Hq : Heap) (hv : va_at D vwCl (a, .inl (cA, n, .inr (.inr (.inr (.inr g))))) Hq) : va_at D vwCl (a, .inl (cA, n, .inr (.inr (.inr (.inr g'))))) Hq := by
  have e1 : vp_cell cA (n, .inr (.inr (.inr (.inr g)))) = vp_cell cA (n, .inr (.inr (.inr (.inr g')))) := arr_ext (f := fun j => va_rf (g j)) (g := fun j => va_rf (g' j)) (fun j hj => by rw [h j hj])
  show Hq[a]? = some (vp_cell cA (n, .inr (.inr (.inr (.inr g')))))
  rw [← e1]
  exact hv
theorem k_iast (E : EE p s m args c cc nL own D cy) (hw : WW D A H0 L f H locs) {a i n : Nat} {g : Nat → Int32} {x : Int32} (g' : Nat → Int32) (hc : cel L f a (.inl (cy 0, n, .inl g))) (hi : i < n) (hn : n < 2147483648) (hg : ∀ j, j < n → (if j = i then x else g j) = g' j) (hdg : decode cc pc = .ok (.iastore, 1))
    (kk : ∀ (f1 : Nat → va_E) (H1 : Heap) (locs1 : List Loc), cel L f1 a (.inl (cy 0, n, .inl g')) → (∀ b, b ≠ a → f1 b = f b) → WW D A H0 L f1 H1 locs1 → W p l e R s m args below meth c H1 locs1 cells slots Q (F0 m (pc + 1) ls rest)) : W p l e R s m args below meth c H locs cells slots Q (F0 m pc ls (.int x :: .int (nI i) :: .ref a :: rest)) := by
  obtain ⟨q0, hq⟩ := hc.at
  refine va_iast E.1.1 E.1.2.1 E.2.1 hw.1 hw.2.1 hw.2.2.1 q0 0 hq rfl (vp_in_nI hi hn) hdg (fun H1 locs1 hP hD hS => ?_)
  rw [nI_clamp (Nat.lt_trans hi hn)] at hP hD
  exact kk (va_up f a (.inl (cy 0, n, .inl g'))) H1 locs1 (up_at hc.1) (fun b hb => va_up_ne _ _ hb) (k_upd hw hc hq hP hD hS (at_int (fun j hj => by rw [← hg j hj]; rfl)))
theorem k_zast (E : EE p s m args c cc nL own D cy) (hw : WW D A H0 L f H locs) {a i n : Nat} {g : Nat → Int32} {x : Bool} (g' : Nat → Int32) (hc : cel L f a (.inl (cy 2, n, .inl g))) (hi : i < n) (hn : n < 2147483648) (hg : ∀ j, j < n → (if j = i then b2i x else g j) = g' j) (hdg : decode cc pc = .ok (.bastore, 1))
    (kk : ∀ (f1 : Nat → va_E) (H1 : Heap) (locs1 : List Loc), cel L f1 a (.inl (cy 2, n, .inl g')) → (∀ b, b ≠ a → f1 b = f b) → WW D A H0 L f1 H1 locs1 → W p l e R s m args below meth c H1 locs1 cells slots Q (F0 m (pc + 1) ls rest)) : W p l e R s m args below meth c H locs cells slots Q (F0 m pc ls (.int (b2i x) :: .int (nI i) :: .ref a :: rest)) := by
  obtain ⟨q0, hq⟩ := hc.at
  refine va_zast E.1.1 E.1.2.1 E.2.1 hw.1 hw.2.1 hw.2.2.1 q0 2 hq rfl (vp_in_nI hi hn) hdg (fun H1 locs1 hP hD hS => ?_)
  have hx : vp_nar .boolean (b2i x) = b2i x := by cases x <;> decide +kernel
  rw [nI_clamp (Nat.lt_trans hi hn), hx] at hP hD
  exact kk (va_up f a (.inl (cy 2, n, .inl g'))) H1 locs1 (up_at hc.1) (fun b hb => va_up_ne _ _ hb) (k_upd hw hc hq hP hD hS (at_int (fun j hj => by rw [← hg j hj]; rfl)))
theorem k_last (E : EE p s m args c cc nL own D cy) (hw : WW D A H0 L f H locs) {a i n : Nat} {g : Nat → Int64} {x : Int64} (g' : Nat → Int64) (hc : cel L f a (.inl (cy 1, n, .inr (.inl g)))) (hi : i < n) (hn : n < 2147483648) (hg : ∀ j, j < n → (if j = i then x else g j) = g' j) (hdg : decode cc pc = .ok (.lastore, 1))
    (kk : ∀ (f1 : Nat → va_E) (H1 : Heap) (locs1 : List Loc), cel L f1 a (.inl (cy 1, n, .inr (.inl g'))) → (∀ b, b ≠ a → f1 b = f b) → WW D A H0 L f1 H1 locs1 → W p l e R s m args below meth c H1 locs1 cells slots Q (F0 m (pc + 1) ls rest)) : W p l e R s m args below meth c H locs cells slots Q (F0 m pc ls (.long x :: .int (nI i) :: .ref a :: rest)) := by
  obtain ⟨q0, hq⟩ := hc.at
  refine va_last E.1.1 E.1.2.1 E.2.1 hw.1 hw.2.1 hw.2.2.1 q0 1 hq rfl (vp_in_nI hi hn) hdg (fun H1 locs1 hP hD hS => ?_)
  rw [nI_clamp (Nat.lt_trans hi hn)] at hP hD
  exact kk (va_up f a (.inl (cy 1, n, .inr (.inl g')))) H1 locs1 (up_at hc.1) (fun b hb => va_up_ne _ _ hb) (k_upd hw hc hq hP hD hS (at_long (fun j hj => by rw [← hg j hj]; rfl)))
theorem k_aast (E : EE p s m args c cc nL own D cy) (hw : WW D A H0 L f H locs) (t0 ci : Nat) {r : vw_C} {a i n v : Nat} {vs : List Value} {g : Nat → Option Nat} {cA : ClassId} (g' : Nat → Option Nat) (hc : cel L f a (.inl (cA, n, .inr (.inr (.inr (.inr g)))))) (ht : (tyz cy)[t0]? = some (cA, .object r.1)) (hv : cel L f v (.inr (ci, vs))) (hcl : vwCl[ci]? = some r) (hi : i < n) (hn : n < 2147483648) (hg : ∀ j, j < n → (if j = i then some v else g j) = g' j) (hdg : decode cc pc = .ok (.aastore, 1))
    (kk : ∀ (f1 : Nat → va_E) (H1 : Heap) (locs1 : List Loc), cel L f1 a (.inl (cA, n, .inr (.inr (.inr (.inr g'))))) → (∀ b, b ≠ a → f1 b = f b) → WW D A H0 L f1 H1 locs1 → W p l e R s m args below meth c H1 locs1 cells slots Q (F0 m (pc + 1) ls rest)) : W p l e R s m args below meth c H locs cells slots Q (F0 m pc ls (.ref v :: .int (nI i) :: .ref a :: rest)) := by
  obtain ⟨q0, hq⟩ := hc.at
  obtain ⟨q1, hq1⟩ := hv.at
  refine va_astq E.1.1 E.1.2.1 E.2.1 hw.1 hw.2.1 hw.2.2.1 q0 t0 q1 ci hq ht hq1 hcl (vp_in_nI hi hn) hdg (fun H1 locs1 hP hD hS => ?_)
  rw [nI_clamp (Nat.lt_trans hi hn)] at hP hD
  exact kk (va_up f a (.inl (cA, n, .inr (.inr (.inr (.inr g')))))) H1 locs1 (up_at hc.1) (fun b hb => va_up_ne _ _ hb) (k_upd hw hc hq hP hD hS (at_ref (fun j hj => by rw [← hg j hj]; rfl)))
theorem k_put {ci N : Nat} {C : String} {T : u_T} {ty0 : Nat → FieldType} (E : EE p s m args c cc nL own D cy) (hin : ∀ w ∈ u_ws C T N, w ∈ wsL_law) (hcl : vwCl[ci]? = some (C, T, N)) (hty : ∀ k, k < N → parseFieldDescriptor (T k).2.2.1 = some (ty0 k)) (hnm : ∀ a, a < N → ∀ b, b < N → a ≠ b → (T a).2.1 ≠ (T b).2.1) {index : Nat} {ref : String} (k : Nat) (hk : k < N) (hl : Cond.fieldLink own index ref (T k).2.1 (T k).2.2.1 ∈ wsL_law) (hs : (T k).1 = ref) (hfin : (T k).2.2.2 = false) (hw : WW D A H0 L f H locs) {a : Nat} {fs : List Value} {v : Value} (fs' : List Value) (hc : cel L f a (.inr (ci, fs))) (hn : narrow (ty0 k) v = v) (hfit : fits (ty0 k) v = true) (hlen : k < fs.length) (hfs : fs.set k v = fs') (hdg : decode cc pc = .ok (.putfield index, 3))
    (kk : ∀ (f1 : Nat → va_E) (H1 : Heap) (locs1 : List Loc), cel L f1 a (.inr (ci, fs')) → (∀ b, b ≠ a → f1 b = f b) → WW D A H0 L f1 H1 locs1 → W p l e R s m args below meth c H1 locs1 cells slots Q (F0 m (pc + 3) ls rest)) : W p l e R s m args below meth c H locs cells slots Q (F0 m pc ls (v :: .ref a :: rest)) := by
  obtain ⟨q0, hq⟩ := hc.at
  refine va_put E.1.1 E.1.2.1 E.1.2.2.2.2 hin ty0 hty hnm E.1.2.2.2.1 E.2.1 hw.1 hw.2.1 hw.2.2.1 q0 hq hcl k hk (E.1.2.2.2.2 _ hl) (fun x h => by rw [← hs]; exact h) hfin (hty k hk) hn hfit hlen hdg (fun H1 locs1 hP hD hS => ?_)
  rw [hfs] at hP hD
  exact kk (va_up f a (.inr (ci, fs'))) H1 locs1 (up_at hc.1) (fun b hb => va_up_ne _ _ hb) (k_upd hw hc hq hP hD hS (fun _ h => h))
theorem k_putF {ci N : Nat} {C : String} {T : u_T} {ty0 : Nat → FieldType} (E : EE p s m args c cc nL own D cy) (hin : ∀ w ∈ u_ws C T N, w ∈ wsL_law) (hcl : vwCl[ci]? = some (C, T, N)) (hty : ∀ k, k < N → parseFieldDescriptor (T k).2.2.1 = some (ty0 k)) (hnm : ∀ a, a < N → ∀ b, b < N → a ≠ b → (T a).2.1 ≠ (T b).2.1) {index : Nat} {ref : String} (k : Nat) (hk : k < N) (hl : Cond.fieldLink own index ref (T k).2.1 (T k).2.2.1 ∈ wsL_law) (hs : (T k).1 = ref) (hfin : (T k).2.2.2 = true) (hin2 : meth.name = "<init>") (hdecl : (T k).1 = own) (hw : WW D A H0 L f H locs) {a : Nat} {fs : List Value} {v : Value} (fs' : List Value) (hc : cel L f a (.inr (ci, fs))) (hn : narrow (ty0 k) v = v) (hfit : fits (ty0 k) v = true) (hlen : k < fs.length) (hfs : fs.set k v = fs') (hdg : decode cc pc = .ok (.putfield index, 3))
    (kk : ∀ (f1 : Nat → va_E) (H1 : Heap) (locs1 : List Loc), cel L f1 a (.inr (ci, fs')) → (∀ b, b ≠ a → f1 b = f b) → WW D A H0 L f1 H1 locs1 → W p l e R s m args below meth c H1 locs1 cells slots Q (F0 m (pc + 3) ls rest)) : W p l e R s m args below meth c H locs cells slots Q (F0 m pc ls (v :: .ref a :: rest)) := by
  obtain ⟨q0, hq⟩ := hc.at
  refine va_putF E.1.1 E.1.2.1 E.1.2.2.2.2 hin ty0 hty hnm E.1.2.2.2.1 E.2.1 hw.1 hw.2.1 hw.2.2.1 q0 hq hcl k hk (E.1.2.2.2.2 _ hl) (fun x h => by rw [← hs]; exact h) hfin hin2 hdecl (hty k hk) hn hfit hlen hdg (fun H1 locs1 hP hD hS => ?_)
  rw [hfs] at hP hD
  exact kk (va_up f a (.inr (ci, fs'))) H1 locs1 (up_at hc.1) (fun b hb => va_up_ne _ _ hb) (k_upd hw hc hq hP hD hS (fun _ h => h))
/-- making -/
theorem k_mk {a : Nat} {x y : va_E} (hw : WW D A H0 L f H locs) {H1 : Heap} (hP : va_P D vwCl (va_pl L f ++ [(a, x)]) H1) (hD : va_D A (va_pl L f ++ [(a, x)])) (hS : va_S A H0 H1 locs) (hxy : ∀ Hq : Heap, va_at D vwCl (a, x) Hq → va_at D vwCl (a, y) Hq) : a ∉ L ∧ WW D A H0 (L ++ [a]) (va_up f a y) H1 locs := by
  have ha : a ∉ L := va_pl_fresh2 (X := []) hD
  refine ⟨ha, ?_, ?_, hS, hw.2.2.2⟩
  · rw [← va_pl_push ha]
    refine va_P.app (fun k q hk => ?_) (fun k q hk => ?_)
    · exact hP k q (by rw [List.getElem?_append_left (List.getElem?_eq_some_iff.mp hk).1]; exact hk)
    · have hk0 : k = 0 := by
        have := (List.getElem?_eq_some_iff.mp hk).1
        simp at this
        exact this
      subst hk0
      obtain rfl := Option.some.inj hk
      refine hxy H1 (hP (va_pl L f).length (a, x) ?_)
      simp
  · rw [← va_pl_push ha]
    refine ⟨fun i j p q hi hj hpq => ?_, fun k q hk => ?_⟩
    · have conv : ∀ (i : Nat) (p : Nat × va_E), (va_pl L f ++ [(a, y)])[i]? = some p → ∃ p', (va_pl L f ++ [(a, x)])[i]? = some p' ∧ p'.1 = p.1 := by
        intro i p hi
        by_cases hil : i < (va_pl L f).length
        · rw [List.getElem?_append_left hil] at hi
          exact ⟨p, by rw [List.getElem?_append_left hil]; exact hi, rfl⟩
        · rw [List.getElem?_append_right (by omega)] at hi
          have hk0 : i - (va_pl L f).length = 0 := by
            have := (List.getElem?_eq_some_iff.mp hi).1
            simp at this
            exact this
          rw [hk0] at hi
          obtain rfl := Option.some.inj hi
          exact ⟨(a, x), by rw [List.getElem?_append_right (by omega), hk0]; rfl, rfl⟩
      obtain ⟨p', hp', e1⟩ := conv i p hi
      obtain ⟨q', hq', e2⟩ := conv j q hj
      exact hD.1 i j p' q' hp' hq' (by rw [e1, e2, hpq])
    · by_cases hil : k < (va_pl L f).length
      · rw [List.getElem?_append_left hil] at hk
        exact hw.2.1.2 k q hk
      · rw [List.getElem?_append_right (by omega)] at hk
        have hk0 : k - (va_pl L f).length = 0 := by
          have := (List.getElem?_eq_some_iff.mp hk).1
          simp at this
          exact this
        rw [hk0] at hk
        obtain rfl := Option.some.inj hk
        have h9 := hD.2 (va_pl L f).length (a, x) (by simp)
        exact h9
theorem mem_snoc {L : List Nat} {a : Nat} : a ∈ L ++ [a] := List.mem_append_right _ (List.mem_singleton.mpr rfl)
theorem sub_snoc {L : List Nat} {a : Nat} : ∀ b ∈ L, b ∈ L ++ [a] := fun _ h => List.mem_append_left _ h
theorem k_new {ci N : Nat} {C : String} {T : u_T} {ty0 : Nat → FieldType} (E : EE p s m args c cc nL own D cy) (hin : ∀ w ∈ u_ws C T N, w ∈ wsL_law) (hcl : vwCl[ci]? = some (C, T, N)) (hty : ∀ k, k < N → parseFieldDescriptor (T k).2.2.1 = some (ty0 k)) {index : Nat} (h1 : Cond.classLink own index C ∈ wsL_law) (h2 : Cond.instantiable C N ∈ wsL_law) (h3 : Cond.initialized C ∈ wsL_law) (hw : WW D A H0 L f H locs) (fs : List Value) (hfs : ∀ j, j < N → defaultValue (ty0 j) = vp_V fs j) (hcells : cells + 1 ≤ R.cells) (hslots : slots + N ≤ R.slots) (hdg : decode cc pc = .ok (.new index, 3))
    (kk : ∀ (q : Nat) (f1 : Nat → va_E) (H1 : Heap), q ∉ L → cel (L ++ [q]) f1 q (.inr (ci, fs)) → (∀ b, b ≠ q → f1 b = f b) → WW D A H0 (L ++ [q]) f1 H1 locs → W p l e R s m args below meth c H1 locs (cells + 1) (slots + N) Q (F0 m (pc + 3) ls (.ref q :: rest))) : W p l e R s m args below meth c H locs cells slots Q (F0 m pc ls rest) := by
  refine va_new E.1.1 E.1.2.1 E.1.2.2.2.2 hin ty0 hty E.1.2.2.2.1 (E.1.2.2.2.2 _ h1) (E.1.2.2.2.2 _ h2) (E.1.2.2.2.2 _ h3) E.2.1 hw.1 hw.2.1 hw.2.2.1 hw.2.2.2 hcl hfs hcells hslots hdg (fun q H1 hP hD hS => ?_)
  obtain ⟨hq, hw1⟩ := k_mk hw hP hD hS (fun _ h => h)
  exact kk q _ H1 hq (up_at mem_snoc) (fun b hb => va_up_ne _ _ hb) hw1
theorem KK.arr {U : State} (hK : KK D cy U) {cA : ClassId} {ty : FieldType} (t0 : Nat) (ht : (tyz cy)[t0]? = some (cA, ty)) {c2 : ClassId} (h2 : va_RA U c2 ty) : c2 = cA := by
  have h1 := (hK.1.2 t0 _ ht).2
  cases ty with
  | object C =>
    obtain ⟨k1, m1, a1, a2, a3, a4⟩ := h1
    obtain ⟨k2, m2, b1, b2, b3, b4⟩ := h2
    exact Option.some.inj (b4.symm.trans a4)
  | _ => exact Option.some.inj ((show U.vm.findClass _ = some c2 from h2).symm.trans (show U.vm.findClass _ = some cA from h1))
theorem k_newa (E : EE p s m args c cc nL own D cy) {atype : ArrayType} {ty : FieldType} (hty : newarray.typeOf atype = ty) (harr : Cond.arrayClass (newarray.typeOf atype) ∈ wsL_law) (t0 : Nat) {cA : ClassId} (ht : (tyz cy)[t0]? = some (cA, ty)) (hw : WW D A H0 L f H locs) {n : Nat} (x : vp_A) (hx : ∀ cB : ClassId, vp_cell cB x = arrV cB n (fun _ => defaultValue ty)) (hn : n < 2147483648) (hbytes : n * componentBytes ty ≤ 536870912) (hcells : cells + 1 ≤ R.cells) (hslots : slots + n ≤ R.slots) (hdg : decode cc pc = .ok (.newarray atype, 2))
    (kk : ∀ (q : Nat) (f1 : Nat → va_E) (H1 : Heap), q ∉ L → cel (L ++ [q]) f1 q (.inl (cA, x)) → (∀ b, b ≠ q → f1 b = f b) → WW D A H0 (L ++ [q]) f1 H1 locs → W p l e R s m args below meth c H1 locs (cells + 1) (slots + n) Q (F0 m (pc + 2) ls (.ref q :: rest))) : W p l e R s m args below meth c H locs cells slots Q (F0 m pc ls (.int (nI n) :: rest)) := by
  refine va_newa (atype := atype) E.1.1 E.1.2.1 (E.1.2.2.2.2 _ harr) hty E.2.1 hw.1 hw.2.1 hw.2.2.1 hw.2.2.2 hx (nI_pos hn) (nI_clamp hn) hbytes hcells hslots hdg (fun q cB H1 hK hP hD hS => ?_)
  have e1 : cB = cA := E.2.arr t0 ht (hK.2 5 (cB, ty) rfl).2
  subst e1
  obtain ⟨hq, hw1⟩ := k_mk hw hP hD hS (fun _ h => h)
  exact kk q _ H1 hq (up_at mem_snoc) (fun b hb => va_up_ne _ _ hb) hw1
theorem k_newq (E : EE p s m args c cc nL own D cy) {C : String} {index : Nat} (h1 : Cond.classLink own index C ∈ wsL_law) (hao : va_AO C s) (t0 : Nat) {cA : ClassId} (ht : (tyz cy)[t0]? = some (cA, .object C)) (hw : WW D A H0 L f H locs) {n : Nat} (hn : n < 2147483648) (hbytes : n * 4 ≤ 536870912) (hcells : cells + 1 ≤ R.cells) (hslots : slots + n ≤ R.slots) (hdg : decode cc pc = .ok (.anewarray index, 3))
    (kk : ∀ (q : Nat) (f1 : Nat → va_E) (H1 : Heap), q ∉ L → cel (L ++ [q]) f1 q (.inl (cA, n, .inr (.inr (.inr (.inr (fun _ => none)))))) → (∀ b, b ≠ q → f1 b = f b) → WW D A H0 (L ++ [q]) f1 H1 locs → W p l e R s m args below meth c H1 locs (cells + 1) (slots + n) Q (F0 m (pc + 3) ls (.ref q :: rest))) : W p l e R s m args below meth c H locs cells slots Q (F0 m pc ls (.int (nI n) :: rest)) := by
  refine va_newq E.1.1 E.1.2.1 E.1.2.2.2.1 (E.1.2.2.2.2 _ h1) hao E.2.1 hw.1 hw.2.1 hw.2.2.1 hw.2.2.2 (nI_pos hn) (nI_clamp hn) hbytes hcells hslots hdg (fun q cB H1 hK hP hD hS => ?_)
  have e1 : cB = cA := E.2.arr t0 ht (hK.2 5 (cB, .object C) rfl).2
  subst e1
  obtain ⟨hq, hw1⟩ := k_mk hw hP hD hS (fun _ h => h)
  exact kk q _ H1 hq (up_at mem_snoc) (fun b hb => va_up_ne _ _ hb) hw1
/-- calls -/
theorem pw_pre {As : List Value} (hK : KK D cy s) (hw : WW D A H0 L f H locs) : PreS s H (va_Pc As (PW D cy L f H.size)) As := by
  refine ⟨fun a U g mk q => ?_, fun U hU hW => ⟨rfl, by rw [hU], by rw [hU]; exact hw.1, hK.warm hW, hw.2.1.weaken (fun _ _ _ _ => trivial)⟩⟩
  obtain ⟨q0, q1, qP, qK, qD⟩ := q
  exact ⟨q0, q1, qP, KK.same (s := U) (U := U.calling g mk a) rfl qK, qD⟩
theorem pw_preV {As : List Value} {b ci : Nat} {q : vw_C} {fs : List Value} (hK : KK D cy s) (hw : WW D A H0 L f H locs) (hc : cel L f b (.inr (ci, fs))) (hcl : vwCl[ci]? = some q) : PreV s H q.1 b (va_Pc (.ref b :: As) (PW D cy L f H.size)) As := by
  obtain ⟨h1, h2⟩ := pw_pre (As := .ref b :: As) hK hw
  obtain ⟨q0, hq⟩ := hc.at
  exact ⟨h1, va_recv hK.1 hw.1 hcl hq, h2⟩
theorem k_ri {a : Array Value} {st0 : List Value} {v : Int32} (hr : va_Run p l e R s m args below meth c H locs cells slots 0 0 (F0 m pc ls st0) rest (vp_Si (fun r => r = v) a) (fun _ => False)) (kk : W p l e R s m args below meth c H locs cells slots Q (F0 m (pc + 3) ls (.int v :: rest))) : W p l e R s m args below meth c H locs cells slots Q (F0 m pc ls st0) := by
  intro T hT X
  obtain ⟨v1, st₀, t, T', L1, h0, X', hL, e1, e2, ⟨r, hv, hp, hh⟩, st⟩ := hr T hT X
  cases hv
  subst hp
  obtain ⟨t2, a1, b1⟩ := kk T' (by rw [e1, hh, h0]) (Stand.forget X' (fun q h => (hL q h).elim))
  exact ⟨t2, st t2 a1, b1⟩
theorem k_rl {a : Array Value} {st0 : List Value} {v : Int64} (hr : va_Run p l e R s m args below meth c H locs cells slots 0 0 (F0 m pc ls st0) rest (vp_Sl (fun r => r = v) a) (fun _ => False)) (kk : W p l e R s m args below meth c H locs cells slots Q (F0 m (pc + 3) ls (.long v :: rest))) : W p l e R s m args below meth c H locs cells slots Q (F0 m pc ls st0) := by
  intro T hT X
  obtain ⟨v1, st₀, t, T', L1, h0, X', hL, e1, e2, ⟨r, hv, hp, hh⟩, st⟩ := hr T hT X
  cases hv
  subst hp
  obtain ⟨t2, a1, b1⟩ := kk T' (by rw [e1, hh, h0]) (Stand.forget X' (fun q h => (hL q h).elim))
  exact ⟨t2, st t2 a1, b1⟩
theorem k_mv {a : Array Value} {st0 : List Value} {mc ms : Nat} {post : List Nat × (Nat → va_E) → Prop} (hw : WW D A H0 L f H locs) (hr : va_Run p l e R s m args below meth c H locs cells slots mc ms (F0 m pc ls st0) rest (va_Qv post (PB D (AW L H.size)) (AW L H.size) a) (AW L H.size))
    (kk : ∀ (L1 : List Nat) (f1 : Nat → va_E) (H1 : Heap) (locs1 : List Loc), post (L1, f1) → WW D A H0 L1 f1 H1 locs1 → W p l e R s m args below meth c H1 locs1 (cells + mc) (slots + ms) Q (F0 m (pc + 3) ls rest)) : W p l e R s m args below meth c H locs cells slots Q (F0 m pc ls st0) :=
  va_callv hr hw.2.2.1 (fun q _ h => hw.A q h) hw.A (fun u t H1 locs1 ht _ hp hB _ _ hS => kk u.1 u.2 H1 locs1 hp ⟨by rw [← ht]; exact hB.1, hB.2.weaken (fun k q _ h => hw.A _ h), hS, hw.2.2.2⟩)
theorem k_mi {a : Array Value} {st0 : List Value} {mc ms : Nat} {post : Int32 → List Nat × (Nat → va_E) → Prop} (hw : WW D A H0 L f H locs) (hr : va_Run p l e R s m args below meth c H locs cells slots mc ms (F0 m pc ls st0) rest (va_Qi post (PB D (AW L H.size)) (AW L H.size) a) (AW L H.size))
    (kk : ∀ (r : Int32) (L1 : List Nat) (f1 : Nat → va_E) (H1 : Heap) (locs1 : List Loc), post r (L1, f1) → WW D A H0 L1 f1 H1 locs1 → W p l e R s m args below meth c H1 locs1 (cells + mc) (slots + ms) Q (F0 m (pc + 3) ls (.int r :: rest))) : W p l e R s m args below meth c H locs cells slots Q (F0 m pc ls st0) :=
  va_calli hr hw.2.2.1 (fun q _ h => hw.A q h) hw.A (fun r u t H1 locs1 ht _ hp hB _ _ hS => kk r u.1 u.2 H1 locs1 hp ⟨by rw [← ht]; exact hB.1, hB.2.weaken (fun k q _ h => hw.A _ h), hS, hw.2.2.2⟩)
/-- an answer that is a cell or null -/
def Qq (post : Option Nat → List Nat × (Nat → va_E) → Prop) (B : List Nat × (Nat → va_E) → State → Prop) (A : Nat → Prop) : Array Value → State → Outcome → State → Prop := va_Qq post B A
theorem k_mq {a : Array Value} {st0 : List Value} {mc ms : Nat} {post : Option Nat → List Nat × (Nat → va_E) → Prop} (hw : WW D A H0 L f H locs) (hr : va_Run p l e R s m args below meth c H locs cells slots mc ms (F0 m pc ls st0) rest (va_Qq post (PB D (AW L H.size)) (AW L H.size) a) (AW L H.size))
    (kk : ∀ (r : Option Nat) (L1 : List Nat) (f1 : Nat → va_E) (H1 : Heap) (locs1 : List Loc), post r (L1, f1) → WW D A H0 L1 f1 H1 locs1 → W p l e R s m args below meth c H1 locs1 (cells + mc) (slots + ms) Q (F0 m (pc + 3) ls (va_rf r :: rest))) : W p l e R s m args below meth c H locs cells slots Q (F0 m pc ls st0) := by
  intro T hT X
  obtain ⟨v, st₀, t, T', L2, h0, X', hL, e1, e2, ⟨⟨r, u, hv, hp, hb⟩, hz, hk⟩, st⟩ := hr T hT X
  cases hv
  rw [h0] at hz hk
  have hS := hw.2.2.1
  obtain ⟨t2, a1, b1⟩ := kk r u.1 u.2 T'.heap (locs ++ L2) hp ⟨by rw [e1]; exact hb.1, hb.2.weaken (fun k q _ h => hw.A _ h), ⟨Nat.le_trans hS.1 (by rw [e1]; exact hz), fun q h1 h2 => by rw [e1, hk q (Nat.lt_of_lt_of_le h1 hS.1) (fun z => h2 (hw.A q z))]; exact hS.2.1 q h1 h2, fun q hq => by
      rcases List.mem_append.mp hq with h | h
      · exact hS.2.2 q h
      · exact hw.A _ (hL q h)⟩, hw.2.2.2⟩ T' rfl X'
  exact ⟨t2, st t2 a1, b1⟩
/-- ends -/
theorem k_iret {v : Int32} {post : Int32 → Prop} (E : EE p s m args c cc nL own D cy) {Q0 : State → Prop} (hQ : Q0 = MQ below (vp_Si post) args s 0 0 (fun _ => False)) (hlk : meth.locks = false) (hr : meth.sig.returnType = some .int) (hp : post v) (hdg : decode cc pc = .ok (.ireturn, 1)) : W p l e R s m args below meth c s.heap [] 0 0 Q0 (F0 m pc ls [.int v]) := by
  rw [hQ]
  exact W.iret E.1.1 E.1.2.1 hr (fun t ht _ => ⟨v, rfl, hp, ht⟩) (fun q h => by cases h) hdg hlk
theorem k_zret {v : Bool} {post : Int32 → Prop} (E : EE p s m args c cc nL own D cy) {Q0 : State → Prop} (hQ : Q0 = MQ below (vp_Si post) args s 0 0 (fun _ => False)) (hlk : meth.locks = false) (hr : meth.sig.returnType = some .boolean) (hp : post (b2i v)) (hdg : decode cc pc = .ok (.ireturn, 1)) : W p l e R s m args below meth c s.heap [] 0 0 Q0 (F0 m pc ls [.int (b2i v)]) := by
  rw [hQ]
  exact W.zret E.1.1 E.1.2.1 hr (by cases v <;> decide +kernel) (fun t ht _ => ⟨b2i v, rfl, hp, ht⟩) (fun q h => by cases h) hdg hlk
theorem k_lret {v : Int64} {post : Int64 → Prop} (E : EE p s m args c cc nL own D cy) {Q0 : State → Prop} (hQ : Q0 = MQ below (vp_Sl post) args s 0 0 (fun _ => False)) (hlk : meth.locks = false) (hr : meth.sig.returnType = some .long) (hp : post v) (hdg : decode cc pc = .ok (.lreturn, 1)) : W p l e R s m args below meth c s.heap [] 0 0 Q0 (F0 m pc ls [.long v]) := by
  rw [hQ]
  exact W.lret E.1.1 E.1.2.1 hr (fun t ht _ => ⟨v, rfl, hp, ht⟩) (fun q h => by cases h) hdg hlk
theorem k_mvret {A : Nat → Prop} {mc ms : Nat} {post : List Nat × (Nat → va_E) → Prop} (E : EE p s m args c cc nL own D cy) {Q0 : State → Prop} (hQ : Q0 = MQ below (va_Qv post (PB D A) A) args s mc ms A) (hlk : meth.locks = false) (hr : meth.sig.returnType = none) (hw : WW D A s.heap L f H locs) (hc : cells ≤ mc) (hs : slots ≤ ms) (hp : post (L, f)) (hdg : decode cc pc = .ok (.return_, 1)) : W p l e R s m args below meth c H locs cells slots Q0 (F0 m pc ls []) := by
  rw [hQ]
  exact W.widen hc hs (W.vret E.1.1 E.1.2.1 hr (fun t ht _ => ⟨⟨(L, f), rfl, hp, by rw [ht]; exact hw.1, hw.2.1⟩, hw.2.2.1.F ht⟩) hw.2.2.1.2.2 hdg hlk)
theorem k_miret {A : Nat → Prop} {mc ms : Nat} {v : Int32} {post : Int32 → List Nat × (Nat → va_E) → Prop} (E : EE p s m args c cc nL own D cy) {Q0 : State → Prop} (hQ : Q0 = MQ below (va_Qi post (PB D A) A) args s mc ms A) (hlk : meth.locks = false) (hr : meth.sig.returnType = some .int) (hw : WW D A s.heap L f H locs) (hc : cells ≤ mc) (hs : slots ≤ ms) (hp : post v (L, f)) (hdg : decode cc pc = .ok (.ireturn, 1)) : W p l e R s m args below meth c H locs cells slots Q0 (F0 m pc ls [.int v]) := by
  rw [hQ]
  exact W.widen hc hs (W.iret E.1.1 E.1.2.1 hr (fun t ht _ => ⟨⟨v, (L, f), rfl, hp, by rw [ht]; exact hw.1, hw.2.1⟩, hw.2.2.1.F ht⟩) hw.2.2.1.2.2 hdg hlk)
theorem k_mzret {A : Nat → Prop} {mc ms : Nat} {v : Bool} {post : Int32 → List Nat × (Nat → va_E) → Prop} (E : EE p s m args c cc nL own D cy) {Q0 : State → Prop} (hQ : Q0 = MQ below (va_Qi post (PB D A) A) args s mc ms A) (hlk : meth.locks = false) (hr : meth.sig.returnType = some .boolean) (hw : WW D A s.heap L f H locs) (hc : cells ≤ mc) (hs : slots ≤ ms) (hp : post (b2i v) (L, f)) (hdg : decode cc pc = .ok (.ireturn, 1)) : W p l e R s m args below meth c H locs cells slots Q0 (F0 m pc ls [.int (b2i v)]) := by
  rw [hQ]
  exact W.widen hc hs (W.zret E.1.1 E.1.2.1 hr (by cases v <;> decide +kernel) (fun t ht _ => ⟨⟨b2i v, (L, f), rfl, hp, by rw [ht]; exact hw.1, hw.2.1⟩, hw.2.2.1.F ht⟩) hw.2.2.1.2.2 hdg hlk)
theorem k_mqret {A : Nat → Prop} {mc ms : Nat} {v : Option Nat} {rt : FieldType} {post : Option Nat → List Nat × (Nat → va_E) → Prop} (E : EE p s m args c cc nL own D cy) {Q0 : State → Prop} (hQ : Q0 = MQ below (va_Qq post (PB D A) A) args s mc ms A) (hlk : meth.locks = false) (hr : meth.sig.returnType = some rt) (hrt : (∃ n, rt = .object n) ∨ ∃ t, rt = .array t) (hw : WW D A s.heap L f H locs) (hc : cells ≤ mc) (hs : slots ≤ ms) (hp : post v (L, f)) (hdg : decode cc pc = .ok (.areturn, 1)) : W p l e R s m args below meth c H locs cells slots Q0 (F0 m pc ls [va_rf v]) := by
  rw [hQ]
  exact W.widen hc hs (W.aret E.1.1 E.1.2.1 hr hrt (by cases v; exact Or.inl rfl; exact Or.inr ⟨_, rfl⟩) (fun t ht _ => ⟨⟨v, (L, f), rfl, hp, by rw [ht]; exact hw.1, hw.2.1⟩, hw.2.2.1.F ht⟩) hw.2.2.1.2.2 hdg hlk)
/-- a method's start -/
theorem m_start {y : MethodName} {maxL : Nat} {ret : Option FieldType} {rm : Room} {As : List Value} {Qc : Array Value → State → Outcome → State → Prop} {mc ms : Nat} {free : Addr → Prop} {sz : Nat} (hy : plainName y.cls = true) (hlen : (lg_sl As).length ≤ maxL)
    (body : ∀ (p : Program) (e : Env) (R : Room) (Q : State → Prop) (s : State) (m : MethodId) (args : Array Value) (below : List Frame) (meth : Method) (c : Code) (ls : Array Slot), s.heap.size = sz → R = rm → Q = MQ below Qc args s mc ms free → EE p s m args c cc maxL y.cls D cy → meth.sig.returnType = ret → meth.locks = false → meth.name = y.name → WW D (AW L sz) s.heap L f s.heap [] → lv_has ls maxL (lv_args 0 As) → W p l e R s m args below meth c s.heap [] 0 0 Q (F0 m 0 ls [])) :
    Met l y (.code y cc maxL ret :: wsL_law) rm (va_Pc As (PW D cy L f sz)) Qc mc ms free := by
  refine Met.ofW (cc := cc) (maxL := maxL) (ret := ret) hy rfl ?_
  intro p e s m args below meth c s₁ B hml hv
  obtain ⟨rfl, hsz, hP, hK, hD0⟩ := hv
  have hts := atoms_spec (ws := .code y cc maxL ret :: wsL_law) B.pre
  rw [lg_entry_eq]
  refine body p e _ _ s m As.toArray below meth c _ hsz rfl rfl ⟨⟨B.exec, B.bytes, hml, findClass_of_methodNamed B.named, fun w hw => hts w (List.mem_cons_of_mem _ hw)⟩, hK⟩ B.returns B.notSynchronized (name_of_methodNamed B.named B.method).1 ?_ (lv_entry As (n := maxL) hlen)
  refine ⟨hP, ⟨hD0.1, fun k q hk => Or.inl (pl_mem hk)⟩, va_S.rf, fun q h => Or.inr (by rw [← hsz]; exact h)⟩
theorem gd_own {y : MethodName} {bytes : ByteArray} {maxL : Nat} {ret : Option FieldType} (h : Cond.code y bytes maxL ret ∈ wsL_law) : GoodIn wsL_law (.code y bytes maxL ret :: wsL_law) := by
  intro w hw
  rcases List.mem_cons.mp hw with rfl | hw
  · exact ⟨h, wsL_good h⟩
  · exact ⟨hw, wsL_good hw⟩
theorem gd_1 {w : Cond} {ws : List Cond} (h : w ∈ wsL_law) (hG : GoodIn wsL_law ws) : GoodIn wsL_law (w :: ws) := by
  intro v hv
  rcases List.mem_cons.mp hv with rfl | hv
  · exact ⟨h, wsL_good h⟩
  · exact hG v hv
theorem gd_V {own : String} {idx : Nat} {y : MethodName} {bytes : ByteArray} {maxL : Nat} {ret : Option FieldType} {C : String} (h1 : Cond.methodLink own idx y ∈ wsL_law) (h2 : Cond.instanceMethod y ∈ wsL_law) (h3 : Cond.selects C y y ∈ wsL_law) (h4 : Cond.initialized C ∈ wsL_law) (h5 : Cond.code y bytes maxL ret ∈ wsL_law) : GoodIn wsL_law (wsV own idx C y (.code y bytes maxL ret :: wsL_law)) := gd_1 h1 (gd_1 h2 (gd_1 h3 (gd_1 h4 (gd_own h5))))
theorem gd_S {own : String} {idx : Nat} {y : MethodName} {bytes : ByteArray} {maxL : Nat} {ret : Option FieldType} (h1 : Cond.methodLink own idx y ∈ wsL_law) (h2 : Cond.static y ∈ wsL_law) (h4 : Cond.initialized own ∈ wsL_law) (h5 : Cond.code y bytes maxL ret ∈ wsL_law) : GoodIn wsL_law (wsS own idx y (.code y bytes maxL ret :: wsL_law)) := gd_1 h1 (gd_1 h2 (gd_1 h4 (gd_own h5)))
end KT
