theorem wd_low {b : Nat → Bool} {k : Nat} : wd b k &&& 1 = lN (if b (64 * k) then 1 else 0) := by
  unfold wd
  rw [lN_and_one]
  have h := wd_tb (b := b) (k := k) (show 0 < 64 by decide)
  have h2 := b01 h
  rw [Nat.pow_zero, Nat.div_one] at h2
  rw [h2]
  rfl
theorem bsum_or {g : Nat → Bool} {i : Nat} (hi : i < 64) : lN (bsum g i) ||| lN (if g i then 2 ^ (i % 64) else 0) = lN (bsum g (i + 1)) := by
  rw [fb_orL, Nat.mod_eq_of_lt hi]
  congr 1
  apply bsum_ext
  · apply Nat.or_lt_two_pow
    · exact Nat.lt_of_lt_of_le (bsum_lt g i) (Nat.pow_le_pow_right (by decide) (by omega))
    · split
      · exact Nat.pow_lt_pow_right (by decide) (by omega)
      · exact Nat.pow_pos (by decide)
  · intro j hj
    rw [Nat.testBit_or, bsum_test]
    by_cases h : j = i
    · subst h
      cases hg : g j <;> simp [hg]
    · have : j < i := by omega
      split <;> simp [this, two_tb, show ¬ i = j by omega]
/-- a SET that is kept: its cells, none of them among M -/
def RndC (cy : Nat → ClassId) (L : List Nat) (f : Nat → va_E) (M : List Nat) (a t q : Nat) (b : Nat → Bool) (base n : Nat) (go : Nat → Nat) (gd : Nat → Bool) : Prop := ∃ rw mc gs, a ∉ M ∧ rw ∉ M ∧ mc ∉ M ∧ gs ∉ M ∧ cel L f a (.inr (3, [.int (nI t), .int (nI q), .ref rw, .ref mc])) ∧ cel L f rw (.inl (cy 1, 3, .inr (.inl (wd b)))) ∧ cel L f mc (.inr (2, [.int (nI base), .int (nI n), .ref gs, .long (lN (bsum gd n))])) ∧ cel L f gs (.inl (cy 0, n * base, .inl (fun k => nI (go k))))
def MchOf (S : Nat → Bool) (base n : Nat) : Prop := FS S base (n * base) ∧ n = (trn S base (n * base)).1 ∧ n ≤ 64
def Rnd (cy : Nat → ClassId) (L : List Nat) (f : Nat → va_E) (M : List Nat) (a : Nat) (S : Nat → Bool) (base : Nat) : Prop := ∃ t q b n, SetIs S t q b ∧ MchOf S base n ∧ RndC cy L f M a t q b base n (trn S base (n * base)).2.2 (fun x => (trn S base (n * base)).2.1 x 0)
theorem RndC.keep {cy : Nat → ClassId} {L L1 : List Nat} {f f1 : Nat → va_E} {M : List Nat} {a t q : Nat} {b : Nat → Bool} {base n : Nat} {go : Nat → Nat} {gd : Nat → Bool} (h : RndC cy L f M a t q b base n go gd) (hL : ∀ b ∈ L, b ∈ L1) (hf : ∀ b ∈ L, b ∉ M → f1 b = f b) : RndC cy L1 f1 M a t q b base n go gd := by
  obtain ⟨rw, mc, gs, m1, m2, m3, m4, h1, h2, h3, h4⟩ := h
  exact ⟨rw, mc, gs, m1, m2, m3, m4, h1.keep hL (hf _ h1.1 m1), h2.keep hL (hf _ h2.1 m2), h3.keep hL (hf _ h3.1 m3), h4.keep hL (hf _ h4.1 m4)⟩
theorem Rnd.keep {cy : Nat → ClassId} {L L1 : List Nat} {f f1 : Nat → va_E} {M : List Nat} {a : Nat} {S : Nat → Bool} {base : Nat} (h : Rnd cy L f M a S base) (hL : ∀ b ∈ L, b ∈ L1) (hf : ∀ b ∈ L, b ∉ M → f1 b = f b) : Rnd cy L1 f1 M a S base := by
  obtain ⟨t, q, b, n, h1, h2, h3⟩ := h
  exact ⟨t, q, b, n, h1, h2, h3.keep hL hf⟩
/-- the draft and the tracer, whatever they hold -/
def Scr (cy : Nat → ClassId) (L : List Nat) (f : Nat → va_E) (d r0 tr ro go : Nat) : Prop := ∃ (i1 i2 j1 j2 j3 j4 : Int32) (g : Nat → Int64) (B : Nat → Nat → Bool) (G : Nat → Int32), cel L f d (.inr (0, [.ref r0, .int i1, .int i2])) ∧ cel L f r0 (.inl (cy 1, 59, .inr (.inl g))) ∧ cel L f tr (.inr (4, [.ref ro, .ref go, .int j1, .int j2, .int j3, .int j4])) ∧ cel L f ro (.inl (cy 1, 195, .inr (.inl (rw3 B)))) ∧ cel L f go (.inl (cy 0, 320, .inl G))
def Large (S : Nat → Bool) (base : Nat) : Prop := ¬ Fits S ∨ ∃ K, FS S base K ∧ 64 < (trn S base K).1
theorem good_cong {S : Nat → Bool} {base t per K nf : Nat} {B : Nat → Nat → Bool} {G : Nat → Int32} (h : TI S base t per K nf B G) (hp : 0 < per) : bsum (fun x => B x 0) nf = bsum (fun x => (trn S base K).2.1 x 0) nf := bsum_cong (fun x hx => (h.2.1 x hx).1 0 (by omega))
set_option maxHeartbeats 4000000 in
set_option maxRecDepth 100000 in
theorem c_Machine_init (l : Launch) (D : va_G) (cy : Nat → ClassId) (L : List Nat) (f0 : Nat → va_E) (sz : Nat) (h0 base nf gs : Nat) (gd : Int64) (h_o : cel L f0 h0 (.inr (2, [.int 0, .int 0, .null, .long 0]))) : Met l yX2_init (.code yX2_init cX2_init 6 none :: wsL_law) { frames := 1, cells := 0, slots := 0, locals := 12 } (va_Pc [.ref h0, .int (nI base), .int (nI nf), .ref gs, .long gd] (PW D cy L f0 sz)) (va_Qv (fun u : List Nat × (Nat → va_E) => L = u.1 ∧ (∀ b ∈ L, b ≠ h0 → u.2 b = f0 b) ∧ cel L u.2 h0 (.inr (2, [.int (nI base), .int (nI nf), .ref gs, .long gd]))) (PB D (AW L sz)) (AW L sz)) 0 0 (AW L sz) := by
  refine m_start (by decide) (Nat.le_of_ble_eq_true rfl) ?_
  intro p e R Q s m args below meth c ls hsz hR hQ E hr hlk hnm hw hl
  have hl : lv_has ls 6 [(0, .ref h0), (1, .int (nI base)), (2, .int (nI nf)), (3, .ref gs), (4, .long gd)] := hl
  obtain ⟨H, hH⟩ : ∃ X, X = s.heap := ⟨_, rfl⟩
  obtain ⟨locs, hlocs⟩ : ∃ X : List Loc, X = [] := ⟨_, rfl⟩
  have hw0 := hw
  obtain ⟨f, hf0⟩ : ∃ X, X = f0 := ⟨_, rfl⟩
  rw [← hf0] at h_o
  have hw : WW D (AW L sz) s.heap L f H locs := by rw [hH, hlocs, hf0]; exact hw
  have hF : ∀ b ∈ L, b ≠ h0 → f b = f0 b := fun b hb h0 => by rw [hf0]
  suffices hgo : W p l e R s m args below meth c H locs 0 0 Q (F0 m 0 ls []) by rw [hH, hlocs] at hgo; exact hgo
  clear hH hlocs hw0 hf0
  have hLs : ∀ b ∈ L, b ∈ L := fun _ h => h
  refine lv_aload_n E.1.1 E.1.2.1 dX2_init_0 rfl (lv_at hl 0 rfl) ?_
  refine W.objInit E.1.1 E.1.2.1 E.1.2.2.2.1 (E.1.2.2.2.2 _ w1_187) (E.1.2.2.2.2 _ w1_18) (E.1.2.2.2.2 _ w1_19) rfl (by rw [E.1.2.2.1]; exact hl.1) rfl dX2_init_1 (by rw [hR]; exact Nat.le_of_ble_eq_true rfl) (by rw [hR]; exact Nat.le_of_ble_eq_true rfl) ?_
  refine W.eq (g2 := F0 m 4 ls []) rfl ?_
  refine lv_aload_n E.1.1 E.1.2.1 dX2_init_4 rfl (lv_at hl 0 rfl) ?_
  refine lv_iload_n E.1.1 E.1.2.1 dX2_init_5 rfl (lv_at hl 1 rfl) ?_
  refine k_putF (ty0 := tyX2) E inlX2 rfl tyX2_ok nmX2 0 (by decide) w1_188 rfl rfl hnm rfl hw [.int (nI base), .int 0, .null, .long 0] h_o (rfl) (rfl) (Nat.le_of_ble_eq_true rfl) rfl dX2_init_6 (fun f H locs h_o hfr hw => ?_)
  have hF : ∀ b ∈ L, b ≠ h0 → f b = f0 b := fun b hb h0 => (hfr b h0).trans (hF b hb h0)
  refine lv_aload_n E.1.1 E.1.2.1 dX2_init_9 rfl (lv_at hl 0 rfl) ?_
  refine lv_iload_n E.1.1 E.1.2.1 dX2_init_10 rfl (lv_at hl 2 rfl) ?_
  refine k_putF (ty0 := tyX2) E inlX2 rfl tyX2_ok nmX2 1 (by decide) w1_189 rfl rfl hnm rfl hw [.int (nI base), .int (nI nf), .null, .long 0] h_o (rfl) (rfl) (Nat.le_of_ble_eq_true rfl) rfl dX2_init_11 (fun f H locs h_o hfr hw => ?_)
  have hF : ∀ b ∈ L, b ≠ h0 → f b = f0 b := fun b hb h0 => (hfr b h0).trans (hF b hb h0)
  refine lv_aload_n E.1.1 E.1.2.1 dX2_init_14 rfl (lv_at hl 0 rfl) ?_
  refine lv_aload_n E.1.1 E.1.2.1 dX2_init_15 rfl (lv_at hl 3 rfl) ?_
  refine k_putF (ty0 := tyX2) E inlX2 rfl tyX2_ok nmX2 2 (by decide) w1_191 rfl rfl hnm rfl hw [.int (nI base), .int (nI nf), .ref gs, .long 0] h_o (rfl) (rfl) (Nat.le_of_ble_eq_true rfl) rfl dX2_init_16 (fun f H locs h_o hfr hw => ?_)
  have hF : ∀ b ∈ L, b ≠ h0 → f b = f0 b := fun b hb h0 => (hfr b h0).trans (hF b hb h0)
  refine lv_aload_n E.1.1 E.1.2.1 dX2_init_19 rfl (lv_at hl 0 rfl) ?_
  refine lv_lload E.1.1 E.1.2.1 dX2_init_20 (lv_at hl 4 rfl) ?_
  refine k_putF (ty0 := tyX2) E inlX2 rfl tyX2_ok nmX2 3 (by decide) w1_192 rfl rfl hnm rfl hw [.int (nI base), .int (nI nf), .ref gs, .long gd] h_o (rfl) (rfl) (Nat.le_of_ble_eq_true rfl) rfl dX2_init_22 (fun f H locs h_o hfr hw => ?_)
  have hF : ∀ b ∈ L, b ≠ h0 → f b = f0 b := fun b hb h0 => (hfr b h0).trans (hF b hb h0)
  exact k_mvret E hQ hlk hr hw (Nat.le_of_ble_eq_true rfl) (Nat.le_of_ble_eq_true rfl) (⟨rfl, hF, h_o⟩) dX2_init_25

set_option maxHeartbeats 4000000 in
set_option maxRecDepth 100000 in
theorem c_machine (l : Launch) (D : va_G) (cy : Nat → ClassId) (L : List Nat) (f0 : Nat → va_E) (sz : Nat) (tr ro go base t per nf : Nat) (B : Nat → Nat → Bool) (G : Nat → Int32) (hnf : nf ≤ 64) (hbase : base ≤ 5) (h_tr : cel L f0 tr (.inr (4, [.ref ro, .ref go, .int (nI base), .int (nI t), .int (nI per), .int (nI nf)]))) (h_rows : cel L f0 ro (.inl (cy 1, 195, .inr (.inl (rw3 B))))) (h_goes : cel L f0 go (.inl (cy 0, 320, .inl G))) : Met l yX4_machine (.code yX4_machine cX4_machine 4 (Option.some (FieldType.object "NumberMachines$Machine")) :: wsL_law) { frames := 2, cells := 2, slots := 324, locals := 40 } (va_Pc [.ref tr] (PW D cy L f0 sz)) (va_Qq (fun (r : Option Nat) (u : List Nat × (Nat → va_E)) => (∀ b ∈ L, b ∈ u.1) ∧ (∀ b ∈ L, u.2 b = f0 b) ∧ ∃ mc gs, r = some mc ∧ mc ∉ L ∧ gs ∉ L ∧ cel u.1 u.2 mc (.inr (2, [.int (nI base), .int (nI nf), .ref gs, .long (lN (bsum (fun x => B x 0) nf))])) ∧ cel u.1 u.2 gs (.inl (cy 0, nf * base, .inl G))) (PB D (AW L sz)) (AW L sz)) 2 324 (AW L sz) := by
  refine m_start (by decide) (Nat.le_of_ble_eq_true rfl) ?_
  intro p e R Q s m args below meth c ls hsz hR hQ E hr hlk hnm hw hl
  have hl : lv_has ls 4 [(0, .ref tr)] := hl
  obtain ⟨H, hH⟩ : ∃ X, X = s.heap := ⟨_, rfl⟩
  obtain ⟨locs, hlocs⟩ : ∃ X : List Loc, X = [] := ⟨_, rfl⟩
  have hw0 := hw
  obtain ⟨f, hf0⟩ : ∃ X, X = f0 := ⟨_, rfl⟩
  rw [← hf0] at h_tr h_rows h_goes
  have hw : WW D (AW L sz) s.heap L f H locs := by rw [hH, hlocs, hf0]; exact hw
  have hF : ∀ b ∈ L, f b = f0 b := fun b hb => by rw [hf0]
  suffices hgo : W p l e R s m args below meth c H locs 0 0 Q (F0 m 0 ls []) by rw [hH, hlocs] at hgo; exact hgo
  clear hH hlocs hw0 hf0
  have hLs : ∀ b ∈ L, b ∈ L := fun _ h => h
  refine lv_lconst (v := 0) E.1.1 E.1.2.1 dX4_machine_0 rfl ?_
  refine k_topl E (lN (bsum (fun x => B x 0) 0)) (rfl) ?_
  refine lv_lstore_n (lv' := [(1, .long (lN (bsum (fun x => B x 0) 0))), (0, .ref tr)]) E.1.1 E.1.2.1 dX4_machine_1 rfl hl (by decide) rfl (fun ls hl => ?_)
  refine lv_iconst (v := nI 0) E.1.1 E.1.2.1 dX4_machine_2 rfl ?_
  refine lv_istore_n (lv' := [(3, .int (nI 0)), (1, .long (lN (bsum (fun x => B x 0) 0))), (0, .ref tr)]) E.1.1 E.1.2.1 dX4_machine_3 rfl hl (by decide) rfl (fun ls hl => ?_)
  have lp4 : ∀ (k : Nat) (i : Nat) (f : Nat → va_E) (H : Heap) (locs : List Loc) (ls : Array Slot), (nf - i < k) → (i ≤ nf) → (cel L f tr (.inr (4, [.ref ro, .ref go, .int (nI base), .int (nI t), .int (nI per), .int (nI nf)]))) → (cel L f ro (.inl (cy 1, 195, .inr (.inl (rw3 B))))) → (cel L f go (.inl (cy 0, 320, .inl G))) → (∀ b ∈ L, f b = f0 b) → (WW D (AW L sz) s.heap L f H locs) → (lv_has ls 4 [(3, .int (nI i)), (1, .long (lN (bsum (fun x => B x 0) i))), (0, .ref tr)]) → W p l e R s m args below meth c H locs 0 0 Q (F0 m 4 ls []) := by
    intro k
    induction k with
    | zero => intro _ _ _ _ _ hk; exact absurd hk (Nat.not_lt_zero _)
    | succ k ih4 =>
      intro i f H locs ls hk hi h_tr h_rows h_goes hF hw hl
      refine lv_iload_n E.1.1 E.1.2.1 dX4_machine_4 rfl (lv_at hl 0 rfl) ?_
      refine lv_aload_n E.1.1 E.1.2.1 dX4_machine_5 rfl (lv_at hl 2 rfl) ?_
      refine k_get (v := .int (nI nf)) E inlX4 rfl 5 (by decide) w1_58 rfl hw h_tr rfl dX4_machine_6 ?_
      refine k_ge (tgt := 33) E dX4_machine_9 (by decide) (by omega) (by omega) (fun c9 => ?_) (fun c9 => ?_)
      · obtain rfl : nf = i := by omega
        refine k_new (ci := 2) (ty0 := tyX2) E inlX2 rfl tyX2_ok w1_170 w1_171 w1_9 hw [.int 0, .int 0, .null, .long 0] (fun j hj => by rcases (show j = 0 ∨ j = 1 ∨ j = 2 ∨ j = 3 by omega) with rfl | rfl | rfl | rfl <;> rfl) (by rw [hR]; exact Nat.le_of_ble_eq_true rfl) (by rw [hR]; exact Nat.le_of_ble_eq_true rfl) dX4_machine_33 (fun mc f H hq_mc h_mc hfr hw => ?_)
        have n_tr_mc : tr ≠ mc := fun h => hq_mc (h ▸ h_tr.1)
        have n_mc_tr := Ne.symm n_tr_mc
        have h_tr := h_tr.keep (sub_snoc (a := mc)) (hfr _ n_tr_mc)
        have n_rows_mc : ro ≠ mc := fun h => hq_mc (h ▸ h_rows.1)
        have n_mc_rows := Ne.symm n_rows_mc
        have h_rows := h_rows.keep (sub_snoc (a := mc)) (hfr _ n_rows_mc)
        have n_goes_mc : go ≠ mc := fun h => hq_mc (h ▸ h_goes.1)
        have n_mc_goes := Ne.symm n_goes_mc
        have h_goes := h_goes.keep (sub_snoc (a := mc)) (hfr _ n_goes_mc)
        have hd_mc : ∀ b ∈ L, b ≠ mc := fun b hb h => hq_mc (h ▸ hLs b hb)
        have hF : ∀ b ∈ L, f b = f0 b := fun b hb => (hfr b (hd_mc b hb)).trans (hF b hb)
        have hLs : ∀ b ∈ L, b ∈ L ++ [mc] := fun b hb => List.mem_append_left _ (hLs b hb)
        refine W.cs (cells' := 1) (slots' := 4) rfl rfl ?_
        refine lv_dup E.1.1 E.1.2.1 dX4_machine_36 rfl ?_
        refine lv_aload_n E.1.1 E.1.2.1 dX4_machine_37 rfl (lv_at hl 2 rfl) ?_
        refine k_get (v := .int (nI base)) E inlX4 rfl 2 (by decide) w1_55 rfl hw h_tr rfl dX4_machine_38 ?_
        refine lv_aload_n E.1.1 E.1.2.1 dX4_machine_41 rfl (lv_at hl 2 rfl) ?_
        refine k_get (v := .int (nI nf)) E inlX4 rfl 5 (by decide) w1_58 rfl hw h_tr rfl dX4_machine_42 ?_
        refine lv_aload_n E.1.1 E.1.2.1 dX4_machine_45 rfl (lv_at hl 2 rfl) ?_
        refine k_get (v := .ref go) E inlX4 rfl 1 (by decide) w1_54 rfl hw h_tr rfl dX4_machine_46 ?_
        refine lv_aload_n E.1.1 E.1.2.1 dX4_machine_49 rfl (lv_at hl 2 rfl) ?_
        refine k_get (v := .int (nI nf)) E inlX4 rfl 5 (by decide) w1_58 rfl hw h_tr rfl dX4_machine_50 ?_
        refine lv_aload_n E.1.1 E.1.2.1 dX4_machine_53 rfl (lv_at hl 2 rfl) ?_
        refine k_get (v := .int (nI base)) E inlX4 rfl 2 (by decide) w1_55 rfl hw h_tr rfl dX4_machine_54 ?_
        refine k_mul E dX4_machine_57 ?_
        refine k_mq hw (va_runS (As := [.ref go, .int (nI (nf * base))]) (rest := [.int (nI nf), .int (nI base), .ref mc, .ref mc]) E.1 (c_copyOfI l D cy (L ++ [mc]) f H.size go (nf * base) G (by have := Nat.mul_le_mul hnf hbase; omega) h_goes) ⟨callB_of 2 E.1.2.2.2.2 (gd_own w1_174) rfl rfl rfl (E.1.2.2.2.2 _ w1_6) (E.1.2.2.2.2 _ w1_172) hd_J7_copyOf_59c91 (by rw [hR]; exact ⟨Nat.le_of_ble_eq_true rfl, Nat.le_of_ble_eq_true rfl⟩), E.1.2.2.2.2 _ w1_173⟩ (pw_pre E.2 hw) rfl rfl hl.1 rfl (lv_room (Nat.le_of_ble_eq_true rfl)) dX4_machine_58 (by rw [hR]; exact ⟨Nat.le_of_ble_eq_true rfl, Nat.le_of_ble_eq_true rfl⟩)) (fun r L1 f H locs hp hw => ?_)
        refine W.cs (cells' := 2) (slots' := 324) rfl rfl ?_
        obtain ⟨hLn, hfr, gs, rfl, hq_gs, h_gs⟩ := hp
        obtain ⟨L44, hLx⟩ : ∃ X, X = L1 := ⟨_, rfl⟩
        dsimp only at hLn hfr h_gs
        rw [← hLx] at hLn hw h_gs
        clear hLx
        have hd_gs : ∀ b ∈ L, b ≠ gs := fun b hb h => hq_gs (h ▸ hLs b hb)
        have n_tr_gs : tr ≠ gs := fun h => hq_gs (h ▸ h_tr.1)
        have n_gs_tr := Ne.symm n_tr_gs
        have n_rows_gs : ro ≠ gs := fun h => hq_gs (h ▸ h_rows.1)
        have n_gs_rows := Ne.symm n_rows_gs
        have n_goes_gs : go ≠ gs := fun h => hq_gs (h ▸ h_goes.1)
        have n_gs_goes := Ne.symm n_goes_gs
        have n_mc_gs : mc ≠ gs := fun h => hq_gs (h ▸ h_mc.1)
        have n_gs_mc := Ne.symm n_mc_gs
        have h_tr := h_tr.keep hLn (hfr _ h_tr.1)
        have h_rows := h_rows.keep hLn (hfr _ h_rows.1)
        have h_goes := h_goes.keep hLn (hfr _ h_goes.1)
        have h_mc := h_mc.keep hLn (hfr _ h_mc.1)
        have hF : ∀ b ∈ L, f b = f0 b := fun b hb => (hfr b (hLs b hb)).trans (hF b hb)
        have hLs : ∀ b ∈ L, b ∈ L44 := fun b hb => hLn b (hLs b hb)
        refine lv_lload_n E.1.1 E.1.2.1 dX4_machine_61 rfl (lv_at hl 1 rfl) ?_
        refine k_mv hw (va_runI (As := [.int (nI base), .int (nI nf), .ref gs, .long (lN (bsum (fun x => B x 0) nf))]) (rest := [.ref mc]) E.1 (c_Machine_init l D cy L44 f H.size mc base nf gs (lN (bsum (fun x => B x 0) nf)) h_mc) ⟨callB_of 4 E.1.2.2.2.2 (gd_own w1_186) rfl rfl rfl (E.1.2.2.2.2 _ w1_9) (E.1.2.2.2.2 _ w1_184) hd_X2_init (by rw [hR]; exact ⟨Nat.le_of_ble_eq_true rfl, Nat.le_of_ble_eq_true rfl⟩), rfl, E.1.2.2.2.2 _ w1_185⟩ (pw_pre E.2 hw) rfl rfl hl.1 rfl (lv_room (Nat.le_of_ble_eq_true rfl)) dX4_machine_62 (by rw [hR]; exact ⟨Nat.le_of_ble_eq_true rfl, Nat.le_of_ble_eq_true rfl⟩)) (fun L1 f H locs hp hw => ?_)
        obtain ⟨hL1, hfr, h_mc⟩ := hp
        have hL1 : L44 = L1 := hL1
        subst hL1
        have h_mc : cel L44 f mc (.inr (2, [.int (nI base), .int (nI nf), .ref gs, .long (lN (bsum (fun x => B x 0) nf))])) := h_mc
        have h_tr := h_tr.keep (fun _ h => h) (hfr _ h_tr.1 n_tr_mc)
        have h_rows := h_rows.keep (fun _ h => h) (hfr _ h_rows.1 n_rows_mc)
        have h_goes := h_goes.keep (fun _ h => h) (hfr _ h_goes.1 n_goes_mc)
        have h_gs := h_gs.keep (fun _ h => h) (hfr _ h_gs.1 n_gs_mc)
        have hF : ∀ b ∈ L, f b = f0 b := fun b hb => (hfr b (hLs b hb) (hd_mc b hb)).trans (hF b hb)
        exact k_mqret (v := some mc) E hQ hlk hr (Or.inl ⟨_, rfl⟩) hw (Nat.le_of_ble_eq_true rfl) (Nat.le_of_ble_eq_true rfl) (⟨hLs, hF, mc, gs, rfl, fun h => hd_mc mc h rfl, fun h => hd_gs gs h rfl, h_mc, h_gs⟩) dX4_machine_65
      · refine lv_lload_n E.1.1 E.1.2.1 dX4_machine_12 rfl (lv_at hl 1 rfl) ?_
        refine lv_aload_n E.1.1 E.1.2.1 dX4_machine_13 rfl (lv_at hl 2 rfl) ?_
        refine k_get (v := .ref ro) E inlX4 rfl 0 (by decide) w1_53 rfl hw h_tr rfl dX4_machine_14 ?_
        refine lv_iload_n E.1.1 E.1.2.1 dX4_machine_17 rfl (lv_at hl 0 rfl) ?_
        refine lv_iconst (v := nI 3) E.1.1 E.1.2.1 dX4_machine_18 rfl ?_
        refine k_mul E dX4_machine_19 ?_
        refine k_lald E hw (v := wd (B i) 0) h_rows (by omega) (by omega) (rw3_at B i (k := 0) (by decide)) dX4_machine_20 ?_
        refine lv_lconst (v := 1) E.1.1 E.1.2.1 dX4_machine_21 rfl ?_
        refine lv_land E.1.1 E.1.2.1 dX4_machine_22 ?_
        refine k_topl E (lN (if B i 0 then 1 else 0)) (wd_low) ?_
        refine lv_iload_n E.1.1 E.1.2.1 dX4_machine_23 rfl (lv_at hl 0 rfl) ?_
        refine lv_lshl E.1.1 E.1.2.1 dX4_machine_24 rfl ?_
        refine k_topl E (lN (if B i 0 then 2 ^ (i % 64) else 0)) (bit_shl (by omega)) ?_
        refine lv_lor E.1.1 E.1.2.1 dX4_machine_25 ?_
        refine k_topl E (lN (bsum (fun x => B x 0) (i + 1))) (bsum_or (by omega)) ?_
        refine lv_lstore_n (lv' := [(1, .long (lN (bsum (fun x => B x 0) (i + 1)))), (3, .int (nI i)), (0, .ref tr)]) E.1.1 E.1.2.1 dX4_machine_26 rfl hl (by decide) rfl (fun ls hl => ?_)
        refine lv_iinc (v := nI (i + 1)) (lv' := [(3, .int (nI (i + 1))), (1, .long (lN (bsum (fun x => B x 0) (i + 1)))), (0, .ref tr)]) E.1.1 E.1.2.1 dX4_machine_27 hl (k := 1) rfl (nI_1 _) (by decide) rfl (fun ls hl => ?_)
        refine lv_goto (tgt := 4) E.1.1 E.1.2.1 dX4_machine_30 (by decide) ?_
        exact ih4  (i + 1) f H locs ls (by omega) (by omega) h_tr h_rows h_goes hF hw (lv_sub hl [0, 1, 2] rfl)
  exact lp4 (nf - 0 + 1) 0 f H locs ls (Nat.lt_succ_self _) (by omega) h_tr h_rows h_goes hF hw (lv_sub hl [0, 1, 2] rfl)

set_option maxHeartbeats 4000000 in
set_option maxRecDepth 100000 in
theorem c_Round_init (l : Launch) (D : va_G) (cy : Nat → ClassId) (L : List Nat) (f0 : Nat → va_E) (sz : Nat) (h0 d r0 t per mc : Nat) (b : Nat → Bool) (h_d : cel L f0 d (.inr (0, [.ref r0, .int (nI t), .int (nI per)]))) (h_row : cel L f0 r0 (.inl (cy 1, 59, .inr (.inl (wd b))))) (h_o : cel L f0 h0 (.inr (3, [.int 0, .int 0, .null, .null]))) : Met l yX3_init (.code yX3_init cX3_init 3 none :: wsL_law) { frames := 2, cells := 1, slots := 3, locals := 40 } (va_Pc [.ref h0, .ref d, .ref mc] (PW D cy L f0 sz)) (va_Qv (fun u : List Nat × (Nat → va_E) => (∀ b ∈ L, b ∈ u.1) ∧ (∀ b ∈ L, b ≠ h0 → u.2 b = f0 b) ∧ ∃ rw, rw ∉ L ∧ cel u.1 u.2 rw (.inl (cy 1, 3, .inr (.inl (wd b)))) ∧ cel u.1 u.2 h0 (.inr (3, [.int (nI t), .int (nI per), .ref rw, .ref mc]))) (PB D (AW L sz)) (AW L sz)) 1 3 (AW L sz) := by
  refine m_start (by decide) (Nat.le_of_ble_eq_true rfl) ?_
  intro p e R Q s m args below meth c ls hsz hR hQ E hr hlk hnm hw hl
  have hl : lv_has ls 3 [(0, .ref h0), (1, .ref d), (2, .ref mc)] := hl
  obtain ⟨H, hH⟩ : ∃ X, X = s.heap := ⟨_, rfl⟩
  obtain ⟨locs, hlocs⟩ : ∃ X : List Loc, X = [] := ⟨_, rfl⟩
  have hw0 := hw
  obtain ⟨f, hf0⟩ : ∃ X, X = f0 := ⟨_, rfl⟩
  rw [← hf0] at h_d h_row h_o
  have hw : WW D (AW L sz) s.heap L f H locs := by rw [hH, hlocs, hf0]; exact hw
  have hF : ∀ b ∈ L, b ≠ h0 → f b = f0 b := fun b hb h0 => by rw [hf0]
  suffices hgo : W p l e R s m args below meth c H locs 0 0 Q (F0 m 0 ls []) by rw [hH, hlocs] at hgo; exact hgo
  clear hH hlocs hw0 hf0
  have hLs : ∀ b ∈ L, b ∈ L := fun _ h => h
  have n_d_o : d ≠ h0 := h_d.ne h_o (by simp)
  have n_row_o : r0 ≠ h0 := h_row.ne h_o (by simp)
  refine lv_aload_n E.1.1 E.1.2.1 dX3_init_0 rfl (lv_at hl 0 rfl) ?_
  refine W.objInit E.1.1 E.1.2.1 E.1.2.2.2.1 (E.1.2.2.2.2 _ w1_206) (E.1.2.2.2.2 _ w1_18) (E.1.2.2.2.2 _ w1_19) rfl (by rw [E.1.2.2.1]; exact hl.1) rfl dX3_init_1 (by rw [hR]; exact Nat.le_of_ble_eq_true rfl) (by rw [hR]; exact Nat.le_of_ble_eq_true rfl) ?_
  refine W.eq (g2 := F0 m 4 ls []) rfl ?_
  refine lv_aload_n E.1.1 E.1.2.1 dX3_init_4 rfl (lv_at hl 0 rfl) ?_
  refine lv_aload_n E.1.1 E.1.2.1 dX3_init_5 rfl (lv_at hl 1 rfl) ?_
  refine k_getN (v := .int (nI t)) E inlX0 rfl 1 (by decide) (List.mem_of_getElem? (i := 3) rfl) rfl hw h_d rfl dX3_init_6 ?_
  refine k_putF (ty0 := tyX3) E inlX3 rfl tyX3_ok nmX3 0 (by decide) w1_215 rfl rfl hnm rfl hw [.int (nI t), .int 0, .null, .null] h_o (rfl) (rfl) (Nat.le_of_ble_eq_true rfl) rfl dX3_init_9 (fun f H locs h_o hfr hw => ?_)
  have h_d := h_d.kp hfr n_d_o
  have h_row := h_row.kp hfr n_row_o
  have hF : ∀ b ∈ L, b ≠ h0 → f b = f0 b := fun b hb h0 => (hfr b h0).trans (hF b hb h0)
  refine lv_aload_n E.1.1 E.1.2.1 dX3_init_12 rfl (lv_at hl 0 rfl) ?_
  refine lv_aload_n E.1.1 E.1.2.1 dX3_init_13 rfl (lv_at hl 1 rfl) ?_
  refine k_getN (v := .int (nI per)) E inlX0 rfl 2 (by decide) (List.mem_of_getElem? (i := 5) rfl) rfl hw h_d rfl dX3_init_14 ?_
  refine k_putF (ty0 := tyX3) E inlX3 rfl tyX3_ok nmX3 1 (by decide) w1_217 rfl rfl hnm rfl hw [.int (nI t), .int (nI per), .null, .null] h_o (rfl) (rfl) (Nat.le_of_ble_eq_true rfl) rfl dX3_init_17 (fun f H locs h_o hfr hw => ?_)
  have h_d := h_d.kp hfr n_d_o
  have h_row := h_row.kp hfr n_row_o
  have hF : ∀ b ∈ L, b ≠ h0 → f b = f0 b := fun b hb h0 => (hfr b h0).trans (hF b hb h0)
  refine lv_aload_n E.1.1 E.1.2.1 dX3_init_20 rfl (lv_at hl 0 rfl) ?_
  refine lv_aload_n E.1.1 E.1.2.1 dX3_init_21 rfl (lv_at hl 1 rfl) ?_
  refine k_getN (v := .ref r0) E inlX0 rfl 0 (by decide) (List.mem_of_getElem? (i := 1) rfl) rfl hw h_d rfl dX3_init_22 ?_
  refine lv_iconst (v := nI 3) E.1.1 E.1.2.1 dX3_init_25 rfl ?_
  refine k_mq hw (va_runS (As := [.ref r0, .int (nI 3)]) (rest := [.ref h0]) E.1 (c_copyOfJ l D cy L f H.size r0 (wd b) h_row) ⟨callB_of 2 E.1.2.2.2.2 (gd_own w1_209) rfl rfl rfl (E.1.2.2.2.2 _ w1_6) (E.1.2.2.2.2 _ w1_207) hd_J7_copyOf_c38d5 (by rw [hR]; exact ⟨Nat.le_of_ble_eq_true rfl, Nat.le_of_ble_eq_true rfl⟩), E.1.2.2.2.2 _ w1_208⟩ (pw_pre E.2 hw) rfl rfl hl.1 rfl (lv_room (Nat.le_of_ble_eq_true rfl)) dX3_init_26 (by rw [hR]; exact ⟨Nat.le_of_ble_eq_true rfl, Nat.le_of_ble_eq_true rfl⟩)) (fun r L1 f H locs hp hw => ?_)
  refine W.cs (cells' := 1) (slots' := 3) rfl rfl ?_
  obtain ⟨hLn, hfr, rw, rfl, hq_rw, h_rw⟩ := hp
  obtain ⟨L25, hLx⟩ : ∃ X, X = L1 := ⟨_, rfl⟩
  dsimp only at hLn hfr h_rw
  rw [← hLx] at hLn hw h_rw
  clear hLx
  have hd_rw : ∀ b ∈ L, b ≠ rw := fun b hb h => hq_rw (h ▸ hLs b hb)
  have n_d_rw : d ≠ rw := fun h => hq_rw (h ▸ h_d.1)
  have n_rw_d := Ne.symm n_d_rw
  have n_row_rw : r0 ≠ rw := fun h => hq_rw (h ▸ h_row.1)
  have n_rw_row := Ne.symm n_row_rw
  have n_o_rw : h0 ≠ rw := fun h => hq_rw (h ▸ h_o.1)
  have n_rw_o := Ne.symm n_o_rw
  have h_d := h_d.keep hLn (hfr _ h_d.1)
  have h_row := h_row.keep hLn (hfr _ h_row.1)
  have h_o := h_o.keep hLn (hfr _ h_o.1)
  have hF : ∀ b ∈ L, b ≠ h0 → f b = f0 b := fun b hb h0 => (hfr b (hLs b hb)).trans (hF b hb h0)
  have hLs : ∀ b ∈ L, b ∈ L25 := fun b hb => hLn b (hLs b hb)
  refine k_putF (ty0 := tyX3) E inlX3 rfl tyX3_ok nmX3 2 (by decide) w1_219 rfl rfl hnm rfl hw [.int (nI t), .int (nI per), .ref rw, .null] h_o (rfl) (rfl) (Nat.le_of_ble_eq_true rfl) rfl dX3_init_29 (fun f H locs h_o hfr hw => ?_)
  have h_d := h_d.kp hfr n_d_o
  have h_row := h_row.kp hfr n_row_o
  have h_rw := h_rw.kp hfr n_rw_o
  have hF : ∀ b ∈ L, b ≠ h0 → f b = f0 b := fun b hb h0 => (hfr b h0).trans (hF b hb h0)
  refine lv_aload_n E.1.1 E.1.2.1 dX3_init_32 rfl (lv_at hl 0 rfl) ?_
  refine lv_aload_n E.1.1 E.1.2.1 dX3_init_33 rfl (lv_at hl 2 rfl) ?_
  refine k_putF (ty0 := tyX3) E inlX3 rfl tyX3_ok nmX3 3 (by decide) w1_220 rfl rfl hnm rfl hw [.int (nI t), .int (nI per), .ref rw, .ref mc] h_o (rfl) (rfl) (Nat.le_of_ble_eq_true rfl) rfl dX3_init_34 (fun f H locs h_o hfr hw => ?_)
  have h_d := h_d.kp hfr n_d_o
  have h_row := h_row.kp hfr n_row_o
  have h_rw := h_rw.kp hfr n_rw_o
  have hF : ∀ b ∈ L, b ≠ h0 → f b = f0 b := fun b hb h0 => (hfr b h0).trans (hF b hb h0)
  exact k_mvret E hQ hlk hr hw (Nat.le_of_ble_eq_true rfl) (Nat.le_of_ble_eq_true rfl) (⟨hLs, hF, rw, fun h => hd_rw rw h rfl, h_rw, h_o⟩) dX3_init_37

set_option maxHeartbeats 4000000 in
set_option maxRecDepth 100000 in
theorem c_drafted (l : Launch) (D : va_G) (cy : Nat → ClassId) (L : List Nat) (f0 : Nat → va_E) (sz : Nat) (nm sl im d r0 tr ro go base t per : Nat) (M : List Nat) (j1 j2 j3 j4 : Int32) (b : Nat → Bool) (B0 : Nat → Nat → Bool) (G0 : Nat → Int32) (hbase : 0 < base) (hbase5 : base ≤ 5) (hb1 : t + per ≤ 3776) (hper : 0 < per) (hM : ∀ x ∈ M, x ∈ L) (h_nm : cel L f0 nm (.inr (5, [.ref sl, .ref im, .ref d, .ref tr, .int (nI base)]))) (h_d : cel L f0 d (.inr (0, [.ref r0, .int (nI t), .int (nI per)]))) (h_row : cel L f0 r0 (.inl (cy 1, 59, .inr (.inl (wd b))))) (h_tr : cel L f0 tr (.inr (4, [.ref ro, .ref go, .int j1, .int j2, .int j3, .int j4]))) (h_rows : cel L f0 ro (.inl (cy 1, 195, .inr (.inl (rw3 B0))))) (h_goes : cel L f0 go (.inl (cy 0, 320, .inl G0))) : Met l yX5_drafted (.code yX5_drafted cX5_drafted 1 (Option.some (FieldType.object "NumberMachines$Round")) :: wsL_law) { frames := 4, cells := 4, slots := 331, locals := 86 } (va_Pc [.ref nm] (PW D cy L f0 sz)) (va_Qq (fun (r : Option Nat) (u : List Nat × (Nat → va_E)) => (∀ b ∈ L, b ∈ u.1) ∧ (∀ b ∈ L, b ≠ d → b ≠ r0 → b ≠ tr → b ≠ ro → b ≠ go → u.2 b = f0 b) ∧ Scr cy u.1 u.2 d r0 tr ro go ∧ ((r = none ∧ Large (den t per b) base) ∨ ∃ q, r = some q ∧ q ∉ L ∧ Rnd cy u.1 u.2 M q (den t per b) base)) (PB D (AW L sz)) (AW L sz)) 4 331 (AW L sz) := by
  refine m_start (by decide) (Nat.le_of_ble_eq_true rfl) ?_
  intro p e R Q s m args below meth c ls hsz hR hQ E hr hlk hnm hw hl
  have hl : lv_has ls 1 [(0, .ref nm)] := hl
  obtain ⟨H, hH⟩ : ∃ X, X = s.heap := ⟨_, rfl⟩
  obtain ⟨locs, hlocs⟩ : ∃ X : List Loc, X = [] := ⟨_, rfl⟩
  have hw0 := hw
  obtain ⟨f, hf0⟩ : ∃ X, X = f0 := ⟨_, rfl⟩
  rw [← hf0] at h_nm h_d h_row h_tr h_rows h_goes
  have hw : WW D (AW L sz) s.heap L f H locs := by rw [hH, hlocs, hf0]; exact hw
  have hF : ∀ b ∈ L, b ≠ d → b ≠ r0 → b ≠ tr → b ≠ ro → b ≠ go → f b = f0 b := fun b hb h0 h1 h2 h3 h4 => by rw [hf0]
  suffices hgo : W p l e R s m args below meth c H locs 0 0 Q (F0 m 0 ls []) by rw [hH, hlocs] at hgo; exact hgo
  clear hH hlocs hw0 hf0
  have hLs : ∀ b ∈ L, b ∈ L := fun _ h => h
  have n_nm_d : nm ≠ d := h_nm.ne h_d (by simp)
  have n_nm_row : nm ≠ r0 := h_nm.ne h_row (by simp)
  have n_nm_tr : nm ≠ tr := h_nm.ne h_tr (by simp)
  have n_nm_rows : nm ≠ ro := h_nm.ne h_rows (by simp)
  have n_nm_goes : nm ≠ go := h_nm.ne h_goes (by simp)
  have n_d_row : d ≠ r0 := h_d.ne h_row (by simp)
  have n_d_tr : d ≠ tr := h_d.ne h_tr (by simp)
  have n_d_rows : d ≠ ro := h_d.ne h_rows (by simp)
  have n_d_goes : d ≠ go := h_d.ne h_goes (by simp)
  have n_row_d : r0 ≠ d := h_row.ne h_d (by simp)
  have n_row_tr : r0 ≠ tr := h_row.ne h_tr (by simp)
  have n_row_rows : r0 ≠ ro := h_row.ne h_rows (by simp)
  have n_row_goes : r0 ≠ go := h_row.ne h_goes (by simp)
  have n_tr_d : tr ≠ d := h_tr.ne h_d (by simp)
  have n_tr_row : tr ≠ r0 := h_tr.ne h_row (by simp)
  have n_tr_rows : tr ≠ ro := h_tr.ne h_rows (by simp)
  have n_tr_goes : tr ≠ go := h_tr.ne h_goes (by simp)
  have n_rows_d : ro ≠ d := h_rows.ne h_d (by simp)
  have n_rows_row : ro ≠ r0 := h_rows.ne h_row (by simp)
  have n_rows_tr : ro ≠ tr := h_rows.ne h_tr (by simp)
  have n_rows_goes : ro ≠ go := h_rows.ne h_goes (by simp)
  have n_goes_d : go ≠ d := h_goes.ne h_d (by simp)
  have n_goes_row : go ≠ r0 := h_goes.ne h_row (by simp)
  have n_goes_tr : go ≠ tr := h_goes.ne h_tr (by simp)
  have n_goes_rows : go ≠ ro := h_goes.ne h_rows (by simp)
  refine lv_aload_n E.1.1 E.1.2.1 dX5_drafted_0 rfl (lv_at hl 0 rfl) ?_
  refine k_get (v := .ref d) E inlX5 rfl 2 (by decide) w1_233 rfl hw h_nm rfl dX5_drafted_1 ?_
  refine k_mi hw (va_runV (As := []) (rest := []) E.1 (c_reduce l D cy L f H.size d r0 t per b hb1 hper h_d h_row) ⟨callB_of 0 E.1.2.2.2.2 (gd_own w1_111) rfl rfl rfl (E.1.2.2.2.2 _ w1_2) (E.1.2.2.2.2 _ w1_108) hd_X0_reduce (by rw [hR]; exact ⟨Nat.le_of_ble_eq_true rfl, Nat.le_of_ble_eq_true rfl⟩), E.1.2.2.2.2 _ w1_109, E.1.2.2.2.2 _ w1_110⟩ (pw_preV (q := (RX0, TX0, 3)) E.2 hw h_d rfl) rfl rfl hl.1 rfl (lv_room (Nat.le_of_ble_eq_true rfl)) dX5_drafted_4 (by rw [hR]; exact ⟨Nat.le_of_ble_eq_true rfl, Nat.le_of_ble_eq_true rfl⟩)) (fun r L1 f H locs hp hw => ?_)
  obtain ⟨hL1, hfr, hcase⟩ := hp
  have hL1 : L = L1 := hL1
  subst hL1
  rcases hcase with ⟨rfl, x, q, b2, h_d, h_row, hS⟩ | ⟨rfl, k1, k2, g, h_d, h_row, hno⟩
  · have hS2 := hS
    have h_d : cel L f d (.inr (0, [.ref r0, .int (nI x), .int (nI q)])) := h_d
    have h_row : cel L f r0 (.inl (cy 1, 59, .inr (.inl (wd b2)))) := h_row
    have h_nm := h_nm.keep (fun _ h => h) (hfr _ h_nm.1 n_nm_d n_nm_row)
    have h_tr := h_tr.keep (fun _ h => h) (hfr _ h_tr.1 n_tr_d n_tr_row)
    have h_rows := h_rows.keep (fun _ h => h) (hfr _ h_rows.1 n_rows_d n_rows_row)
    have h_goes := h_goes.keep (fun _ h => h) (hfr _ h_goes.1 n_goes_d n_goes_row)
    have hF : ∀ b ∈ L, b ≠ d → b ≠ r0 → b ≠ tr → b ≠ ro → b ≠ go → f b = f0 b := fun b hb h0 h1 h2 h3 h4 => (hfr b (hLs b hb) h0 h1).trans (hF b hb h0 h1 h2 h3 h4)
    refine k_if0 (tgt := 28) E dX5_drafted_7 (by decide) (fun c7 => absurd c7 (by decide)) (fun c7 => ?_)
    refine lv_aload_n E.1.1 E.1.2.1 dX5_drafted_10 rfl (lv_at hl 0 rfl) ?_
    refine k_get (v := .ref tr) E inlX5 rfl 3 (by decide) w1_234 rfl hw h_nm rfl dX5_drafted_11 ?_
    refine lv_aload_n E.1.1 E.1.2.1 dX5_drafted_14 rfl (lv_at hl 0 rfl) ?_
    refine k_get (v := .ref d) E inlX5 rfl 2 (by decide) w1_233 rfl hw h_nm rfl dX5_drafted_15 ?_
    refine lv_aload_n E.1.1 E.1.2.1 dX5_drafted_18 rfl (lv_at hl 0 rfl) ?_
    refine k_get (v := .int (nI base)) E inlX5 rfl 4 (by decide) w1_235 rfl hw h_nm rfl dX5_drafted_19 ?_
    refine k_mi hw (va_runV (As := [.ref d, .int (nI base)]) (rest := []) E.1 (c_trace l D cy L f H.size tr ro go d r0 base x q j1 j2 j3 j4 b2 B0 G0 (den t per b) hbase hbase5 hS h_tr h_rows h_goes h_d h_row) ⟨callB_of 2 E.1.2.2.2.2 (gd_own w1_142) rfl rfl rfl (E.1.2.2.2.2 _ w1_3) (E.1.2.2.2.2 _ w1_139) hd_X4_trace (by rw [hR]; exact ⟨Nat.le_of_ble_eq_true rfl, Nat.le_of_ble_eq_true rfl⟩), E.1.2.2.2.2 _ w1_140, E.1.2.2.2.2 _ w1_141⟩ (pw_preV (q := (RX4, TX4, 6)) E.2 hw h_tr rfl) rfl rfl hl.1 rfl (lv_room (Nat.le_of_ble_eq_true rfl)) dX5_drafted_22 (by rw [hR]; exact ⟨Nat.le_of_ble_eq_true rfl, Nat.le_of_ble_eq_true rfl⟩)) (fun r L1 f H locs hp hw => ?_)
    obtain ⟨hL1, hfr, nf, B, G, h_tr, h_rows, h_goes, hcase⟩ := hp
    have hL1 : L = L1 := hL1
    subst hL1
    have h_tr : cel L f tr (.inr (4, [.ref ro, .ref go, .int (nI base), .int (nI x), .int (nI q), .int (nI nf)])) := h_tr
    have h_rows : cel L f ro (.inl (cy 1, 195, .inr (.inl (rw3 B)))) := h_rows
    have h_goes : cel L f go (.inl (cy 0, 320, .inl G)) := h_goes
    have h_nm := h_nm.keep (fun _ h => h) (hfr _ h_nm.1 n_nm_tr n_nm_rows n_nm_goes)
    have h_d := h_d.keep (fun _ h => h) (hfr _ h_d.1 n_d_tr n_d_rows n_d_goes)
    have h_row := h_row.keep (fun _ h => h) (hfr _ h_row.1 n_row_tr n_row_rows n_row_goes)
    have hF : ∀ b ∈ L, b ≠ d → b ≠ r0 → b ≠ tr → b ≠ ro → b ≠ go → f b = f0 b := fun b hb h0 h1 h2 h3 h4 => (hfr b (hLs b hb) h2 h3 h4).trans (hF b hb h0 h1 h2 h3 h4)
    rcases hcase with ⟨rfl, hnf, hT⟩ | ⟨rfl, K, hK1, hK2⟩
    · have hT2 := hT
      refine k_if1 (tgt := 30) E dX5_drafted_25 (by decide) (fun c25 => ?_) (fun c25 => absurd c25 (by decide))
      refine k_new (ci := 3) (ty0 := tyX3) E inlX3 rfl tyX3_ok w1_20 w1_165 w1_8 hw [.int 0, .int 0, .null, .null] (fun j hj => by rcases (show j = 0 ∨ j = 1 ∨ j = 2 ∨ j = 3 by omega) with rfl | rfl | rfl | rfl <;> rfl) (by rw [hR]; exact Nat.le_of_ble_eq_true rfl) (by rw [hR]; exact Nat.le_of_ble_eq_true rfl) dX5_drafted_30 (fun ro3 f H hq_ro3 h_ro3 hfr hw => ?_)
      have n_nm_ro3 : nm ≠ ro3 := fun h => hq_ro3 (h ▸ h_nm.1)
      have n_ro3_nm := Ne.symm n_nm_ro3
      have h_nm := h_nm.keep (sub_snoc (a := ro3)) (hfr _ n_nm_ro3)
      have n_d_ro3 : d ≠ ro3 := fun h => hq_ro3 (h ▸ h_d.1)
      have n_ro3_d := Ne.symm n_d_ro3
      have h_d := h_d.keep (sub_snoc (a := ro3)) (hfr _ n_d_ro3)
      have n_row_ro3 : r0 ≠ ro3 := fun h => hq_ro3 (h ▸ h_row.1)
      have n_ro3_row := Ne.symm n_row_ro3
      have h_row := h_row.keep (sub_snoc (a := ro3)) (hfr _ n_row_ro3)
      have n_tr_ro3 : tr ≠ ro3 := fun h => hq_ro3 (h ▸ h_tr.1)
      have n_ro3_tr := Ne.symm n_tr_ro3
      have h_tr := h_tr.keep (sub_snoc (a := ro3)) (hfr _ n_tr_ro3)
      have n_rows_ro3 : ro ≠ ro3 := fun h => hq_ro3 (h ▸ h_rows.1)
      have n_ro3_rows := Ne.symm n_rows_ro3
      have h_rows := h_rows.keep (sub_snoc (a := ro3)) (hfr _ n_rows_ro3)
      have n_goes_ro3 : go ≠ ro3 := fun h => hq_ro3 (h ▸ h_goes.1)
      have n_ro3_goes := Ne.symm n_goes_ro3
      have h_goes := h_goes.keep (sub_snoc (a := ro3)) (hfr _ n_goes_ro3)
      have hd_ro3 : ∀ b ∈ L, b ≠ ro3 := fun b hb h => hq_ro3 (h ▸ hLs b hb)
      have hF : ∀ b ∈ L, b ≠ d → b ≠ r0 → b ≠ tr → b ≠ ro → b ≠ go → f b = f0 b := fun b hb h0 h1 h2 h3 h4 => (hfr b (hd_ro3 b hb)).trans (hF b hb h0 h1 h2 h3 h4)
      have hLs : ∀ b ∈ L, b ∈ L ++ [ro3] := fun b hb => List.mem_append_left _ (hLs b hb)
      refine W.cs (cells' := 1) (slots' := 4) rfl rfl ?_
      refine lv_dup E.1.1 E.1.2.1 dX5_drafted_33 rfl ?_
      refine lv_aload_n E.1.1 E.1.2.1 dX5_drafted_34 rfl (lv_at hl 0 rfl) ?_
      refine k_get (v := .ref d) E inlX5 rfl 2 (by decide) w1_233 rfl hw h_nm rfl dX5_drafted_35 ?_
      refine lv_aload_n E.1.1 E.1.2.1 dX5_drafted_38 rfl (lv_at hl 0 rfl) ?_
      refine k_get (v := .ref tr) E inlX5 rfl 3 (by decide) w1_234 rfl hw h_nm rfl dX5_drafted_39 ?_
      refine k_mq hw (va_runV (As := []) (rest := [.ref d, .ref ro3, .ref ro3]) E.1 (c_machine l D cy (L ++ [ro3]) f H.size tr ro go base x q nf B G hnf hbase5 h_tr h_rows h_goes) ⟨callB_of 0 E.1.2.2.2.2 (gd_own w1_169) rfl rfl rfl (E.1.2.2.2.2 _ w1_3) (E.1.2.2.2.2 _ w1_166) hd_X4_machine (by rw [hR]; exact ⟨Nat.le_of_ble_eq_true rfl, Nat.le_of_ble_eq_true rfl⟩), E.1.2.2.2.2 _ w1_167, E.1.2.2.2.2 _ w1_168⟩ (pw_preV (q := (RX4, TX4, 6)) E.2 hw h_tr rfl) rfl rfl hl.1 rfl (lv_room (Nat.le_of_ble_eq_true rfl)) dX5_drafted_42 (by rw [hR]; exact ⟨Nat.le_of_ble_eq_true rfl, Nat.le_of_ble_eq_true rfl⟩)) (fun r L1 f H locs hp hw => ?_)
      refine W.cs (cells' := 3) (slots' := 328) rfl rfl ?_
      obtain ⟨hLn, hfr, mc, gs, rfl, hq_mc, hq_gs, h_mc, h_gs⟩ := hp
      obtain ⟨L91, hLx⟩ : ∃ X, X = L1 := ⟨_, rfl⟩
      dsimp only at hLn hfr h_mc h_gs
      rw [← hLx] at hLn hw h_mc h_gs
      clear hLx
      have hd_mc : ∀ b ∈ L, b ≠ mc := fun b hb h => hq_mc (h ▸ hLs b hb)
      have n_nm_mc : nm ≠ mc := fun h => hq_mc (h ▸ h_nm.1)
      have n_mc_nm := Ne.symm n_nm_mc
      have n_d_mc : d ≠ mc := fun h => hq_mc (h ▸ h_d.1)
      have n_mc_d := Ne.symm n_d_mc
      have n_row_mc : r0 ≠ mc := fun h => hq_mc (h ▸ h_row.1)
      have n_mc_row := Ne.symm n_row_mc
      have n_tr_mc : tr ≠ mc := fun h => hq_mc (h ▸ h_tr.1)
      have n_mc_tr := Ne.symm n_tr_mc
      have n_rows_mc : ro ≠ mc := fun h => hq_mc (h ▸ h_rows.1)
      have n_mc_rows := Ne.symm n_rows_mc
      have n_goes_mc : go ≠ mc := fun h => hq_mc (h ▸ h_goes.1)
      have n_mc_goes := Ne.symm n_goes_mc
      have n_ro3_mc : ro3 ≠ mc := fun h => hq_mc (h ▸ h_ro3.1)
      have n_mc_ro3 := Ne.symm n_ro3_mc
      have hd_gs : ∀ b ∈ L, b ≠ gs := fun b hb h => hq_gs (h ▸ hLs b hb)
      have n_nm_gs : nm ≠ gs := fun h => hq_gs (h ▸ h_nm.1)
      have n_gs_nm := Ne.symm n_nm_gs
      have n_d_gs : d ≠ gs := fun h => hq_gs (h ▸ h_d.1)
      have n_gs_d := Ne.symm n_d_gs
      have n_row_gs : r0 ≠ gs := fun h => hq_gs (h ▸ h_row.1)
      have n_gs_row := Ne.symm n_row_gs
      have n_tr_gs : tr ≠ gs := fun h => hq_gs (h ▸ h_tr.1)
      have n_gs_tr := Ne.symm n_tr_gs
      have n_rows_gs : ro ≠ gs := fun h => hq_gs (h ▸ h_rows.1)
      have n_gs_rows := Ne.symm n_rows_gs
      have n_goes_gs : go ≠ gs := fun h => hq_gs (h ▸ h_goes.1)
      have n_gs_goes := Ne.symm n_goes_gs
      have n_ro3_gs : ro3 ≠ gs := fun h => hq_gs (h ▸ h_ro3.1)
      have n_gs_ro3 := Ne.symm n_ro3_gs
      have h_nm := h_nm.keep hLn (hfr _ h_nm.1)
      have h_d := h_d.keep hLn (hfr _ h_d.1)
      have h_row := h_row.keep hLn (hfr _ h_row.1)
      have h_tr := h_tr.keep hLn (hfr _ h_tr.1)
      have h_rows := h_rows.keep hLn (hfr _ h_rows.1)
      have h_goes := h_goes.keep hLn (hfr _ h_goes.1)
      have h_ro3 := h_ro3.keep hLn (hfr _ h_ro3.1)
      have hF : ∀ b ∈ L, b ≠ d → b ≠ r0 → b ≠ tr → b ≠ ro → b ≠ go → f b = f0 b := fun b hb h0 h1 h2 h3 h4 => (hfr b (hLs b hb)).trans (hF b hb h0 h1 h2 h3 h4)
      have hLs : ∀ b ∈ L, b ∈ L91 := fun b hb => hLn b (hLs b hb)
      have n_gs_mc : gs ≠ mc := h_gs.ne h_mc (by simp)
      have n_mc_gs := Ne.symm n_gs_mc
      obtain ⟨f, h_gs, hfr, hw⟩ := k_swi (fun k => nI ((trn (den t per b) base (nf * base)).2.2 k)) hw h_gs (fun k hk => hT.2.2.1 k hk)
      have h_nm := h_nm.kp hfr n_nm_gs
      have h_d := h_d.kp hfr n_d_gs
      have h_row := h_row.kp hfr n_row_gs
      have h_tr := h_tr.kp hfr n_tr_gs
      have h_rows := h_rows.kp hfr n_rows_gs
      have h_goes := h_goes.kp hfr n_goes_gs
      have h_ro3 := h_ro3.kp hfr n_ro3_gs
      have h_mc := h_mc.kp hfr n_mc_gs
      have hF : ∀ b ∈ L, b ≠ d → b ≠ r0 → b ≠ tr → b ≠ ro → b ≠ go → f b = f0 b := fun b hb h0 h1 h2 h3 h4 => (hfr b (hd_gs b hb)).trans (hF b hb h0 h1 h2 h3 h4)
      rw [good_cong hT hS.1.1] at h_mc
      refine k_mv hw (va_runI (As := [.ref d, .ref mc]) (rest := [.ref ro3]) E.1 (c_Round_init l D cy L91 f H.size ro3 d r0 x q mc b2 h_d h_row h_ro3) ⟨callB_of 2 E.1.2.2.2.2 (gd_own w1_205) rfl rfl rfl (E.1.2.2.2.2 _ w1_8) (E.1.2.2.2.2 _ w1_203) hd_X3_init (by rw [hR]; exact ⟨Nat.le_of_ble_eq_true rfl, Nat.le_of_ble_eq_true rfl⟩), rfl, E.1.2.2.2.2 _ w1_204⟩ (pw_pre E.2 hw) rfl rfl hl.1 rfl (lv_room (Nat.le_of_ble_eq_true rfl)) dX5_drafted_45 (by rw [hR]; exact ⟨Nat.le_of_ble_eq_true rfl, Nat.le_of_ble_eq_true rfl⟩)) (fun L1 f H locs hp hw => ?_)
      refine W.cs (cells' := 4) (slots' := 331) rfl rfl ?_
      have o_ro3 := h_ro3
      obtain ⟨hLn, hfr, rw, hq_rw, h_rw, h_ro3⟩ := hp
      obtain ⟨L150, hLx⟩ : ∃ X, X = L1 := ⟨_, rfl⟩
      dsimp only at hLn hfr h_rw h_ro3
      rw [← hLx] at hLn hw h_rw h_ro3
      clear hLx
      have hd_rw : ∀ b ∈ L, b ≠ rw := fun b hb h => hq_rw (h ▸ hLs b hb)
      have n_nm_rw : nm ≠ rw := fun h => hq_rw (h ▸ h_nm.1)
      have n_rw_nm := Ne.symm n_nm_rw
      have n_d_rw : d ≠ rw := fun h => hq_rw (h ▸ h_d.1)
      have n_rw_d := Ne.symm n_d_rw
      have n_row_rw : r0 ≠ rw := fun h => hq_rw (h ▸ h_row.1)
      have n_rw_row := Ne.symm n_row_rw
      have n_tr_rw : tr ≠ rw := fun h => hq_rw (h ▸ h_tr.1)
      have n_rw_tr := Ne.symm n_tr_rw
      have n_rows_rw : ro ≠ rw := fun h => hq_rw (h ▸ h_rows.1)
      have n_rw_rows := Ne.symm n_rows_rw
      have n_goes_rw : go ≠ rw := fun h => hq_rw (h ▸ h_goes.1)
      have n_rw_goes := Ne.symm n_goes_rw
      have n_ro3_rw : ro3 ≠ rw := fun h => hq_rw (h ▸ o_ro3.1)
      have n_rw_ro3 := Ne.symm n_ro3_rw
      have n_mc_rw : mc ≠ rw := fun h => hq_rw (h ▸ h_mc.1)
      have n_rw_mc := Ne.symm n_mc_rw
      have n_gs_rw : gs ≠ rw := fun h => hq_rw (h ▸ h_gs.1)
      have n_rw_gs := Ne.symm n_gs_rw
      have h_nm := h_nm.keep hLn (hfr _ h_nm.1 n_nm_ro3)
      have h_d := h_d.keep hLn (hfr _ h_d.1 n_d_ro3)
      have h_row := h_row.keep hLn (hfr _ h_row.1 n_row_ro3)
      have h_tr := h_tr.keep hLn (hfr _ h_tr.1 n_tr_ro3)
      have h_rows := h_rows.keep hLn (hfr _ h_rows.1 n_rows_ro3)
      have h_goes := h_goes.keep hLn (hfr _ h_goes.1 n_goes_ro3)
      have h_mc := h_mc.keep hLn (hfr _ h_mc.1 n_mc_ro3)
      have h_gs := h_gs.keep hLn (hfr _ h_gs.1 n_gs_ro3)
      have hF : ∀ b ∈ L, b ≠ d → b ≠ r0 → b ≠ tr → b ≠ ro → b ≠ go → f b = f0 b := fun b hb h0 h1 h2 h3 h4 => (hfr b (hLs b hb) (hd_ro3 b hb)).trans (hF b hb h0 h1 h2 h3 h4)
      have hLs : ∀ b ∈ L, b ∈ L150 := fun b hb => hLn b (hLs b hb)
      exact k_mqret (v := some ro3) E hQ hlk hr (Or.inl ⟨_, rfl⟩) hw (Nat.le_of_ble_eq_true rfl) (Nat.le_of_ble_eq_true rfl) (⟨hLs, hF, ⟨_, _, _, _, _, _, _, _, _, h_d, h_row, h_tr, h_rows, h_goes⟩, Or.inr ⟨ro3, rfl, fun h => hd_ro3 ro3 h rfl, x, q, b2, nf, hS, ⟨TI_end hT, hT.1, hnf⟩, rw, mc, gs, fun h => hd_ro3 ro3 (hM _ h) rfl, fun h => hd_rw rw (hM _ h) rfl, fun h => hd_mc mc (hM _ h) rfl, fun h => hd_gs gs (hM _ h) rfl, h_ro3, h_rw, h_mc, h_gs⟩⟩) dX5_drafted_48
    · have hK3 := hK2
      refine k_if1 (tgt := 30) E dX5_drafted_25 (by decide) (fun c25 => absurd c25 (by decide)) (fun c25 => ?_)
      refine lv_null E.1.1 E.1.2.1 dX5_drafted_28 ?_
      exact k_mqret (v := none) E hQ hlk hr (Or.inl ⟨_, rfl⟩) hw (Nat.le_of_ble_eq_true rfl) (Nat.le_of_ble_eq_true rfl) (⟨hLs, hF, ⟨_, _, _, _, _, _, _, _, _, h_d, h_row, h_tr, h_rows, h_goes⟩, Or.inl ⟨rfl, Or.inr ⟨K, hK1, hK2⟩⟩⟩) dX5_drafted_29
  · have hno2 := hno
    have h_d : cel L f d (.inr (0, [.ref r0, .int k1, .int k2])) := h_d
    have h_row : cel L f r0 (.inl (cy 1, 59, .inr (.inl g))) := h_row
    have h_nm := h_nm.keep (fun _ h => h) (hfr _ h_nm.1 n_nm_d n_nm_row)
    have h_tr := h_tr.keep (fun _ h => h) (hfr _ h_tr.1 n_tr_d n_tr_row)
    have h_rows := h_rows.keep (fun _ h => h) (hfr _ h_rows.1 n_rows_d n_rows_row)
    have h_goes := h_goes.keep (fun _ h => h) (hfr _ h_goes.1 n_goes_d n_goes_row)
    have hF : ∀ b ∈ L, b ≠ d → b ≠ r0 → b ≠ tr → b ≠ ro → b ≠ go → f b = f0 b := fun b hb h0 h1 h2 h3 h4 => (hfr b (hLs b hb) h0 h1).trans (hF b hb h0 h1 h2 h3 h4)
    refine k_if0 (tgt := 28) E dX5_drafted_7 (by decide) (fun c7 => ?_) (fun c7 => absurd c7 (by decide))
    refine lv_null E.1.1 E.1.2.1 dX5_drafted_28 ?_
    exact k_mqret (v := none) E hQ hlk hr (Or.inl ⟨_, rfl⟩) hw (Nat.le_of_ble_eq_true rfl) (Nat.le_of_ble_eq_true rfl) (⟨hLs, hF, ⟨_, _, _, _, _, _, _, _, _, h_d, h_row, h_tr, h_rows, h_goes⟩, Or.inl ⟨rfl, Or.inl hno⟩⟩) dX5_drafted_29
