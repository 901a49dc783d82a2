/-! how many bits a long has, by the JDK's own way -/
def pm (x : Nat) : Nat → Nat
  | 0 => 0
  | k + 1 => x + 256 * pm x k
theorem tb_byte (a : Nat) {b : Nat} (hb : b < 256) (j : Nat) : (b + 256 * a).testBit j = if j < 8 then b.testBit j else a.testBit (j - 8) := by
  rw [Nat.add_comm]
  exact Nat.testBit_two_pow_mul_add a (i := 8) hb j
theorem and_byte {x y u v : Nat} (hx : x < 256) (hu : u < 256) : (x + 256 * y) &&& (u + 256 * v) = (x &&& u) + 256 * (y &&& v) := by
  have hxu : x &&& u < 256 := Nat.lt_of_le_of_lt Nat.and_le_left hx
  apply Nat.eq_of_testBit_eq
  intro j
  rw [Nat.testBit_and, tb_byte y hx, tb_byte v hu, tb_byte _ hxu]
  by_cases h : j < 8
  · simp [h, Nat.testBit_and]
  · simp [h, Nat.testBit_and]
def q1 (k a : Nat) : Nat := a - ((a / 2) &&& pm 85 k)
def q2 (k a : Nat) : Nat := (a &&& pm 51 k) + ((a / 4) &&& pm 51 k)
def q3 (k a : Nat) : Nat := (a + a / 16) &&& pm 15 k
def e1 (b : Nat) : Nat := b - ((b / 2) &&& 85)
def e2 (b : Nat) : Nat := (b &&& 51) + ((b / 4) &&& 51)
theorem d1 : ∀ b, b < 256 → ∀ x, x < 2 → ((b / 2 + 128 * x) &&& 85) = ((b / 2) &&& 85) ∧ ((b / 2) &&& 85) ≤ b := by decide +kernel
theorem d2 : ∀ b, b < 256 → ∀ x, x < 4 → ((b / 4 + 64 * x) &&& 51) = ((b / 4) &&& 51) := by decide +kernel
theorem d3 : ∀ b, b < 256 → e2 (e1 b) % 16 ≤ 4 ∧ e2 (e1 b) / 16 ≤ 4 ∧ e1 b < 256 ∧ e2 (e1 b) % 16 + e2 (e1 b) / 16 = fa_cnt (fun i => b.testBit i) 8 := by decide +kernel
theorem d4 : ∀ z, z < 256 → z &&& 15 = z % 16 := by decide +kernel
theorem q1_s {k a b : Nat} (hb : b < 256) : q1 (k + 1) (b + 256 * a) = e1 b + 256 * q1 k a := by
  have h2 : (a / 2) &&& pm 85 k ≤ a := Nat.le_trans Nat.and_le_left (Nat.div_le_self _ _)
  obtain ⟨h3, h4⟩ := d1 b hb (a % 2) (Nat.mod_lt _ (by decide))
  have h5 : (b + 256 * a) / 2 = (b / 2 + 128 * (a % 2)) + 256 * (a / 2) := by omega
  unfold q1 e1
  rw [h5, pm, and_byte (by omega) (by decide), h3]
  omega
theorem q2_s {k a b : Nat} (hb : b < 256) : q2 (k + 1) (b + 256 * a) = e2 b + 256 * q2 k a := by
  have h5 : (b + 256 * a) / 4 = (b / 4 + 64 * (a % 4)) + 256 * (a / 4) := by omega
  unfold q2 e2
  rw [h5, pm, and_byte hb (by decide), and_byte (by omega) (by decide), d2 b hb (a % 4) (Nat.mod_lt _ (by decide))]
  omega
theorem q12_s {k a b : Nat} (hb : b < 256) : q2 (k + 1) (q1 (k + 1) (b + 256 * a)) = e2 (e1 b) + 256 * q2 k (q1 k a) := by
  rw [q1_s hb, q2_s (d3 b hb).2.2.1]
theorem q12_low : ∀ (k a : Nat), a < 256 ^ k → q2 k (q1 k a) % 16 ≤ 4
  | 0, a, h => by
    have : a = 0 := by simpa using h
    subst this
    decide
  | k + 1, a, h => by
    have hb : a % 256 < 256 := Nat.mod_lt _ (by decide)
    have h3 := (d3 _ hb).1
    rw [show a = a % 256 + 256 * (a / 256) by omega, q12_s hb]
    omega
theorem q3_s {k a b : Nat} (hb : b < 256) (ha : a < 256 ^ k) : q3 (k + 1) (q2 (k + 1) (q1 (k + 1) (b + 256 * a))) = fa_cnt (fun i => b.testBit i) 8 + 256 * q3 k (q2 k (q1 k a)) := by
  have hl := q12_low k a ha
  obtain ⟨h1, h2, h3, h4⟩ := d3 b hb
  rw [q12_s hb]
  generalize q2 k (q1 k a) = c at hl ⊢
  generalize hy : e2 (e1 b) = y at h1 h2 h4 ⊢
  have h5 : y + 256 * c + (y + 256 * c) / 16 = (y + y / 16 + 16 * (c % 16)) + 256 * (c + c / 16) := by omega
  unfold q3
  rw [h5, pm, and_byte (by omega) (by decide), d4 _ (by omega), ← h4]
  congr 1
  omega
theorem cnt_byte {a b m : Nat} (hb : b < 256) : fa_cnt (fun i => (b + 256 * a).testBit i) (8 + m) = fa_cnt (fun i => b.testBit i) 8 + fa_cnt (fun i => a.testBit i) m := by
  rw [cnt_add]
  congr 1
  · apply fa_cnt_cong
    intro i hi
    rw [tb_byte a hb, if_pos hi]
  · apply fa_cnt_cong
    intro i hi
    rw [tb_byte a hb, if_neg (by omega), show 8 + i - 8 = i by omega]
theorem q_sum : ∀ (k a : Nat), a < 256 ^ (k + 1) → ∃ p w, q3 (k + 1) (q2 (k + 1) (q1 (k + 1) a)) = p + 256 * q3 k (q2 k (q1 k w)) ∧ p ≤ 8 ∧ w < 256 ^ k ∧ ∀ m, fa_cnt (fun i => a.testBit i) (8 + m) = p + fa_cnt (fun i => w.testBit i) m := by
  intro k a h
  have hb : a % 256 < 256 := Nat.mod_lt _ (by decide)
  have hw : a / 256 < 256 ^ k := by rw [Nat.pow_succ] at h; omega
  refine ⟨fa_cnt (fun i => (a % 256).testBit i) 8, a / 256, ?_, fa_cnt_le _ 8, hw, fun m => ?_⟩
  · rw [← q3_s hb hw, show a % 256 + 256 * (a / 256) = a by omega]
  · rw [← cnt_byte hb, show a % 256 + 256 * (a / 256) = a by omega]
theorem q_fin {a : Nat} (ha : a < 2 ^ 64) : ∃ p0 p1 p2 p3 p4 p5 p6 p7 y1 y2 y3 y4 y5 y6 : Nat, q3 8 (q2 8 (q1 8 a)) = p0 + 256 * y1 ∧ y1 = p1 + 256 * y2 ∧ y2 = p2 + 256 * y3 ∧ y3 = p3 + 256 * y4 ∧ y4 = p4 + 256 * y5 ∧ y5 = p5 + 256 * y6 ∧ y6 = p6 + 256 * p7 ∧ (p0 ≤ 8 ∧ p1 ≤ 8 ∧ p2 ≤ 8 ∧ p3 ≤ 8 ∧ p4 ≤ 8 ∧ p5 ≤ 8 ∧ p6 ≤ 8 ∧ p7 ≤ 8) ∧ fa_cnt (fun i => a.testBit i) 64 = p0 + p1 + p2 + p3 + p4 + p5 + p6 + p7 := by
  have ha8 : a < 256 ^ (7 + 1) := Nat.lt_of_lt_of_le ha (Nat.le_of_ble_eq_true rfl)
  obtain ⟨p0, w0, a0, b0, c0, g0⟩ := q_sum 7 a ha8
  obtain ⟨p1, w1, a1, b1, c1, g1⟩ := q_sum 6 w0 c0
  obtain ⟨p2, w2, a2, b2, c2, g2⟩ := q_sum 5 w1 c1
  obtain ⟨p3, w3, a3, b3, c3, g3⟩ := q_sum 4 w2 c2
  obtain ⟨p4, w4, a4, b4, c4, g4⟩ := q_sum 3 w3 c3
  obtain ⟨p5, w5, a5, b5, c5, g5⟩ := q_sum 2 w4 c4
  obtain ⟨p6, w6, a6, b6, c6, g6⟩ := q_sum 1 w5 c5
  obtain ⟨p7, w7, a7, b7, c7, g7⟩ := q_sum 0 w6 c6
  have h7 : w7 = 0 := by
    have h : w7 < 1 := c7
    omega
  rw [h7] at a7 g7
  have z : q3 0 (q2 0 (q1 0 0)) = 0 := rfl
  rw [z] at a7
  refine ⟨p0, p1, p2, p3, p4, p5, p6, p7, _, _, _, _, _, _, a0, a1, a2, a3, a4, a5, ?_, ⟨b0, b1, b2, b3, b4, b5, b6, b7⟩, ?_⟩
  · refine a6.trans ?_
    rw [a7]
    rfl
  · have f0 := g0 56
    have f1 := g1 48
    have f2 := g2 40
    have f3 := g3 32
    have f4 := g4 24
    have f5 := g5 16
    have f6 := g6 8
    have f7 := g7 0
    have f8 : fa_cnt (fun i => (0 : Nat).testBit i) 0 = 0 := rfl
    rw [f8] at f7
    have k0 : fa_cnt (fun i => a.testBit i) 64 = p0 + fa_cnt (fun i => w0.testBit i) 56 := f0
    have k1 : fa_cnt (fun i => w0.testBit i) 56 = p1 + fa_cnt (fun i => w1.testBit i) 48 := f1
    have k2 : fa_cnt (fun i => w1.testBit i) 48 = p2 + fa_cnt (fun i => w2.testBit i) 40 := f2
    have k3 : fa_cnt (fun i => w2.testBit i) 40 = p3 + fa_cnt (fun i => w3.testBit i) 32 := f3
    have k4 : fa_cnt (fun i => w3.testBit i) 32 = p4 + fa_cnt (fun i => w4.testBit i) 24 := f4
    have k5 : fa_cnt (fun i => w4.testBit i) 24 = p5 + fa_cnt (fun i => w5.testBit i) 16 := f5
    have k6 : fa_cnt (fun i => w5.testBit i) 16 = p6 + fa_cnt (fun i => w6.testBit i) 8 := f6
    have k7 : fa_cnt (fun i => w6.testBit i) 8 = p7 + 0 := f7
    rw [k0, k1, k2, k3, k4, k5, k6, k7]
    clear k0 k1 k2 k3 k4 k5 k6 k7 f0 f1 f2 f3 f4 f5 f6 f7 f8 a0 a1 a2 a3 a4 a5 a6 a7 c0 c1 c2 c3 c4 c5 c6 c7 ha ha8 g0 g1 g2 g3 g4 g5 g6 g7
    omega
theorem and_l1 (x : Nat) : lN x &&& 6148914691236517205 = lN (x &&& pm 85 8) := by
  have e : (6148914691236517205 : Int64) = lN (pm 85 8) := by decide +kernel
  rw [e, fb_andL]
theorem and_l2 (x : Nat) : lN x &&& 3689348814741910323 = lN (x &&& pm 51 8) := by
  have e : (3689348814741910323 : Int64) = lN (pm 51 8) := by decide +kernel
  rw [e, fb_andL]
theorem and_l3 (x : Nat) : lN x &&& 1085102592571150095 = lN (x &&& pm 15 8) := by
  have e : (1085102592571150095 : Int64) = lN (pm 15 8) := by decide +kernel
  rw [e, fb_andL]
def q4 (a : Nat) : Nat := q3 8 (q2 8 (q1 8 a))
def q5 (a : Nat) : Nat := q4 a + q4 a / 2 ^ 8
def q6 (a : Nat) : Nat := q5 a + q5 a / 2 ^ 16
def q7 (a : Nat) : Nat := q6 a + q6 a / 2 ^ 32
theorem dv {p y : Nat} (h : p < 256) : (p + 256 * y) / 256 = y := by omega
theorem q_mid {z p0 p1 p2 p3 p4 p5 p6 p7 y1 y2 y3 y4 y5 y6 : Nat} (e0 : z = p0 + 256 * y1) (e1 : y1 = p1 + 256 * y2) (e2 : y2 = p2 + 256 * y3) (e3 : y3 = p3 + 256 * y4) (e4 : y4 = p4 + 256 * y5) (e5 : y5 = p5 + 256 * y6) (e6 : y6 = p6 + 256 * p7) (b : p0 ≤ 8 ∧ p1 ≤ 8 ∧ p2 ≤ 8 ∧ p3 ≤ 8 ∧ p4 ≤ 8 ∧ p5 ≤ 8 ∧ p6 ≤ 8 ∧ p7 ≤ 8) : z + z / 2 ^ 8 = z + y1 ∧ (z + y1) + (z + y1) / 2 ^ 16 = (z + y1) + (y2 + y3) ∧ ((z + y1) + (y2 + y3)) + ((z + y1) + (y2 + y3)) / 2 ^ 32 = ((z + y1) + (y2 + y3)) + ((y4 + y5) + (y6 + p7)) := by
  obtain ⟨b0, b1, b2, b3, b4, b5, b6, b7⟩ := b
  refine ⟨?_, ?_, ?_⟩
  · rw [e0]
    congr 1
    exact dv (by omega)
  · congr 1
    have s0 : z + y1 = (p0 + p1) + 256 * (y1 + y2) := by omega
    have s1 : y1 + y2 = (p1 + p2) + 256 * (y2 + y3) := by omega
    rw [show (2 : Nat) ^ 16 = 256 * 256 from rfl, ← Nat.div_div_eq_div_mul, s0, dv (by omega), s1, dv (by omega)]
  · congr 1
    have s0 : (z + y1) + (y2 + y3) = (p0 + p1 + p2 + p3) + 256 * ((y1 + y2) + (y3 + y4)) := by omega
    have s1 : (y1 + y2) + (y3 + y4) = (p1 + p2 + p3 + p4) + 256 * ((y2 + y3) + (y4 + y5)) := by omega
    have s2 : (y2 + y3) + (y4 + y5) = (p2 + p3 + p4 + p5) + 256 * ((y3 + y4) + (y5 + y6)) := by omega
    have s3 : (y3 + y4) + (y5 + y6) = (p3 + p4 + p5 + p6) + 256 * ((y4 + y5) + (y6 + p7)) := by omega
    rw [show (2 : Nat) ^ 32 = 256 * 256 * 256 * 256 from rfl, ← Nat.div_div_eq_div_mul, ← Nat.div_div_eq_div_mul, ← Nat.div_div_eq_div_mul, s0, dv (by omega), s1, dv (by omega), s2, dv (by omega), s3, dv (by omega)]
theorem q_last {z p0 p1 p2 p3 p4 p5 p6 p7 y1 y2 y3 y4 y5 y6 : Nat} (e0 : z = p0 + 256 * y1) (e1 : y1 = p1 + 256 * y2) (e2 : y2 = p2 + 256 * y3) (e3 : y3 = p3 + 256 * y4) (e4 : y4 = p4 + 256 * y5) (e5 : y5 = p5 + 256 * y6) (e6 : y6 = p6 + 256 * p7) (b : p0 ≤ 8 ∧ p1 ≤ 8 ∧ p2 ≤ 8 ∧ p3 ≤ 8 ∧ p4 ≤ 8 ∧ p5 ≤ 8 ∧ p6 ≤ 8 ∧ p7 ≤ 8) : (((z + y1) + (y2 + y3)) + ((y4 + y5) + (y6 + p7))) % 128 = p0 + p1 + p2 + p3 + p4 + p5 + p6 + p7 := by
  obtain ⟨b0, b1, b2, b3, b4, b5, b6, b7⟩ := b
  have s : ((z + y1) + (y2 + y3)) + ((y4 + y5) + (y6 + p7)) = (p0 + p1 + p2 + p3 + p4 + p5 + p6 + p7) + 256 * (y1 + y2 + y3 + y4 + y5 + y6 + p7) := by omega
  rw [s]
  generalize y1 + y2 + y3 + y4 + y5 + y6 + p7 = w
  clear s e0 e1 e2 e3 e4 e5 e6
  omega
theorem q_bnd {z p0 p1 p2 p3 p4 p5 p6 p7 y1 y2 y3 y4 y5 y6 : Nat} (e0 : z = p0 + 256 * y1) (e1 : y1 = p1 + 256 * y2) (e2 : y2 = p2 + 256 * y3) (e3 : y3 = p3 + 256 * y4) (e4 : y4 = p4 + 256 * y5) (e5 : y5 = p5 + 256 * y6) (e6 : y6 = p6 + 256 * p7) (b : p0 ≤ 8 ∧ p1 ≤ 8 ∧ p2 ≤ 8 ∧ p3 ≤ 8 ∧ p4 ≤ 8 ∧ p5 ≤ 8 ∧ p6 ≤ 8 ∧ p7 ≤ 8) : z < 1152921504606846976 ∧ z + y1 < 2305843009213693952 ∧ (z + y1) + (y2 + y3) < 4611686018427387904 := by
  obtain ⟨b0, b1, b2, b3, b4, b5, b6, b7⟩ := b
  have h6 : y6 ≤ 2056 := by omega
  have h5 : y5 ≤ 526344 := by omega
  have h4 : y4 ≤ 134744072 := by omega
  have h3 : y3 ≤ 34494482440 := by omega
  have h2 : y2 ≤ 8830587504648 := by omega
  have h1 : y1 ≤ 2260630401189896 := by omega
  clear e1 e2 e3 e4 e5 e6
  omega
theorem q_all {a : Nat} (ha : a < 2 ^ 64) : q4 a < 2 ^ 64 ∧ q5 a < 2 ^ 64 ∧ q6 a < 2 ^ 64 ∧ q7 a % 128 = fa_cnt (fun i => a.testBit i) 64 ∧ q1 8 a < 2 ^ 64 ∧ (a / 2 &&& pm 85 8) ≤ a ∧ q2 8 (q1 8 a) < 2 ^ 64 := by
  obtain ⟨p0, p1, p2, p3, p4, p5, p6, p7, y1, y2, y3, y4, y5, y6, e0, e1, e2, e3, e4, e5, e6, b, s⟩ := q_fin ha
  have e0 : q4 a = p0 + 256 * y1 := e0
  obtain ⟨m1, m2, m3⟩ := q_mid e0 e1 e2 e3 e4 e5 e6 b
  obtain ⟨n1, n2, n3⟩ := q_bnd e0 e1 e2 e3 e4 e5 e6 b
  have hl := q_last e0 e1 e2 e3 e4 e5 e6 b
  have f5 : q5 a = q4 a + y1 := m1
  have f6 : q6 a = (q4 a + y1) + (y2 + y3) := by unfold q6; rw [f5]; exact m2
  have f7 : q7 a = ((q4 a + y1) + (y2 + y3)) + ((y4 + y5) + (y6 + p7)) := by unfold q7; rw [f6]; exact m3
  have h1 : a / 2 &&& pm 85 8 ≤ a := Nat.le_trans Nat.and_le_left (Nat.div_le_self _ _)
  have h2 : q1 8 a < 2 ^ 64 := Nat.lt_of_le_of_lt (Nat.sub_le _ _) ha
  have hm : pm 51 8 < 4611686018427387904 := Nat.le_of_ble_eq_true rfl
  have h3 : q1 8 a &&& pm 51 8 ≤ pm 51 8 := Nat.and_le_right
  have h4 : q1 8 a / 4 &&& pm 51 8 ≤ pm 51 8 := Nat.and_le_right
  refine ⟨Nat.lt_trans n1 (Nat.le_of_ble_eq_true rfl), by rw [f5]; exact Nat.lt_trans n2 (Nat.le_of_ble_eq_true rfl), by rw [f6]; exact Nat.lt_trans n3 (Nat.le_of_ble_eq_true rfl), by rw [f7, hl, s], h2, h1, ?_⟩
  refine Nat.lt_of_lt_of_le (m := 9223372036854775808) ?_ (Nat.le_of_ble_eq_true rfl)
  unfold q2
  generalize q1 8 a &&& pm 51 8 = u at h3 ⊢
  generalize q1 8 a / 4 &&& pm 51 8 = v at h4 ⊢
  generalize pm 51 8 = w at h3 h4 hm
  omega
theorem cnt_gn {g : Nat → Bool} {n : Nat} (hn : n ≤ 64) : fa_cnt (fun i => (bsum g n).testBit i) 64 = fa_cnt g n := by
  rw [show 64 = n + (64 - n) by omega, cnt_add]
  have e1 : fa_cnt (fun i => (bsum g n).testBit i) n = fa_cnt g n := fa_cnt_cong (fun i hi => by rw [bsum_test]; simp [hi])
  have e2 : fa_cnt (fun k => (bsum g n).testBit (n + k)) (64 - n) = fa_cnt (fun _ => false) (64 - n) := fa_cnt_cong (fun i hi => by rw [bsum_test, decide_eq_false (by omega)]; rfl)
  have e3 : ∀ m, fa_cnt (fun _ => false) m = 0 := by
    intro m
    induction m with
    | zero => rfl
    | succ m ih => rw [fa_cnt, ih]; rfl
  rw [e1, e2, e3, Nat.add_zero]
theorem and_127 (x : Nat) : (lN x).toInt32 &&& nI 127 = nI (x % 128) := by
  rw [lN_i]
  apply Int32.toBitVec_inj.mp
  show BitVec.ofNat 32 x &&& BitVec.ofNat 32 127 = BitVec.ofNat 32 (x % 128)
  apply BitVec.eq_of_getLsbD_eq
  intro i hi
  have e : (127 : Nat) = 2 ^ 7 - 1 := rfl
  have e2 : (128 : Nat) = 2 ^ 7 := rfl
  rw [BitVec.getLsbD_and, BitVec.getLsbD_ofNat, BitVec.getLsbD_ofNat, BitVec.getLsbD_ofNat, e, e2, Nat.testBit_two_pow_sub_one, Nat.testBit_mod_two_pow]
  cases decide (i < 32) <;> cases decide (i < 7) <;> simp
set_option maxHeartbeats 4000000 in
set_option maxRecDepth 100000 in
theorem c_bitCount (l : Launch) (D : va_G) (cy : Nat → ClassId) (L : List Nat) (f : Nat → va_E) (sz : Nat) (n : Nat) (g : Nat → Bool) (hn : n ≤ 64) : Met l yJ13_bitCount_95d88 (.code yJ13_bitCount_95d88 cJ13_bitCount_95d88 2 (Option.some FieldType.int) :: wsL_law) { frames := 0, cells := 0, slots := 0, locals := 0 } (va_Pc [.long (lN (bsum g n))] (PW D cy L f sz)) (vp_Si (fun r => r = nI (fa_cnt g n))) 0 0 (fun _ => False) := by
  refine m_start (by decide) (Nat.le_of_ble_eq_true rfl) ?_
  intro p e R Q s m args below meth c ls hsz hR hQ E hr hlk hnm hw hl
  have hl : lv_has ls 2 [(0, .long (lN (bsum g n)))] := hl
  have ha : bsum g n < 2 ^ 64 := Nat.lt_of_lt_of_le (bsum_lt g n) (Nat.pow_le_pow_right (by decide) hn)
  obtain ⟨h4, h5, h6, h7, h1, h0, h2⟩ := q_all ha
  refine lv_lload_n E.1.1 E.1.2.1 dJ13_bitCount_95d88_0 rfl (lv_at hl 0 rfl) ?_
  refine lv_lload_n E.1.1 E.1.2.1 dJ13_bitCount_95d88_1 rfl (lv_at hl 0 rfl) ?_
  refine lv_iconst (v := nI 1) E.1.1 E.1.2.1 dJ13_bitCount_95d88_2 rfl ?_
  refine lv_lushr E.1.1 E.1.2.1 dJ13_bitCount_95d88_3 rfl ?_
  refine k_topl E (lN ((bsum g n) / 2 ^ 1)) (wb_shr ha (by decide)) ?_
  refine lv_ldc2 (v := 6148914691236517205) E.1.1 E.1.2.1 E.1.2.2.2.1 (E.1.2.2.2.2 _ w2_107) dJ13_bitCount_95d88_4 ?_
  refine lv_land E.1.1 E.1.2.1 dJ13_bitCount_95d88_7 ?_
  refine k_topl E (lN ((bsum g n / 2) &&& pm 85 8)) (and_l1 _) ?_
  refine lv_lsub E.1.1 E.1.2.1 dJ13_bitCount_95d88_8 ?_
  refine k_topl E (lN (q1 8 (bsum g n))) (lN_sub h0) ?_
  refine lv_lstore_n (lv' := [(0, .long (lN (q1 8 (bsum g n))))]) E.1.1 E.1.2.1 dJ13_bitCount_95d88_9 rfl hl (by decide) rfl (fun ls hl => ?_)
  refine lv_lload_n E.1.1 E.1.2.1 dJ13_bitCount_95d88_10 rfl (lv_at hl 0 rfl) ?_
  refine lv_ldc2 (v := 3689348814741910323) E.1.1 E.1.2.1 E.1.2.2.2.1 (E.1.2.2.2.2 _ w2_108) dJ13_bitCount_95d88_11 ?_
  refine lv_land E.1.1 E.1.2.1 dJ13_bitCount_95d88_14 ?_
  refine k_topl E (lN (q1 8 (bsum g n) &&& pm 51 8)) (and_l2 _) ?_
  refine lv_lload_n E.1.1 E.1.2.1 dJ13_bitCount_95d88_15 rfl (lv_at hl 0 rfl) ?_
  refine lv_iconst (v := nI 2) E.1.1 E.1.2.1 dJ13_bitCount_95d88_16 rfl ?_
  refine lv_lushr E.1.1 E.1.2.1 dJ13_bitCount_95d88_17 rfl ?_
  refine k_topl E (lN ((q1 8 (bsum g n)) / 2 ^ 2)) (wb_shr h1 (by decide)) ?_
  refine lv_ldc2 (v := 3689348814741910323) E.1.1 E.1.2.1 E.1.2.2.2.1 (E.1.2.2.2.2 _ w2_108) dJ13_bitCount_95d88_18 ?_
  refine lv_land E.1.1 E.1.2.1 dJ13_bitCount_95d88_21 ?_
  refine k_topl E (lN (((q1 8 (bsum g n)) / 4) &&& pm 51 8)) (and_l2 _) ?_
  refine lv_ladd E.1.1 E.1.2.1 dJ13_bitCount_95d88_22 ?_
  refine k_topl E (lN (q2 8 (q1 8 (bsum g n)))) (lN_add _ _) ?_
  refine lv_lstore_n (lv' := [(0, .long (lN (q2 8 (q1 8 (bsum g n)))))]) E.1.1 E.1.2.1 dJ13_bitCount_95d88_23 rfl hl (by decide) rfl (fun ls hl => ?_)
  refine lv_lload_n E.1.1 E.1.2.1 dJ13_bitCount_95d88_24 rfl (lv_at hl 0 rfl) ?_
  refine lv_lload_n E.1.1 E.1.2.1 dJ13_bitCount_95d88_25 rfl (lv_at hl 0 rfl) ?_
  refine lv_iconst (v := nI 4) E.1.1 E.1.2.1 dJ13_bitCount_95d88_26 rfl ?_
  refine lv_lushr E.1.1 E.1.2.1 dJ13_bitCount_95d88_27 rfl ?_
  refine k_topl E (lN ((q2 8 (q1 8 (bsum g n))) / 2 ^ 4)) (wb_shr h2 (by decide)) ?_
  refine lv_ladd E.1.1 E.1.2.1 dJ13_bitCount_95d88_28 ?_
  refine k_topl E (lN (q2 8 (q1 8 (bsum g n)) + (q2 8 (q1 8 (bsum g n))) / 16)) (lN_add _ _) ?_
  refine lv_ldc2 (v := 1085102592571150095) E.1.1 E.1.2.1 E.1.2.2.2.1 (E.1.2.2.2.2 _ w2_109) dJ13_bitCount_95d88_29 ?_
  refine lv_land E.1.1 E.1.2.1 dJ13_bitCount_95d88_32 ?_
  refine k_topl E (lN (q4 (bsum g n))) (and_l3 _) ?_
  refine lv_lstore_n (lv' := [(0, .long (lN (q4 (bsum g n))))]) E.1.1 E.1.2.1 dJ13_bitCount_95d88_33 rfl hl (by decide) rfl (fun ls hl => ?_)
  refine lv_lload_n E.1.1 E.1.2.1 dJ13_bitCount_95d88_34 rfl (lv_at hl 0 rfl) ?_
  refine lv_lload_n E.1.1 E.1.2.1 dJ13_bitCount_95d88_35 rfl (lv_at hl 0 rfl) ?_
  refine lv_bipush (v := nI 8) E.1.1 E.1.2.1 dJ13_bitCount_95d88_36 rfl ?_
  refine lv_lushr E.1.1 E.1.2.1 dJ13_bitCount_95d88_38 rfl ?_
  refine k_topl E (lN ((q4 (bsum g n)) / 2 ^ 8)) (wb_shr h4 (by decide)) ?_
  refine lv_ladd E.1.1 E.1.2.1 dJ13_bitCount_95d88_39 ?_
  refine k_topl E (lN (q5 (bsum g n))) (lN_add _ _) ?_
  refine lv_lstore_n (lv' := [(0, .long (lN (q5 (bsum g n))))]) E.1.1 E.1.2.1 dJ13_bitCount_95d88_40 rfl hl (by decide) rfl (fun ls hl => ?_)
  refine lv_lload_n E.1.1 E.1.2.1 dJ13_bitCount_95d88_41 rfl (lv_at hl 0 rfl) ?_
  refine lv_lload_n E.1.1 E.1.2.1 dJ13_bitCount_95d88_42 rfl (lv_at hl 0 rfl) ?_
  refine lv_bipush (v := nI 16) E.1.1 E.1.2.1 dJ13_bitCount_95d88_43 rfl ?_
  refine lv_lushr E.1.1 E.1.2.1 dJ13_bitCount_95d88_45 rfl ?_
  refine k_topl E (lN ((q5 (bsum g n)) / 2 ^ 16)) (wb_shr h5 (by decide)) ?_
  refine lv_ladd E.1.1 E.1.2.1 dJ13_bitCount_95d88_46 ?_
  refine k_topl E (lN (q6 (bsum g n))) (lN_add _ _) ?_
  refine lv_lstore_n (lv' := [(0, .long (lN (q6 (bsum g n))))]) E.1.1 E.1.2.1 dJ13_bitCount_95d88_47 rfl hl (by decide) rfl (fun ls hl => ?_)
  refine lv_lload_n E.1.1 E.1.2.1 dJ13_bitCount_95d88_48 rfl (lv_at hl 0 rfl) ?_
  refine lv_lload_n E.1.1 E.1.2.1 dJ13_bitCount_95d88_49 rfl (lv_at hl 0 rfl) ?_
  refine lv_bipush (v := nI 32) E.1.1 E.1.2.1 dJ13_bitCount_95d88_50 rfl ?_
  refine lv_lushr E.1.1 E.1.2.1 dJ13_bitCount_95d88_52 rfl ?_
  refine k_topl E (lN ((q6 (bsum g n)) / 2 ^ 32)) (wb_shr h6 (by decide)) ?_
  refine lv_ladd E.1.1 E.1.2.1 dJ13_bitCount_95d88_53 ?_
  refine k_topl E (lN (q7 (bsum g n))) (lN_add _ _) ?_
  refine lv_lstore_n (lv' := [(0, .long (lN (q7 (bsum g n))))]) E.1.1 E.1.2.1 dJ13_bitCount_95d88_54 rfl hl (by decide) rfl (fun ls hl => ?_)
  refine lv_lload_n E.1.1 E.1.2.1 dJ13_bitCount_95d88_55 rfl (lv_at hl 0 rfl) ?_
  refine lv_l2i E.1.1 E.1.2.1 dJ13_bitCount_95d88_56 rfl ?_
  refine lv_bipush (v := nI 127) E.1.1 E.1.2.1 dJ13_bitCount_95d88_57 rfl ?_
  refine lv_iand E.1.1 E.1.2.1 dJ13_bitCount_95d88_59 ?_
  refine k_top E (nI (q7 (bsum g n) % 128)) (and_127 _) ?_
  exact k_iret E hQ hlk hr (by rw [h7, cnt_gn hn]) dJ13_bitCount_95d88_60
