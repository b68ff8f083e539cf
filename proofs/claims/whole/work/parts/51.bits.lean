theorem ts_bit {w : Int64} {s : UInt64} {j : Nat} (hj : j < 64) (hs : s.toNat = j) : ((w.toUInt64 >>> s).toInt64 &&& 1) = 0 ↔ w.toBitVec.getLsbD j = false := by
  have e : (w.toUInt64 >>> s).toInt64.toBitVec = w.toBitVec >>> j := by
    apply BitVec.eq_of_toNat_eq
    show (w.toUInt64 >>> s).toNat = _
    rw [UInt64.toNat_shiftRight, hs, Nat.mod_eq_of_lt hj, BitVec.toNat_ushiftRight]
    rfl
  rw [← Int64.toBitVec_inj, Int64.toBitVec_and, e]
  show w.toBitVec >>> j &&& 1#64 = 0#64 ↔ _
  constructor
  · intro h
    have t := congrArg (fun x => x.getLsbD 0) h
    simpa using t
  · intro h
    apply BitVec.eq_of_getLsbD_eq
    intro i hi
    cases i with
    | zero => simp [h]
    | succ i => simp
theorem wb_tb (n : Nat) : (lN n).toBitVec = BitVec.ofNat 64 n := rfl
theorem wb_inj {a b : Int64} (h : a.toBitVec = b.toBitVec) : a = b := Int64.toBitVec_inj.mp h
theorem wb_tn {n : Nat} (h : n < 2 ^ 64) : (lN n).toBitVec.toNat = n := by rw [wb_tb, BitVec.toNat_ofNat, Nat.mod_eq_of_lt h]
theorem wb_of (x : Int64) : ∃ n, n < 2 ^ 64 ∧ x = lN n := ⟨x.toBitVec.toNat, x.toBitVec.isLt, wb_inj (by rw [wb_tb]; simp)⟩
theorem wb_of32 (x : Int32) : ∃ n, n < 2 ^ 32 ∧ x = nI n := ⟨x.toBitVec.toNat, x.toBitVec.isLt, Int32.toBitVec_inj.mp (by show _ = BitVec.ofNat 32 _; simp)⟩
theorem wb_c : ∀ k, k < 64 → ((nI k).toInt64 &&& 63) = lN k := by decide +kernel
theorem wb_cu : ∀ k, k < 64 → ((nI k).toInt64.toUInt64 &&& Int64.toUInt64 63) = UInt64.ofNat k := by decide +kernel
theorem wb_sm : ∀ k, k < 64 → (BitVec.ofNat 64 k).smod 64 = BitVec.ofNat 64 k := by decide +kernel
theorem wb_shr {n k : Nat} (hn : n < 2 ^ 64) (hk : k < 64) : ((lN n).toUInt64 >>> ((nI k).toInt64.toUInt64 &&& Int64.toUInt64 63)).toInt64 = lN (n / 2 ^ k) := by
  rw [wb_cu k hk]
  apply wb_inj
  apply BitVec.eq_of_toNat_eq
  show ((lN n).toUInt64 >>> UInt64.ofNat k).toNat = (BitVec.ofNat 64 _).toNat
  have h1 : (UInt64.ofNat k).toNat = k := by
    show (BitVec.ofNat 64 k).toNat = k
    rw [BitVec.toNat_ofNat, Nat.mod_eq_of_lt (by omega)]
  have h2 : (lN n).toUInt64.toNat = n := wb_tn hn
  rw [UInt64.toNat_shiftRight, h1, h2, Nat.mod_eq_of_lt hk, Nat.shiftRight_eq_div_pow, BitVec.toNat_ofNat, Nat.mod_eq_of_lt (Nat.lt_of_le_of_lt (Nat.div_le_self _ _) hn)]
theorem wb_shl (n : Nat) {k : Nat} (hk : k < 64) : lN n <<< ((nI k).toInt64 &&& 63) = lN (n * 2 ^ k) := by
  rw [wb_c k hk]
  apply wb_inj
  rw [Int64.toBitVec_shiftLeft, wb_tb, wb_tb, wb_tb, wb_sm k hk]
  apply BitVec.eq_of_toNat_eq
  rw [BitVec.shiftLeft_eq', BitVec.toNat_shiftLeft, BitVec.toNat_ofNat, BitVec.toNat_ofNat, BitVec.toNat_ofNat, Nat.mod_eq_of_lt (show k < 2 ^ 64 by omega), Nat.shiftLeft_eq, Nat.mul_mod, Nat.mod_mod, ← Nat.mul_mod]
theorem wb_and {a b : Nat} (ha : a < 2 ^ 64) (hb : b < 2 ^ 64) : lN a &&& lN b = lN (a &&& b) := by
  apply wb_inj
  rw [Int64.toBitVec_and, wb_tb, wb_tb, wb_tb]
  apply BitVec.eq_of_toNat_eq
  rw [BitVec.toNat_and, BitVec.toNat_ofNat, BitVec.toNat_ofNat, BitVec.toNat_ofNat, Nat.mod_eq_of_lt ha, Nat.mod_eq_of_lt hb, Nat.mod_eq_of_lt (Nat.and_lt_two_pow _ hb)]
def pg_b (w : Int64) (p : Nat) : Bool := w.toBitVec.getLsbD p
theorem pg_cmp (x : Int64) : lg_cmp x 0 = 0 ↔ x = 0 := by
  unfold lg_cmp
  by_cases h : x = 0
  · subst h
    simp
  · constructor
    · intro h2
      by_cases h3 : x > 0
      · simp [h3] at h2
      · simp [h3, h] at h2
    · intro h2
      exact absurd h2 h
theorem pg_has (μ : dw_M) (i : Nat) {x : Int32} {p : Nat} (hx : x = nI p) (hp : p < 64) : fX2_has μ i x = if pg_b (μ.2 i) p then 1 else 0 := by
  unfold fX2_has dw_us pg_b
  subst hx
  have h := ts_bit (w := μ.2 i) (s := (nI p).toInt64.toUInt64 &&& Int64.toUInt64 63) (j := p) hp (by
    rw [wb_cu p hp]
    show (BitVec.ofNat 64 p).toNat = p
    rw [BitVec.toNat_ofNat, Nat.mod_eq_of_lt (by omega)])
  by_cases hb : (μ.2 i).toBitVec.getLsbD p = true
  · rw [if_neg, hb]
    · rfl
    · rw [pg_cmp, h, hb]
      decide
  · have hb : (μ.2 i).toBitVec.getLsbD p = false := by simpa using hb
    rw [if_pos, hb]
    · rfl
    · rw [pg_cmp, h, hb]
def pg_x (w : Int64) (p : Nat) : Int64 := w ^^^ dw_sh 1 (nI p)
theorem pg_x_b (w : Int64) {p : Nat} (hp : p < 64) (q : Nat) (hq : q < 64) : pg_b (pg_x w p) q = (pg_b w q ^^ decide (q = p)) := by
  unfold pg_b pg_x dw_sh
  have e : (1 : Int64) <<< ((nI p).toInt64 &&& 63) = lN (1 * 2 ^ p) := wb_shl 1 hp
  rw [Int64.toBitVec_xor, e, BitVec.getLsbD_xor, wb_tb, Nat.one_mul]
  congr 1
  rw [BitVec.getLsbD_ofNat]
  by_cases h : q = p
  · subst h
    simp [hq]
  · simp [h, hq, Nat.testBit_two_pow]
    omega
def pg_s (w : Int64) (p : Nat) (b : Bool) : Int64 := if pg_b w p = b then w else pg_x w p
theorem pg_s_b (w : Int64) {p : Nat} (hp : p < 64) (b : Bool) (q : Nat) (hq : q < 64) : pg_b (pg_s w p b) q = if q = p then b else pg_b w q := by
  unfold pg_s
  by_cases h : pg_b w p = b
  · rw [if_pos h]
    by_cases e : q = p
    · subst e; simp [h]
    · simp [e]
  · rw [if_neg h, pg_x_b w hp q hq]
    by_cases e : q = p
    · subst e
      cases b <;> simp_all
    · simp [e]
theorem pg_sl_id (μ : dw_M) (i : Nat) : dw_sl μ i (μ.2 i) = μ := by
  apply pb_ext
  · intro c j; rfl
  · intro c
    rw [pb_sl2]
    by_cases h : c = i
    · subst h; simp
    · simp [h]
theorem pg_put (μ : dw_M) (i : Nat) {x v : Int32} {p : Nat} (hx : x = nI p) (hp : p < 64) {b : Bool} (hv : v = if b then 1 else 0) : fX2_put μ i x v = (if pg_b (μ.2 i) p = b then 0 else 1, dw_sl μ i (pg_s (μ.2 i) p b)) := by
  unfold fX2_put
  rw [pg_has μ i hx hp]
  unfold pg_s
  by_cases h : pg_b (μ.2 i) p = b
  · rw [if_pos (by rw [hv, h]), if_pos h, if_pos h, pg_sl_id]
  · rw [if_neg, if_neg h, if_neg h, hx]
    · rfl
    · rw [hv]
      cases b <;> cases hb : pg_b (μ.2 i) p <;> simp_all
/-! bitCount counts -/
def pg_k (m : Nat) : Nat → Nat
  | 0 => 0
  | k + 1 => 256 * pg_k m k + m
theorem pg_and {x M m : Nat} (hm : m < 256) : x &&& (256 * M + m) = 256 * (x / 256 &&& M) + (x % 256 &&& m) := by
  have h1 : (x &&& (256 * M + m)) / 2 ^ 8 = x / 2 ^ 8 &&& (256 * M + m) / 2 ^ 8 := Nat.and_div_two_pow
  have h2 : (x &&& (256 * M + m)) % 2 ^ 8 = (x % 2 ^ 8) &&& ((256 * M + m) % 2 ^ 8) := Nat.and_mod_two_pow
  have e1 : (256 * M + m) / 2 ^ 8 = M := by omega
  have e2 : (256 * M + m) % 2 ^ 8 = m := by omega
  rw [e1] at h1
  rw [e2] at h2
  have e3 : (2 : Nat) ^ 8 = 256 := rfl
  rw [e3] at h1 h2
  omega
def pg_t1 (b : Nat) : Nat := b - (b / 2 &&& 0x55)
def pg_t2 (b : Nat) : Nat := (b &&& 0x33) + (b / 4 &&& 0x33)
def pg_t3 (b : Nat) : Nat := (b + b / 16) &&& 0x0f
def pg_T1 (k n : Nat) : Nat := n - (n / 2 &&& pg_k 0x55 k)
def pg_T2 (k n : Nat) : Nat := (n &&& pg_k 0x33 k) + (n / 4 &&& pg_k 0x33 k)
def pg_T3 (k n : Nat) : Nat := (n + n / 16) &&& pg_k 0x0f k
theorem pg_a1 : ∀ b, b < 256 → ∀ c, c < 2 → (128 * c + b / 2) &&& 0x55 = b / 2 &&& 0x55 := by decide +kernel
theorem pg_a2 : ∀ b, b < 256 → ∀ c, c < 4 → (64 * c + b / 4) &&& 0x33 = b / 4 &&& 0x33 := by decide +kernel
theorem pg_a3 : ∀ b, b < 73 → ∀ c, c < 5 → (16 * c + b) &&& 0x0f = b &&& 0x0f := by decide +kernel
theorem pg_le (x y : Nat) : x &&& y ≤ x := Nat.and_le_left
theorem pg_T1s (k a b : Nat) (hb : b < 256) : pg_T1 (k + 1) (256 * a + b) = 256 * pg_T1 k a + pg_t1 b := by
  unfold pg_T1 pg_t1
  show 256 * a + b - ((256 * a + b) / 2 &&& (256 * pg_k 0x55 k + 0x55)) = _
  rw [pg_and (by decide)]
  have e1 : (256 * a + b) / 2 / 256 = a / 2 := by omega
  have e2 : (256 * a + b) / 2 % 256 = 128 * (a % 2) + b / 2 := by omega
  rw [e1, e2, pg_a1 b hb _ (by omega)]
  have h1 := pg_le (a / 2) (pg_k 0x55 k)
  have h2 := pg_le (b / 2) 0x55
  omega
theorem pg_T2s (k a b : Nat) (hb : b < 256) : pg_T2 (k + 1) (256 * a + b) = 256 * pg_T2 k a + pg_t2 b := by
  unfold pg_T2 pg_t2
  show ((256 * a + b) &&& (256 * pg_k 0x33 k + 0x33)) + ((256 * a + b) / 4 &&& (256 * pg_k 0x33 k + 0x33)) = _
  rw [pg_and (by decide), pg_and (by decide)]
  have e1 : (256 * a + b) / 4 / 256 = a / 4 := by omega
  have e2 : (256 * a + b) / 4 % 256 = 64 * (a % 4) + b / 4 := by omega
  have e3 : (256 * a + b) / 256 = a := by omega
  have e4 : (256 * a + b) % 256 = b := by omega
  rw [e1, e2, e3, e4, pg_a2 b hb _ (by omega)]
  omega
theorem pg_T3s (k a b : Nat) (hb : b < 69) (ha : a % 16 < 5) : pg_T3 (k + 1) (256 * a + b) = 256 * pg_T3 k a + pg_t3 b := by
  unfold pg_T3 pg_t3
  show ((256 * a + b) + (256 * a + b) / 16) &&& (256 * pg_k 0x0f k + 0x0f) = _
  rw [pg_and (by decide)]
  have e1 : ((256 * a + b) + (256 * a + b) / 16) / 256 = a + a / 16 := by omega
  have e2 : ((256 * a + b) + (256 * a + b) / 16) % 256 = 16 * (a % 16) + (b + b / 16) := by omega
  rw [e1, e2, pg_a3 _ (by omega) _ ha]
def pg_pc (b : Nat) : Nat := pg_t3 (pg_t2 (pg_t1 b))
theorem pg_s1 : ∀ b, b < 256 → pg_t1 b < 256 ∧ pg_t2 (pg_t1 b) < 69 ∧ pg_t2 (pg_t1 b) % 16 < 5 ∧ pg_pc b < 9 ∧ pg_pc b = fb_ct (fun j => b.testBit j) 8 := by decide +kernel
def pg_Z : Nat → Nat → Nat
  | 0, _ => 0
  | k + 1, n => 256 * pg_Z k (n / 256) + pg_pc (n % 256)
theorem pg_all : ∀ (k n : Nat), n < 256 ^ k → pg_T2 k (pg_T1 k n) % 16 < 5 ∧ pg_T3 k (pg_T2 k (pg_T1 k n)) = pg_Z k n
  | 0, n, h => by
    have : n = 0 := by simpa using h
    subst this
    decide
  | k + 1, n, h => by
    have hk : n / 256 < 256 ^ k := by
      rw [Nat.pow_succ] at h
      exact Nat.div_lt_of_lt_mul (by omega)
    obtain ⟨h1, h2⟩ := pg_all k (n / 256) hk
    have hb : n % 256 < 256 := Nat.mod_lt _ (by decide)
    obtain ⟨s1, s2, s3, s4, -⟩ := pg_s1 (n % 256) hb
    have e : n = 256 * (n / 256) + n % 256 := by omega
    have e1 : pg_T1 (k + 1) n = 256 * pg_T1 k (n / 256) + pg_t1 (n % 256) := by
      conv => lhs; rw [e]
      exact pg_T1s k _ _ hb
    rw [e1, pg_T2s k _ _ s1]
    refine ⟨by omega, ?_⟩
    rw [pg_T3s k _ _ s2 h1, h2]
    rfl
def pg_S : Nat → Nat → Nat
  | 0, _ => 0
  | k + 1, n => pg_S k (n / 256) + pg_pc (n % 256)
theorem pg_zc : ∀ (k n : Nat), fb_ct (fun j => n.testBit j) (8 * k) = pg_S k n
  | 0, _ => rfl
  | k + 1, n => by
    have e1 : fb_ct (fun j => n.testBit j) 8 = pg_pc (n % 256) := by
      rw [(pg_s1 _ (Nat.mod_lt _ (by decide))).2.2.2.2]
      apply fb_ct_cong
      intro j hj
      rw [show (256 : Nat) = 2 ^ 8 from rfl, Nat.testBit_mod_two_pow]
      simp [hj]
    have e2 : fb_ct (fun j => n.testBit (8 + j)) (8 * k) = fb_ct (fun j => (n / 256).testBit j) (8 * k) := by
      apply fb_ct_cong
      intro j hj
      rw [show (256 : Nat) = 2 ^ 8 from rfl, Nat.testBit_div_two_pow, Nat.add_comm]
    rw [show 8 * (k + 1) = 8 + 8 * k by omega, fb_ct_split, e1, e2, pg_zc k (n / 256)]
    show _ = pg_S k (n / 256) + pg_pc (n % 256)
    omega
theorem pg_us {a k : Nat} (ha : a < 2 ^ 64) (hk : k < 64) : dw_us (lN a) (nI k) = lN (a / 2 ^ k) := wb_shr ha hk
theorem pg_dv {x A B M : Nat} (h : x = A + M * B) (hA : A < M) : x / M = B := by
  subst h
  rw [Nat.add_mul_div_left _ _ (by omega), Nat.div_eq_of_lt hA, Nat.zero_add]
theorem pg_f1 {c1 z2 c2 z3 c0 z1 z : Nat} (ez : z = c0 + 256 * z1) (d1 : z1 = c1 + 256 * z2) (d2 : z2 = c2 + 256 * z3) : z + z1 = (c0 + c1 + 256 * (c1 + c2)) + 65536 * (z2 + z3) := by omega
theorem pg_f2 {c2 c3 c4 z2 z3 z4 z5 : Nat} (d2 : z2 = c2 + 256 * z3) (d3 : z3 = c3 + 256 * z4) (d4 : z4 = c4 + 256 * z5) : z2 + z3 = (c2 + c3) + 256 * (c3 + c4) + 65536 * (z4 + z5) := by omega
theorem pg_f3 {u v a b A : Nat} (h : u = a + 256 * b + 65536 * A) : v + 65536 * u + u = v + (a + 256 * b) + 65536 * (a + A) + 16777216 * b + 4294967296 * A := by omega
theorem pg_f4 {v a b A p q B : Nat} (h : A = p + 256 * q + 65536 * B) : v + 65536 * (a + A) + 16777216 * b + 4294967296 * A = (v + 65536 * (a + p) + 16777216 * (b + q)) + 4294967296 * (A + B) := by omega
theorem pg_f5 {c1 c2 c3 c4 p q B s t A : Nat} (hA : A = p + 256 * q + 65536 * B) (hB : B = s + 256 * t + t) : ((c1 + 256 * c2 + 65536 * c3 + 16777216 * c4) + 4294967296 * (A + B)) + (A + B) = (c1 + p + s + t) + 128 * (2 * c2 + 512 * c3 + 131072 * c4 + 33554432 * (A + B) + 2 * q + 512 * B + 2 * t) := by omega
theorem pg_bd1 {c z z' : Nat} {K : Nat} (hc : c < 9) (hz' : z' < K) (h : z = c + 256 * z') : z < 256 * K := by omega
theorem pg_fin {c0 c1 c2 c3 c4 c5 c6 c7 : Nat} (h0 : c0 < 9) (h1 : c1 < 9) (h2 : c2 < 9) (h3 : c3 < 9) (h4 : c4 < 9) (h5 : c5 < 9) (h6 : c6 < 9) (h7 : c7 < 9) {z y4 y5 y6 : Nat} (hz : z = 256 * (256 * (256 * (256 * (256 * (256 * (256 * (256 * 0 + c7) + c6) + c5) + c4) + c3) + c2) + c1) + c0) (e4 : y4 = z + z / 256) (e5 : y5 = y4 + y4 / 65536) (e6 : y6 = y5 + y5 / 4294967296) : y6 % 128 = 0 + c7 + c6 + c5 + c4 + c3 + c2 + c1 + c0 ∧ y5 < 2 ^ 64 ∧ y4 < 2 ^ 64 ∧ z < 2 ^ 64 := by
  obtain ⟨z7, d7⟩ : ∃ x, x = c7 := ⟨_, rfl⟩
  obtain ⟨z6, d6⟩ : ∃ x, x = c6 + 256 * z7 := ⟨_, rfl⟩
  obtain ⟨z5, d5⟩ : ∃ x, x = c5 + 256 * z6 := ⟨_, rfl⟩
  obtain ⟨z4, d4⟩ : ∃ x, x = c4 + 256 * z5 := ⟨_, rfl⟩
  obtain ⟨z3, d3⟩ : ∃ x, x = c3 + 256 * z4 := ⟨_, rfl⟩
  obtain ⟨z2, d2⟩ : ∃ x, x = c2 + 256 * z3 := ⟨_, rfl⟩
  obtain ⟨z1, d1⟩ : ∃ x, x = c1 + 256 * z2 := ⟨_, rfl⟩
  have ez : z = c0 + 256 * z1 := by
    rw [hz, d1, d2, d3, d4, d5, d6, d7, Nat.mul_zero, Nat.zero_add]
    rw [Nat.add_comm (256 * c7) c6, Nat.add_comm (256 * _) c5, Nat.add_comm (256 * _) c4, Nat.add_comm (256 * _) c3, Nat.add_comm (256 * _) c2, Nat.add_comm (256 * _) c1, Nat.add_comm (256 * _) c0]
  have q1 : z / 256 = z1 := pg_dv ez (Nat.lt_of_lt_of_le h0 (by decide))
  have f1 := pg_f1 ez d1 d2
  have q4 : y4 / 65536 = z2 + z3 := pg_dv (A := c0 + c1 + 256 * (c1 + c2)) (by rw [e4, q1]; exact f1) (by clear ez d1 d2 d3 d4 d5 d6 d7 hz e4 e5 e6 f1 q1; omega)
  have s23 := pg_f2 d2 d3 d4
  have s45 := pg_f2 d4 d5 d6
  have s67 : z6 + z7 = c6 + 256 * c7 + c7 := by rw [d6, d7]
  have e5a := pg_f3 (v := c0 + c1 + 256 * (c1 + c2)) s23
  have e5c := pg_f4 (v := c0 + c1 + 256 * (c1 + c2) + (c2 + c3 + 256 * (c3 + c4))) (a := c2 + c3) (b := c3 + c4) s45
  have e5d : y5 = (c0 + c1 + 256 * (c1 + c2) + (c2 + c3 + 256 * (c3 + c4)) + 65536 * (c2 + c3 + (c4 + c5)) + 16777216 * (c3 + c4 + (c5 + c6))) + 4294967296 * (z4 + z5 + (z6 + z7)) := by
    rw [e5, q4, e4, q1, f1, e5a, e5c]
  have q5 : y5 / 4294967296 = z4 + z5 + (z6 + z7) := pg_dv e5d (by clear ez d1 d2 d3 d4 d5 d6 d7 hz e4 e5 e6 f1 q1 q4 s23 s45 s67 e5a e5c e5d; omega)
  have v7 : z7 < 9 := by rw [d7]; exact h7
  have v6 := pg_bd1 h6 v7 d6
  have v5 := pg_bd1 h5 v6 d5
  have v4 := pg_bd1 h4 v5 d4
  have v3 := pg_bd1 h3 v4 d3
  have v2 := pg_bd1 h2 v3 d2
  have v1 := pg_bd1 h1 v2 d1
  have v0 := pg_bd1 h0 v1 ez
  refine ⟨?_, ?_, ?_, ?_⟩
  · have e6b : y6 = (c0 + c1 + (c2 + c3) + (c4 + c5) + c6 + c7) + 128 * (2 * (c1 + c2 + (c3 + c4)) + 512 * (c2 + c3 + (c4 + c5)) + 131072 * (c3 + c4 + (c5 + c6)) + 33554432 * (z4 + z5 + (z6 + z7)) + 2 * (c5 + c6) + 512 * (z6 + z7) + 2 * c7) := by
      rw [e6, q5, e5d, ← pg_f5 (c1 := c0 + c1 + (c2 + c3)) (c2 := c1 + c2 + (c3 + c4)) (c3 := c2 + c3 + (c4 + c5)) (c4 := c3 + c4 + (c5 + c6)) s45 s67]
      rw [Nat.mul_add 256 (c1 + c2) (c3 + c4)]
      rw [show c0 + c1 + 256 * (c1 + c2) + (c2 + c3 + 256 * (c3 + c4)) = c0 + c1 + (c2 + c3) + (256 * (c1 + c2) + 256 * (c3 + c4)) by rw [Nat.add_assoc (c0 + c1), Nat.add_left_comm (256 * (c1 + c2)), ← Nat.add_assoc (c0 + c1)]]
    rw [e6b, Nat.add_mul_mod_self_left, Nat.mod_eq_of_lt (by clear ez d1 d2 d3 d4 d5 d6 d7 hz e4 e5 e6 f1 q1 q4 s23 s45 s67 e5a e5c e5d q5 v7 v6 v5 v4 v3 v2 v1 v0 e6b; omega)]
    clear ez d1 d2 d3 d4 d5 d6 d7 hz e4 e5 e6 f1 q1 q4 s23 s45 s67 e5a e5c e5d q5 v7 v6 v5 v4 v3 v2 v1 v0 e6b
    omega
  · rw [e5, q4, e4, q1]
    clear ez d1 d2 d3 d4 d5 d6 d7 hz e4 e5 e6 f1 q1 q4 s23 s45 s67 e5a e5c e5d q5
    omega
  · rw [e4, q1]
    clear ez d1 d2 d3 d4 d5 d6 d7 hz e4 e5 e6 f1 q1 q4 s23 s45 s67 e5a e5c e5d q5
    omega
  · clear ez d1 d2 d3 d4 d5 d6 d7 hz e4 e5 e6 f1 q1 q4 s23 s45 s67 e5a e5c e5d q5
    omega
theorem pg_count (w : Int64) : fJ13_bitCount_95d88 w = nI (fb_ct (fun j => pg_b w j) 64) := by
  obtain ⟨n, hn, rfl⟩ := wb_of w
  have eb : fb_ct (fun j => pg_b (lN n) j) 64 = pg_S 8 n := by
    rw [← pg_zc 8 n]
    apply fb_ct_cong
    intro j hj
    unfold pg_b
    rw [wb_tb, BitVec.getLsbD_ofNat]
    simp [hj]
  rw [eb]
  have k1 : (6148914691236517205 : Int64) = lN (pg_k 0x55 8) := by decide +kernel
  have k2 : (3689348814741910323 : Int64) = lN (pg_k 0x33 8) := by decide +kernel
  have k3 : (1085102592571150095 : Int64) = lN (pg_k 0x0f 8) := by decide +kernel
  have m1 : pg_k 0x55 8 < 2 ^ 64 := by decide
  have m2 : pg_k 0x33 8 = 3689348814741910323 := by decide
  have m3 : pg_k 0x0f 8 < 2 ^ 64 := by decide
  have q1 : lN n - (dw_us (lN n) (1 : Int32) &&& (6148914691236517205 : Int64)) = lN (pg_T1 8 n) := by
    rw [show (1 : Int32) = nI 1 from rfl, pg_us hn (by decide), k1, wb_and (by omega) m1, lN_sub (Nat.le_trans (pg_le _ _) (by omega))]
    rfl
  have b1 : pg_T1 8 n < 2 ^ 64 := by unfold pg_T1; omega
  have q2 : (lN (pg_T1 8 n) &&& (3689348814741910323 : Int64)) + (dw_us (lN (pg_T1 8 n)) (2 : Int32) &&& (3689348814741910323 : Int64)) = lN (pg_T2 8 (pg_T1 8 n)) := by
    rw [show (2 : Int32) = nI 2 from rfl, pg_us b1 (by decide), k2, wb_and b1 (by omega), wb_and (by omega) (by omega), lN_add]
    rfl
  have b2 : pg_T2 8 (pg_T1 8 n) < 7378697629483820647 := by
    unfold pg_T2
    have h1 : pg_T1 8 n &&& pg_k 0x33 8 ≤ pg_k 0x33 8 := Nat.and_le_right
    have h2 : pg_T1 8 n / 4 &&& pg_k 0x33 8 ≤ pg_k 0x33 8 := Nat.and_le_right
    omega
  have q3 : (lN (pg_T2 8 (pg_T1 8 n)) + dw_us (lN (pg_T2 8 (pg_T1 8 n))) (4 : Int32)) &&& (1085102592571150095 : Int64) = lN (pg_T3 8 (pg_T2 8 (pg_T1 8 n))) := by
    rw [show (4 : Int32) = nI 4 from rfl, pg_us (by omega) (by decide), k3, lN_add, wb_and (by omega) m3]
    rfl
  have hz := (pg_all 8 n (by omega)).2
  unfold fJ13_bitCount_95d88
  simp only [dw_nm]
  rw [q1, q2, q3, hz]
  have s := fun b => (pg_s1 (b % 256) (Nat.mod_lt _ (by decide))).2.2.2.1
  obtain ⟨f1, f3, f4, f5⟩ := pg_fin (s n) (s (n / 256)) (s (n / 256 / 256)) (s (n / 256 / 256 / 256)) (s (n / 256 / 256 / 256 / 256)) (s (n / 256 / 256 / 256 / 256 / 256)) (s (n / 256 / 256 / 256 / 256 / 256 / 256)) (s (n / 256 / 256 / 256 / 256 / 256 / 256 / 256)) (z := pg_Z 8 n) rfl rfl rfl rfl
  rw [show (8 : Int32) = nI 8 from rfl, show (16 : Int32) = nI 16 from rfl, show (32 : Int32) = nI 32 from rfl, pg_us f5 (by decide), lN_add, show (2 : Nat) ^ 8 = 256 from rfl, pg_us f4 (by decide), lN_add, show (2 : Nat) ^ 16 = 65536 from rfl, pg_us f3 (by decide), lN_add, show (2 : Nat) ^ 32 = 4294967296 from rfl, lN_i, show (127 : Int32) = nI (2 ^ 7 - 1) from rfl, fa_mask, show (2 : Nat) ^ 7 = 128 from rfl, f1]
  rfl
