def rl_sr (c a b : Int32) : Int32 := if b ≤ a then -(if a / c = b / c then 1 else c) else (if a / c = b / c then 1 else c)
/-- a line as the class has it (L), beside its numbers in the reference: it lies in the land, its places differ -/
def rl_ln (P : Nat) (c : Int32) (L : Nat → Int32) (fr to lv fa st : Int32) : Prop := L 0 = fr ∧ L 1 = rl_sr c fr to ∧ L 2 = st ∧ L 3 = lv ∧ L 4 = fa ∧ (∃ m, 2 ≤ m ∧ m ≤ 6 ∧ st = nI m ∧ ∃ pl : Nat → Nat, (∀ k, k < m → pl k < P ∧ fr + nI k * rl_sr c fr to = nI (pl k)) ∧ ∀ j k, j < m → k < m → pl j = pl k → j = k) ∧ ∃ x, 1 ≤ x ∧ x ≤ 50 ∧ fa = nI x
theorem rl_ln_c {P : Nat} {c : Int32} {L L' : Nat → Int32} {fr to lv fa st : Int32} (h : rl_ln P c L fr to lv fa st) (e0 : L' 0 = L 0) (e1 : L' 1 = L 1) (e2 : L' 2 = L 2) (e3 : L' 3 = L 3) (e4 : L' 4 = L 4) : rl_ln P c L' fr to lv fa st := by
  obtain ⟨h0, h1, h2, h3, h4, h5⟩ := h
  exact ⟨e0.trans h0, e1.trans h1, e2.trans h2, e3.trans h3, e4.trans h4, h5⟩
def rl_dim (R C P N : Nat) (s a : Nat) (μ : dw_M) : Prop := (1 ≤ R ∧ R ≤ 6 ∧ 1 ≤ C ∧ C ≤ 6 ∧ P = R * C ∧ 1 ≤ P ∧ P ≤ 36 ∧ N ≤ 20) ∧ μ.1 a (0) = nI R ∧ μ.1 a (1) = nI C ∧ μ.1 a (13) = nI N ∧ μ.1 (s + 1) 0 = nI C ∧ μ.1 (s + 1) 1 = nI P ∧ μ.1 (s + 10) 1 = nI N
theorem rl_dim_c {R C P N : Nat} {s a s' a' : Nat} {μ ν : dw_M} (h : rl_dim R C P N s a μ) (e0 : ν.1 a' (0) = μ.1 a (0)) (e1 : ν.1 a' (1) = μ.1 a (1)) (e2 : ν.1 a' (13) = μ.1 a (13)) (e3 : ν.1 (s' + 1) 0 = μ.1 (s + 1) 0) (e4 : ν.1 (s' + 1) 1 = μ.1 (s + 1) 1) (e5 : ν.1 (s' + 10) 1 = μ.1 (s + 10) 1) : rl_dim R C P N s' a' ν := by
  unfold rl_dim at h
  unfold rl_dim
  rw [e0, e1, e2, e3, e4, e5]
  exact h
def rl_gnd (P : Nat) (s a : Nat) (μ : dw_M) : Prop := ∀ p, p < P → μ.1 (s + 2) p = μ.1 a (20 + p) ∧ μ.1 (s + 3) p = μ.1 a (60 + p) ∧ (∃ x, x < 4 ∧ μ.1 a (60 + p) = nI x) ∧ (∃ x, x ≤ 2000 ∧ μ.1 a (20 + p) = nI x)
theorem rl_gnd_c {P : Nat} {s a s' a' : Nat} {μ ν : dw_M} (h : rl_gnd P s a μ) (e0 : ∀ p, p < P → ν.1 (s' + 2) p = μ.1 (s + 2) p) (e1 : ∀ p, p < P → ν.1 (s' + 3) p = μ.1 (s + 3) p) (e2 : ∀ p, p < P → ν.1 a' (20 + p) = μ.1 a (20 + p)) (e3 : ∀ p, p < P → ν.1 a' (60 + p) = μ.1 a (60 + p)) : rl_gnd P s' a' ν := by
  intro p hp0
  have h := h p hp0
  skip
  rw [e0 p hp0, e1 p hp0, e2 p hp0, e3 p hp0]
  exact h
def rl_soi  (s a : Nat) (μ : dw_M) : Prop := ∀ t, t < 4 → μ.1 (s + 4) t = μ.1 a (300 + 4 * t) ∧ μ.1 (s + 5) t = μ.1 a (300 + 4 * t + 1) ∧ μ.1 (s + 6) t = μ.1 a (300 + 4 * t + 2) ∧ μ.1 (s + 7) t = μ.1 a (300 + 4 * t + 3) ∧ (∃ x, x ≤ 200 ∧ μ.1 a (300 + 4 * t) = nI x) ∧ (∃ x, x ≤ 100 ∧ μ.1 a (300 + 4 * t + 1) = nI x) ∧ (∃ x, x ≤ 1000 ∧ μ.1 a (300 + 4 * t + 2) = nI x)
theorem rl_soi_c  {s a s' a' : Nat} {μ ν : dw_M} (h : rl_soi  s a μ) (e0 : ∀ t, t < 4 → ν.1 (s' + 4) t = μ.1 (s + 4) t) (e1 : ∀ t, t < 4 → ν.1 (s' + 5) t = μ.1 (s + 5) t) (e2 : ∀ t, t < 4 → ν.1 (s' + 6) t = μ.1 (s + 6) t) (e3 : ∀ t, t < 4 → ν.1 (s' + 7) t = μ.1 (s + 7) t) (e4 : ∀ t, t < 4 → ν.1 a' (300 + 4 * t) = μ.1 a (300 + 4 * t)) (e5 : ∀ t, t < 4 → ν.1 a' (300 + 4 * t + 1) = μ.1 a (300 + 4 * t + 1)) (e6 : ∀ t, t < 4 → ν.1 a' (300 + 4 * t + 2) = μ.1 a (300 + 4 * t + 2)) (e7 : ∀ t, t < 4 → ν.1 a' (300 + 4 * t + 3) = μ.1 a (300 + 4 * t + 3)) : rl_soi  s' a' ν := by
  intro t ht0
  have h := h t ht0
  skip
  rw [e0 t ht0, e1 t ht0, e2 t ht0, e3 t ht0, e4 t ht0, e5 t ht0, e6 t ht0, e7 t ht0]
  exact h
def rl_dit  (s a : Nat) (μ : dw_M) : Prop := ∀ d, d < 4 → μ.1 (s + 8) d = μ.1 a (320 + d)
theorem rl_dit_c  {s a s' a' : Nat} {μ ν : dw_M} (h : rl_dit  s a μ) (e0 : ∀ d, d < 4 → ν.1 (s' + 8) d = μ.1 (s + 8) d) (e1 : ∀ d, d < 4 → ν.1 a' (320 + d) = μ.1 a (320 + d)) : rl_dit  s' a' ν := by
  intro d hd0
  have h := h d hd0
  skip
  rw [e0 d hd0, e1 d hd0]
  exact h
def rl_hnd (P : Nat) (c : Int32) (s a : Nat) (μ : dw_M) : Prop := μ.1 (s + 9) 2 = μ.1 a 2 ∧ (μ.1 a 2 = 0 ∨ rl_ln P c (μ.1 (s + 9)) (μ.1 a 3) (μ.1 a 4) (μ.1 a 5) (μ.1 a 6) (μ.1 a 2))
theorem rl_hnd_c {P : Nat} {c : Int32} {s a s' a' : Nat} {μ ν : dw_M} (h : rl_hnd P c s a μ) (e : ∀ j, j < 5 → ν.1 (s' + 9) j = μ.1 (s + 9) j) (e2 : ∀ j, 2 ≤ j → j < 7 → ν.1 a' j = μ.1 a j) : rl_hnd P c s' a' ν := by
  unfold rl_hnd at h ⊢
  rw [e 2 (by decide), e2 2 (by decide) (by decide), e2 3 (by decide) (by decide), e2 4 (by decide) (by decide), e2 5 (by decide) (by decide), e2 6 (by decide) (by decide)]
  exact ⟨h.1, h.2.imp_right (fun h => rl_ln_c h (e 0 (by decide)) (e 1 (by decide)) (e 2 (by decide)) (e 3 (by decide)) (e 4 (by decide)))⟩
/-- a pipe as it was laid -/
def rl_pp (P : Nat) (c : Int32) (s a p : Nat) (μ : dw_M) : Prop := μ.1 (s + (12 + 2 * p)) 1 = μ.1 a (400 + 20 * p) ∧ (∃ x, x < 4 ∧ μ.1 a (400 + 20 * p) = nI x) ∧ μ.1 (s + (12 + 2 * p)) 2 = μ.1 a (400 + 20 * p + 5) ∧ (∃ x, 1 ≤ x ∧ x ≤ 4 ∧ μ.1 a (400 + 20 * p + 5) = nI x) ∧ μ.1 (s + (12 + 2 * p)) 3 = μ.1 a (400 + 20 * p + 5) * μ.1 a (400 + 20 * p + 5) * (μ.1 a (400 + 20 * p + 4) + 5) ∧ μ.1 (s + (12 + 2 * p)) 4 = 40 * μ.1 a (400 + 20 * p + 5) * μ.1 a (400 + 20 * p + 11) ∧ rl_ln P c (μ.1 (s + (13 + 2 * p))) (μ.1 a (400 + 20 * p + 1)) (μ.1 a (400 + 20 * p + 2)) (μ.1 a (400 + 20 * p + 3)) (μ.1 a (400 + 20 * p + 4)) (μ.1 a (400 + 20 * p + 11))
def rl_pip (P N : Nat) (c : Int32) (s a : Nat) (μ : dw_M) : Prop := ∀ p, p < N → rl_pp P c s a p μ
theorem rl_pp_c {P p : Nat} {c : Int32} {s a s' a' : Nat} {μ ν : dw_M} (h : rl_pp P c s a p μ) (e1 : ∀ j, 1 ≤ j → j < 5 → ν.1 (s' + (12 + 2 * p)) j = μ.1 (s + (12 + 2 * p)) j) (e2 : ∀ j, j < 5 → ν.1 (s' + (13 + 2 * p)) j = μ.1 (s + (13 + 2 * p)) j) (e3 : ν.1 a' (400 + 20 * p) = μ.1 a (400 + 20 * p)) (e4 : ∀ j, 1 ≤ j → j < 6 → ν.1 a' (400 + 20 * p + j) = μ.1 a (400 + 20 * p + j)) (e5 : ν.1 a' (400 + 20 * p + 11) = μ.1 a (400 + 20 * p + 11)) : rl_pp P c s' a' p ν := by
  unfold rl_pp at h ⊢
  rw [e1 1 (by decide) (by decide), e1 2 (by decide) (by decide), e1 3 (by decide) (by decide), e1 4 (by decide) (by decide), e3, e4 1 (by decide) (by decide), e4 2 (by decide) (by decide), e4 3 (by decide) (by decide), e4 4 (by decide) (by decide), e4 5 (by decide) (by decide), e5]
  obtain ⟨h1, h2, h3, h4, h5, h6, h7⟩ := h
  exact ⟨h1, h2, h3, h4, h5, h6, rl_ln_c h7 (e2 0 (by decide)) (e2 1 (by decide)) (e2 2 (by decide)) (e2 3 (by decide)) (e2 4 (by decide))⟩
theorem rl_pip_c {P N : Nat} {c : Int32} {s a s' a' : Nat} {μ ν : dw_M} (h : rl_pip P N c s a μ) (e1 : ∀ p j, p < N → 1 ≤ j → j < 5 → ν.1 (s' + (12 + 2 * p)) j = μ.1 (s + (12 + 2 * p)) j) (e2 : ∀ p j, p < N → j < 5 → ν.1 (s' + (13 + 2 * p)) j = μ.1 (s + (13 + 2 * p)) j) (e3 : ∀ p, p < N → ν.1 a' (400 + 20 * p) = μ.1 a (400 + 20 * p)) (e4 : ∀ p j, p < N → 1 ≤ j → j < 6 → ν.1 a' (400 + 20 * p + j) = μ.1 a (400 + 20 * p + j)) (e5 : ∀ p, p < N → ν.1 a' (400 + 20 * p + 11) = μ.1 a (400 + 20 * p + 11)) : rl_pip P N c s' a' ν :=
  fun p hp => rl_pp_c (h p hp) (fun j => e1 p j hp) (fun j => e2 p j hp) (e3 p hp) (fun j => e4 p j hp) (e5 p hp)
def rl_int (N : Nat) (s a : Nat) (μ : dw_M) : Prop := ∀ p, p < N → μ.1 (s + (12 + 2 * p)) 5 = μ.1 a (400 + 20 * p + 7) ∧ (μ.1 a (400 + 20 * p + 7) = -1 ∨ (∃ q, q < N ∧ μ.1 a (400 + 20 * p + 7) = nI q) ∨ ∃ d, d < 4 ∧ μ.1 a (400 + 20 * p + 7) = nI (100 + d))
theorem rl_int_c {N : Nat} {s a s' a' : Nat} {μ ν : dw_M} (h : rl_int N s a μ) (e0 : ∀ p, p < N → ν.1 (s' + (12 + 2 * p)) 5 = μ.1 (s + (12 + 2 * p)) 5) (e1 : ∀ p, p < N → ν.1 a' (400 + 20 * p + 7) = μ.1 a (400 + 20 * p + 7)) : rl_int N s' a' ν := by
  intro p hp0
  have h := h p hp0
  skip
  rw [e0 p hp0, e1 p hp0]
  exact h
def rl_acy (N : Nat) (a : Nat) (μ : dw_M) : Prop := ∃ rk : Nat → Nat, ∀ p q, p < N → q < N → μ.1 a (400 + 20 * p + 7) = nI q → rk q < rk p
theorem rl_acy_c {N a a' : Nat} {μ ν : dw_M} (h : rl_acy N a μ) (e : ∀ p, p < N → ν.1 a' (400 + 20 * p + 7) = μ.1 a (400 + 20 * p + 7)) : rl_acy N a' ν := by
  obtain ⟨rk, h⟩ := h
  exact ⟨rk, fun p q hp hq he => h p q hp hq (by rw [← e p hp]; exact he)⟩
/-- water: the cells i, i + 1 .. of the class (hol: what each pipe holds) -/
def rl_wat (P N h : Nat) (hol : Nat → Int32) (i a : Nat) (μ : dw_M) : Prop :=
  (∀ p, p < P → μ.1 (i + 1) p = μ.1 a (100 + p) ∧ μ.1 (i + 2) p = μ.1 a (140 + p) ∧ (∃ x, x ≤ 300 * h ∧ μ.1 a (100 + p) = nI x) ∧ ∃ x, x ≤ 1000 ∧ μ.1 a (140 + p) = nI x) ∧
  (∀ p, P ≤ p → p < 36 → μ.1 (i + 1) p = 0 ∧ μ.1 (i + 2) p = 0) ∧
  (∀ q, q < N → μ.1 (i + 3) q = μ.1 a (400 + 20 * q + 9) ∧ μ.1 (i + 4) q = μ.1 a (400 + 20 * q + 6) ∧ μ.1 (i + 5) q = μ.1 a (400 + 20 * q + 10) ∧ (∃ x y, x ≤ y ∧ y ≤ 960 ∧ μ.1 a (400 + 20 * q + 9) = nI x ∧ hol q = nI y) ∧ ∃ x, x ≤ 100 ∧ μ.1 a (400 + 20 * q + 6) = nI x) ∧
  (∀ q, N ≤ q → q < 20 → μ.1 (i + 3) q = 0 ∧ μ.1 (i + 4) q = 0 ∧ μ.1 (i + 5) q = 0) ∧
  (∀ d, d < 4 → μ.1 (i + 6) d = μ.1 a (9 + d)) ∧ μ.1 i 7 = μ.1 a 8 ∧ μ.1 i 8 = μ.1 a 7 ∧ μ.1 a 7 = nI h
theorem rl_wat_c {P N h : Nat} {hol hol' : Nat → Int32} {i a i' a' : Nat} {μ ν : dw_M} (hw : rl_wat P N h hol i a μ) (hP : P ≤ 36) (hN : N ≤ 20) (e0 : ∀ q, q < N → hol' q = hol q) (e1 : ∀ f p, 1 ≤ f → f ≤ 2 → p < 36 → ν.1 (i' + f) p = μ.1 (i + f) p) (e2 : ∀ f q, 3 ≤ f → f ≤ 5 → q < 20 → ν.1 (i' + f) q = μ.1 (i + f) q) (e3 : ∀ d, d < 4 → ν.1 (i' + 6) d = μ.1 (i + 6) d) (e4 : ν.1 i' 7 = μ.1 i 7) (e5 : ν.1 i' 8 = μ.1 i 8) (m1 : ∀ j, 100 ≤ j → j < 176 → ν.1 a' j = μ.1 a j) (m2 : ∀ q, q < N → ν.1 a' (400 + 20 * q + 9) = μ.1 a (400 + 20 * q + 9)) (m3 : ∀ q, q < N → ν.1 a' (400 + 20 * q + 6) = μ.1 a (400 + 20 * q + 6)) (m4 : ∀ q, q < N → ν.1 a' (400 + 20 * q + 10) = μ.1 a (400 + 20 * q + 10)) (m5 : ∀ j, 7 ≤ j → j < 13 → ν.1 a' j = μ.1 a j) : rl_wat P N h hol' i' a' ν := by
  obtain ⟨h1, h2, h3, h4, h5, h6, h7, h8⟩ := hw
  refine ⟨fun p hp => ?_, fun p hp hp2 => ?_, fun q hq => ?_, fun q hq hq2 => ?_, fun d hd => ?_, ?_, ?_, ?_⟩
  · rw [e1 1 p (by decide) (by decide) (by omega), e1 2 p (by decide) (by decide) (by omega), m1 (100 + p) (by omega) (by omega), m1 (140 + p) (by omega) (by omega)]
    exact h1 p hp
  · rw [e1 1 p (by decide) (by decide) hp2, e1 2 p (by decide) (by decide) hp2]
    exact h2 p hp hp2
  · rw [e2 3 q (by decide) (by decide) (by omega), e2 4 q (by decide) (by decide) (by omega), e2 5 q (by decide) (by decide) (by omega), m2 q hq, m3 q hq, m4 q hq, e0 q hq]
    exact h3 q hq
  · rw [e2 3 q (by decide) (by decide) hq2, e2 4 q (by decide) (by decide) hq2, e2 5 q (by decide) (by decide) hq2]
    exact h4 q hq hq2
  · rw [e3 d hd, m5 (9 + d) (by omega) (by omega)]
    exact h5 d hd
  · rw [e4, m5 8 (by decide) (by decide)]
    exact h6
  · rw [e5, m5 7 (by decide) (by decide)]
    exact h7
  · rw [m5 7 (by decide) (by decide)]
    exact h8
/-- a group of pipes, or of places, beside flags of the reference -/
def rl_blk (N : Nat) (w : Int64) (a : Nat) (μ : dw_M) : Prop := (∀ q, q < N → μ.1 a (400 + 20 * q + 8) = if pg_b w q then 1 else 0) ∧ ∀ q, N ≤ q → q < 64 → pg_b w q = false
theorem rl_blk_c {N : Nat} {w w' : Int64} {a a' : Nat} {μ ν : dw_M} (h : rl_blk N w a μ) (ew : w' = w) (e : ∀ q, q < N → ν.1 a' (400 + 20 * q + 8) = μ.1 a (400 + 20 * q + 8)) : rl_blk N w' a' ν := by
  subst ew
  exact ⟨fun q hq => by rw [e q hq]; exact h.1 q hq, h.2⟩
def rl_set (P : Nat) (w : Int64) (b a : Nat) (μ : dw_M) : Prop := (∀ p, p < P → μ.1 a (b + p) = if pg_b w p then 1 else 0) ∧ ∀ p, P ≤ p → p < 64 → pg_b w p = false
theorem rl_set_c {P : Nat} {w w' : Int64} {b a a' : Nat} {μ ν : dw_M} (h : rl_set P w b a μ) (ew : w' = w) (e : ∀ p, p < P → ν.1 a' (b + p) = μ.1 a (b + p)) : rl_set P w' b a' ν := by
  subst ew
  exact ⟨fun q hq => by rw [e q hq]; exact h.1 q hq, h.2⟩
def rl_rai (P : Nat) (s a : Nat) (μ : dw_M) : Prop := ∀ p, p < P → μ.1 (s + 60) p = μ.1 a (180 + p) ∧ ∃ x, x ≤ 300 ∧ μ.1 a (180 + p) = nI x
theorem rl_rai_c {P : Nat} {s a s' a' : Nat} {μ ν : dw_M} (h : rl_rai P s a μ) (e0 : ∀ p, p < P → ν.1 (s' + 60) p = μ.1 (s + 60) p) (e1 : ∀ p, p < P → ν.1 a' (180 + p) = μ.1 a (180 + p)) : rl_rai P s' a' ν := by
  intro p hp0
  have h := h p hp0
  skip
  rw [e0 p hp0, e1 p hp0]
  exact h
def rl_all (R C P N h k s a : Nat) (μ : dw_M) : Prop := rl_dim R C P N s a μ ∧ rl_gnd P s a μ ∧ rl_soi s a μ ∧ rl_dit s a μ ∧ rl_hnd P (nI C) s a μ ∧ rl_pip P N (nI C) s a μ ∧ rl_int N s a μ ∧ rl_acy N a μ ∧ (h ≤ 50 * k ∧ rl_wat P N h (fun q => μ.1 (s + (12 + 2 * q)) 4) (s + 52) a μ) ∧ rl_blk N (μ.2 (s + 59)) a μ ∧ rl_rai P s a μ ∧ rl_set P (μ.2 (s + 61)) 220 a μ ∧ rl_set P (μ.2 (s + 62)) 260 a μ
def rl (k s a : Nat) (μ : dw_M) : Prop := ∃ R C P N h, rl_all R C P N h k s a μ
theorem rl_mono {k s a : Nat} {μ : dw_M} (h : rl k s a μ) : rl (k + 1) s a μ := by
  obtain ⟨R, C, P, N, hh, h1, h2, h3, h4, h5, h6, h7, h8, ⟨h9, h10⟩, h11⟩ := h
  exact ⟨R, C, P, N, hh, h1, h2, h3, h4, h5, h6, h7, h8, ⟨by omega, h10⟩, h11⟩
/-- the same cells, elsewhere or in another memory -/
theorem rl_move {k s a s' a' : Nat} {μ ν : dw_M} (h : rl k s a μ) (e1 : ∀ o, o < 63 → ∀ j, (12 ≤ o → o < 52 → j < 6) → (o = 2 ∨ o = 3 ∨ o = 53 ∨ o = 54 ∨ o = 60 → j < 36) → (4 ≤ o → o ≤ 8 → j < 4) → (o = 58 → j < 4) → (55 ≤ o → o ≤ 57 → j < 20) → ν.1 (s' + o) j = μ.1 (s + o) j) (e2 : ∀ o, o < 63 → ν.2 (s' + o) = μ.2 (s + o)) (e3 : ∀ j, j < 800 → ν.1 a' j = μ.1 a j) : rl k s' a' ν := by
  obtain ⟨R, C, P, N, hh, h1, h2, h3, h4, h5, h6, h7, h8, ⟨h9, h10⟩, h11, h12, h13, h14⟩ := h
  obtain ⟨d1, -⟩ := id h1
  have hP : P ≤ 36 := d1.2.2.2.2.2.2.1
  have hN : N ≤ 20 := d1.2.2.2.2.2.2.2
  refine ⟨R, C, P, N, hh, ?_, ?_, ?_, ?_, ?_, ?_, ?_, ?_, ⟨h9, ?_⟩, ?_, ?_, ?_, ?_⟩
  · exact rl_dim_c h1 (e3 0 (by decide)) (e3 1 (by decide)) (e3 13 (by decide)) (e1 1 (by decide) 0 (by omega) (by omega) (by omega) (by omega) (by omega)) (e1 1 (by decide) 1 (by omega) (by omega) (by omega) (by omega) (by omega)) (e1 10 (by decide) 1 (by omega) (by omega) (by omega) (by omega) (by omega))
  · exact rl_gnd_c h2 (fun p hp => e1 2 (by decide) p (by omega) (by omega) (by omega) (by omega) (by omega)) (fun p hp => e1 3 (by decide) p (by omega) (by omega) (by omega) (by omega) (by omega)) (fun p hp => e3 _ (by omega)) (fun p hp => e3 _ (by omega))
  · exact rl_soi_c h3 (fun p hp => e1 4 (by decide) p (by omega) (by omega) (by omega) (by omega) (by omega)) (fun p hp => e1 5 (by decide) p (by omega) (by omega) (by omega) (by omega) (by omega)) (fun p hp => e1 6 (by decide) p (by omega) (by omega) (by omega) (by omega) (by omega)) (fun p hp => e1 7 (by decide) p (by omega) (by omega) (by omega) (by omega) (by omega)) (fun p hp => e3 _ (by omega)) (fun p hp => e3 _ (by omega)) (fun p hp => e3 _ (by omega)) (fun p hp => e3 _ (by omega))
  · exact rl_dit_c h4 (fun p hp => e1 8 (by decide) p (by omega) (by omega) (by omega) (by omega) (by omega)) (fun p hp => e3 _ (by omega))
  · exact rl_hnd_c h5 (fun j hj => e1 9 (by decide) j (by omega) (by omega) (by omega) (by omega) (by omega)) (fun j h1 h2 => e3 j (by omega))
  · exact rl_pip_c h6 (fun p j hp h1 h2 => e1 (12 + 2 * p) (by omega) j (by omega) (by omega) (by omega) (by omega) (by omega)) (fun p j hp h1 => e1 (13 + 2 * p) (by omega) j (by omega) (by omega) (by omega) (by omega) (by omega)) (fun p hp => e3 _ (by omega)) (fun p j hp h1 h2 => e3 _ (by omega)) (fun p hp => e3 _ (by omega))
  · exact rl_int_c h7 (fun p hp => e1 (12 + 2 * p) (by omega) 5 (by omega) (by omega) (by omega) (by omega) (by omega)) (fun p hp => e3 _ (by omega))
  · exact rl_acy_c h8 (fun p hp => e3 _ (by omega))
  · refine rl_wat_c h10 hP hN (fun q hq => e1 (12 + 2 * q) (by omega) 4 (by omega) (by omega) (by omega) (by omega) (by omega)) (fun f p h1 h2 h3 => ?_) (fun f q h1 h2 h3 => ?_) (fun d hd => ?_) ?_ ?_ (fun j h1 h2 => e3 j (by omega)) (fun q hq => e3 _ (by omega)) (fun q hq => e3 _ (by omega)) (fun q hq => e3 _ (by omega)) (fun j h1 h2 => e3 j (by omega))
    · rw [Nat.add_assoc, Nat.add_assoc]
      exact e1 (52 + f) (by omega) p (by omega) (by omega) (by omega) (by omega) (by omega)
    · rw [Nat.add_assoc, Nat.add_assoc]
      exact e1 (52 + f) (by omega) q (by omega) (by omega) (by omega) (by omega) (by omega)
    · exact e1 58 (by decide) d (by omega) (by omega) (by omega) (by omega) (by omega)
    · exact e1 52 (by decide) 7 (by omega) (by omega) (by omega) (by omega) (by omega)
    · exact e1 52 (by decide) 8 (by omega) (by omega) (by omega) (by omega) (by omega)
  · exact rl_blk_c h11 (e2 59 (by decide)) (fun q hq => e3 _ (by omega))
  · exact rl_rai_c h12 (fun p hp => e1 60 (by decide) p (by omega) (by omega) (by omega) (by omega) (by omega)) (fun p hp => e3 _ (by omega))
  · exact rl_set_c h13 (e2 61 (by decide)) (fun q hq => e3 _ (by omega))
  · exact rl_set_c h14 (e2 62 (by decide)) (fun q hq => e3 _ (by omega))
/-- the state behind k calls -/
def pl_G (k : Nat) (μ : dw_M) : Prop := rl k 1 143 μ ∧ (μ.1 0 2 = 0 ∨ μ.1 0 2 = 1) ∧ μ.1 142 3 = μ.1 0 2 ∧ (μ.1 0 2 = 1 → rl k 64 144 μ)
theorem pl_mono {k : Nat} {μ : dw_M} (h : pl_G k μ) : pl_G (k + 1) μ := ⟨rl_mono h.1, h.2.1, h.2.2.1, fun e => rl_mono (h.2.2.2 e)⟩
/-- the sheet now, and its array, changed; what is kept isn't -/
theorem pl_now {k : Nat} {μ ν : dw_M} (h : pl_G k μ) (hn : rl (k + 1) 1 143 ν) (e1 : ∀ c, 64 ≤ c → c < 127 → ν.1 c = μ.1 c) (e2 : ∀ c, 64 ≤ c → c < 127 → ν.2 c = μ.2 c) (e3 : ν.1 144 = μ.1 144) (e4 : ν.1 0 2 = μ.1 0 2) (e5 : ν.1 142 3 = μ.1 142 3) : pl_G (k + 1) ν := by
  obtain ⟨h1, h2, h3, h4⟩ := h
  refine ⟨hn, by rw [e4]; exact h2, by rw [e4, e5]; exact h3, fun e => ?_⟩
  rw [e4] at e
  exact rl_mono (rl_move (h4 e) (fun o ho j _ _ _ _ _ => by rw [e1 _ (by omega) (by omega)]) (fun o ho => by rw [e2 _ (by omega) (by omega)]) (fun j _ => by rw [e3]))
theorem pl_same {k : Nat} {μ ν : dw_M} (h : pl_G k μ) (e1 : ∀ c, c < 127 → ν.1 c = μ.1 c) (e2 : ∀ c, c < 127 → ν.2 c = μ.2 c) (e6 : ν.1 143 = μ.1 143) (e3 : ν.1 144 = μ.1 144) (e5 : ν.1 142 3 = μ.1 142 3) : pl_G (k + 1) ν := by
  refine pl_now h (rl_mono (rl_move h.1 (fun o ho j _ _ _ _ _ => by rw [e1 _ (by omega)]) (fun o ho => by rw [e2 _ (by omega)]) (fun j _ => by rw [e6]))) (fun c _ h2 => e1 c h2) (fun c _ h2 => e2 c h2) e3 (by rw [e1 0 (by decide)]) e5
theorem pb_o {μ : dw_M} {i k : Nat} {x : Int32} {c j : Nat} (h : c ≠ i ∨ j ≠ k) : (dw_st μ i k x).1 c j = μ.1 c j := by
  rw [pb_rd]
  by_cases e : c = i
  · have e2 : j ≠ k := by omega
    simp [e2]
  · simp [e]
theorem pb_oc {μ : dw_M} {i k : Nat} {x : Int32} {c : Nat} (h : c ≠ i) : (dw_st μ i k x).1 c = μ.1 c := by
  funext j
  exact pb_o (Or.inl h)
theorem pb_i {μ : dw_M} {i k : Nat} {x : Int32} : (dw_st μ i k x).1 i k = x := by rw [pb_rd]; simp
