def pb_K (μ : dw_M) (b a n : Nat) : dw_M := pb_c μ a (pb_cp (μ.1 a) (μ.1 b) n)
theorem pb_Ko {μ : dw_M} {b a n c j : Nat} (h : c ≠ a ∨ n ≤ j) : (pb_K μ b a n).1 c j = μ.1 c j := by
  unfold pb_K
  rw [pb_cr]
  by_cases e : c = a
  · rw [if_pos e, e]
    unfold pb_cp
    rw [if_neg (by omega)]
  · rw [if_neg e]
theorem pb_Ki {μ : dw_M} {b a n j : Nat} (h : j < n) : (pb_K μ b a n).1 a j = μ.1 b j := by
  unfold pb_K
  rw [pb_c1]
  unfold pb_cp
  rw [if_pos h]
theorem pb_K2 (μ : dw_M) (b a n : Nat) : (pb_K μ b a n).2 = μ.2 := rfl
theorem pb_cpy (μ : dw_M) {i j n : Nat} (hi : dw_ln i = n) (hj : dw_ln j = n) (hij : i ≠ j) (hn : n < 900) : fX9_copy μ i j = some (pb_K μ i j n) := pb_copy μ i j n hi hj hij hn
def cp_A (μ : dw_M) (i j : Nat) : dw_M := pb_K (pb_K (pb_K (pb_K (pb_K (pb_K (pb_K (dw_st (dw_st μ (i + 1) 0 (μ.1 (j + 1) 0)) (i + 1) 1 (μ.1 (j + 1) 1)) (j + 1 + 1) (i + 1 + 1) 36) (j + 1 + 2) (i + 1 + 2) 36) (j + 1 + 3) (i + 1 + 3) 4) (j + 1 + 4) (i + 1 + 4) 4) (j + 1 + 5) (i + 1 + 5) 4) (j + 1 + 6) (i + 1 + 6) 4) (j + 1 + 7) (i + 1 + 7) 4
def cp_B (μ : dw_M) (i j : Nat) : dw_M := dw_st (dw_st (dw_st (dw_st (dw_st μ (i + 9) 0 (μ.1 (j + 9) 0)) (i + 9) 1 (μ.1 (j + 9) 1)) (i + 9) 2 (μ.1 (j + 9) 2)) (i + 9) 3 (μ.1 (j + 9) 3)) (i + 9) 4 (μ.1 (j + 9) 4)
def cp_C (μ : dw_M) (i j : Nat) : dw_M := dw_st (dw_st (dw_sl (pb_K (pb_K (pb_K (pb_K (pb_K (pb_K μ (j + 1) (i + 1) 36) (j + 2) (i + 2) 36) (j + 3) (i + 3) 20) (j + 4) (i + 4) 20) (j + 5) (i + 5) 20) (j + 6) (i + 6) 4) (i + 7) (μ.2 (j + 7))) i 7 (μ.1 j 7)) i 8 (μ.1 j 8)
/-- the water's cells copied -/
theorem cl_wcp (μ : dw_M) {i j : Nat} (hd : i + 8 ≤ j ∨ j + 8 ≤ i) (hi : dw_ln (i + 1) = 36 ∧ dw_ln (i + 2) = 36 ∧ dw_ln (i + 3) = 20 ∧ dw_ln (i + 4) = 20 ∧ dw_ln (i + 5) = 20 ∧ dw_ln (i + 6) = 4) (hj : dw_ln (j + 1) = 36 ∧ dw_ln (j + 2) = 36 ∧ dw_ln (j + 3) = 20 ∧ dw_ln (j + 4) = 20 ∧ dw_ln (j + 5) = 20 ∧ dw_ln (j + 6) = 4) : fX8_copyFrom μ i j = some (cp_C μ i j) := by
  obtain ⟨i1, i2, i3, i4, i5, i6⟩ := hi
  obtain ⟨j1, j2, j3, j4, j5, j6⟩ := hj
  unfold fX8_copyFrom
  rw [pb_bd (pb_cpy _ j1 i1 (by omega) (by decide)), pb_bd (pb_cpy _ j2 i2 (by omega) (by decide)), pb_bd (pb_cpy _ j3 i3 (by omega) (by decide)), pb_bd (pb_cpy _ j4 i4 (by omega) (by decide)), pb_bd (pb_cpy _ j5 i5 (by omega) (by decide)), pb_bd (pb_cpy _ j6 i6 (by omega) (by decide))]
  unfold fX2_copyFrom cp_C
  simp only [dw_nm]
  simp (disch := omega) only [pb_o, pb_sl1, pb_Ko]
  rfl
section
variable (μ : dw_M) {i j : Nat}
theorem cp_Ao (c k : Nat) (h : c < i + 1 ∨ i + 9 ≤ c) : (cp_A μ i j).1 c k = μ.1 c k := by
  unfold cp_A
  simp (disch := omega) only [pb_o, pb_Ko]
theorem cp_Bo (c k : Nat) (h : c ≠ i + 9) : (cp_B μ i j).1 c k = μ.1 c k := by
  unfold cp_B
  simp (disch := omega) only [pb_o]
theorem cp_Co (c k : Nat) (h : c < i ∨ i + 7 ≤ c) : (cp_C μ i j).1 c k = μ.1 c k := by
  unfold cp_C
  simp (disch := omega) only [pb_o, pb_Ko, pb_sl1]
theorem cp_Cl (c : Nat) : (cp_C μ i j).2 c = if c = i + 7 then μ.2 (j + 7) else μ.2 c := by
  unfold cp_C
  rw [pb_rd2, pb_rd2, pb_sl2]
  rfl
theorem cp_A1 (hd : i + 63 ≤ j ∨ j + 63 ≤ i) : (cp_A μ i j).1 (i + 1) 0 = μ.1 (j + 1) 0 ∧ (cp_A μ i j).1 (i + 1) 1 = μ.1 (j + 1) 1 ∧ (∀ k, k < 36 → (cp_A μ i j).1 (i + 2) k = μ.1 (j + 2) k) ∧ (∀ k, k < 36 → (cp_A μ i j).1 (i + 3) k = μ.1 (j + 3) k) ∧ ∀ o, 4 ≤ o → o ≤ 8 → ∀ k, k < 4 → (cp_A μ i j).1 (i + o) k = μ.1 (j + o) k := by
  unfold cp_A
  simp only [Nat.add_assoc, Nat.reduceAdd]
  refine ⟨?_, ?_, fun k hk => ?_, fun k hk => ?_, fun o h1 h2 k hk => ?_⟩
  · simp (disch := omega) only [pb_o, pb_i, pb_Ko, pb_Ki]
  · simp (disch := omega) only [pb_o, pb_i, pb_Ko, pb_Ki]
  · simp (disch := omega) only [pb_o, pb_i, pb_Ko, pb_Ki]
  · simp (disch := omega) only [pb_o, pb_i, pb_Ko, pb_Ki]
  · rcases (by omega : o = 4 ∨ o = 5 ∨ o = 6 ∨ o = 7 ∨ o = 8) with rfl | rfl | rfl | rfl | rfl <;> simp (disch := omega) only [pb_o, pb_i, pb_Ko, pb_Ki]
theorem cp_B1 (k : Nat) (hk : k < 5) : (cp_B μ i j).1 (i + 9) k = μ.1 (j + 9) k := by
  unfold cp_B
  rcases (by omega : k = 0 ∨ k = 1 ∨ k = 2 ∨ k = 3 ∨ k = 4) with rfl | rfl | rfl | rfl | rfl <;> simp (disch := omega) only [pb_o, pb_i]
theorem cp_C1 (hd : i + 8 ≤ j ∨ j + 8 ≤ i) : (∀ o, 1 ≤ o → o ≤ 2 → ∀ k, k < 36 → (cp_C μ i j).1 (i + o) k = μ.1 (j + o) k) ∧ (∀ o, 3 ≤ o → o ≤ 5 → ∀ k, k < 20 → (cp_C μ i j).1 (i + o) k = μ.1 (j + o) k) ∧ (∀ k, k < 4 → (cp_C μ i j).1 (i + 6) k = μ.1 (j + 6) k) ∧ (cp_C μ i j).1 i 7 = μ.1 j 7 ∧ (cp_C μ i j).1 i 8 = μ.1 j 8 := by
  unfold cp_C
  refine ⟨fun o h1 h2 k hk => ?_, fun o h1 h2 k hk => ?_, fun k hk => ?_, ?_, ?_⟩
  · rcases (by omega : o = 1 ∨ o = 2) with rfl | rfl <;> simp (disch := omega) only [pb_o, pb_i, pb_Ko, pb_Ki, pb_sl1]
  · rcases (by omega : o = 3 ∨ o = 4 ∨ o = 5) with rfl | rfl | rfl <;> simp (disch := omega) only [pb_o, pb_i, pb_Ko, pb_Ki, pb_sl1]
  · simp (disch := omega) only [pb_o, pb_i, pb_Ko, pb_Ki, pb_sl1]
  · simp (disch := omega) only [pb_o, pb_i]
  · simp (disch := omega) only [pb_o, pb_i]
end
/-- the pipes -/
theorem cl_ncp (μ : dw_M) {i j N : Nat} (hd : i + 63 ≤ j ∨ j + 63 ≤ i) (hN : N ≤ 20) (cN : μ.1 (j + 10) 1 = nI N) : ∃ ρ, fX4_copyFrom μ (i + 10) (j + 10) = some ρ ∧ ρ.2 = μ.2 ∧ (∀ c k, (c < i + 10 ∨ i + 52 ≤ c) → ρ.1 c k = μ.1 c k) ∧ ρ.1 (i + 10) 1 = nI N ∧ ∀ q, q < N → (∀ k, 1 ≤ k → k < 6 → ρ.1 (i + (12 + 2 * q)) k = μ.1 (j + (12 + 2 * q)) k) ∧ ∀ k, k < 5 → ρ.1 (i + (13 + 2 * q)) k = μ.1 (j + (13 + 2 * q)) k := by
  obtain ⟨r, h1, h2, h3, h4⟩ := pb_inv (step := fun v : Int32 × dw_M => sX4_copyFrom_2 (i + 10) (j + 10) v.1 v.2) (fun p x => x.1 = nI p ∧ x.2.2 = μ.2 ∧ (∀ c k, (c < i + 12 ∨ i + 12 + 2 * p ≤ c) → x.2.1 c k = μ.1 c k) ∧ ∀ q, q < p → (∀ k, 1 ≤ k → k < 6 → x.2.1 (i + (12 + 2 * q)) k = μ.1 (j + (12 + 2 * q)) k) ∧ ∀ k, k < 5 → x.2.1 (i + (13 + 2 * q)) k = μ.1 (j + (13 + 2 * q)) k) N (fun ρ => ρ.2 = μ.2 ∧ (∀ c k, (c < i + 12 ∨ i + 52 ≤ c) → ρ.1 c k = μ.1 c k) ∧ ∀ q, q < N → (∀ k, 1 ≤ k → k < 6 → ρ.1 (i + (12 + 2 * q)) k = μ.1 (j + (12 + 2 * q)) k) ∧ ∀ k, k < 5 → ρ.1 (i + (13 + 2 * q)) k = μ.1 (j + (13 + 2 * q)) k) (fun p x hp hx => by
    obtain ⟨x, ρ⟩ := x
    obtain ⟨e1, e2, e3, e4⟩ := hx
    have e1 : x = nI p := e1
    have e2 : ρ.2 = μ.2 := e2
    have e3 : ∀ c k, (c < i + 12 ∨ i + 12 + 2 * p ≤ c) → ρ.1 c k = μ.1 c k := e3
    have e4 : ∀ q, q < p → (∀ k, 1 ≤ k → k < 6 → ρ.1 (i + (12 + 2 * q)) k = μ.1 (j + (12 + 2 * q)) k) ∧ ∀ k, k < 5 → ρ.1 (i + (13 + 2 * q)) k = μ.1 (j + (13 + 2 * q)) k := e4
    subst e1
    left
    refine ⟨(nI (p + 1), fX5_copyFrom ρ (i + 10 + 1 + 1 + 2 * p) (j + 10 + 1 + 1 + 2 * p)), ?_, rfl, ?_, ?_, ?_⟩
    · show sX4_copyFrom_2 (i + 10) (j + 10) (nI p) ρ = _
      unfold sX4_copyFrom_2
      rw [e3 _ _ (by omega), cN, if_neg (nI_ge hp (by omega)), pb_gd (pb_ok rfl (by omega) (by decide)), pb_cl rfl (by omega), nI_1]
      rfl
    · show (fX5_copyFrom ρ (i + 10 + 1 + 1 + 2 * p) (j + 10 + 1 + 1 + 2 * p)).2 = μ.2
      rw [← e2]
      rfl
    · intro c k hc
      show (fX5_copyFrom ρ (i + 10 + 1 + 1 + 2 * p) (j + 10 + 1 + 1 + 2 * p)).1 c k = _
      unfold fX5_copyFrom fX3_copyFrom fX3_set
      simp only [dw_nm]
      simp (disch := omega) only [pb_o]
      exact e3 c k (by omega)
    · intro q hq
      show (∀ k, 1 ≤ k → k < 6 → (fX5_copyFrom ρ (i + 10 + 1 + 1 + 2 * p) (j + 10 + 1 + 1 + 2 * p)).1 (i + (12 + 2 * q)) k = μ.1 (j + (12 + 2 * q)) k) ∧ ∀ k, k < 5 → (fX5_copyFrom ρ (i + 10 + 1 + 1 + 2 * p) (j + 10 + 1 + 1 + 2 * p)).1 (i + (13 + 2 * q)) k = μ.1 (j + (13 + 2 * q)) k
      unfold fX5_copyFrom fX3_copyFrom fX3_set
      simp only [dw_nm]
      by_cases e : q = p
      · subst e
        rw [show i + 10 + 1 + 1 + 2 * q + 1 = i + (13 + 2 * q) by omega, show i + 10 + 1 + 1 + 2 * q = i + (12 + 2 * q) by omega, show j + 10 + 1 + 1 + 2 * q + 1 = j + (13 + 2 * q) by omega, show j + 10 + 1 + 1 + 2 * q = j + (12 + 2 * q) by omega]
        refine ⟨fun k k1 k2 => ?_, fun k k2 => ?_⟩
        · rcases (by omega : k = 1 ∨ k = 2 ∨ k = 3 ∨ k = 4 ∨ k = 5) with rfl | rfl | rfl | rfl | rfl <;> (simp (disch := omega) only [pb_o, pb_i]; exact e3 _ _ (by omega))
        · rcases (by omega : k = 0 ∨ k = 1 ∨ k = 2 ∨ k = 3 ∨ k = 4) with rfl | rfl | rfl | rfl | rfl <;> (simp (disch := omega) only [pb_o, pb_i]; exact e3 _ _ (by omega))
      · simp (disch := omega) only [pb_o]
        exact e4 q (by omega)) (fun x hx => by
    obtain ⟨x, ρ⟩ := x
    obtain ⟨e1, e2, e3, e4⟩ := hx
    have e1 : x = nI N := e1
    have e3 : ∀ c k, (c < i + 12 ∨ i + 12 + 2 * N ≤ c) → ρ.1 c k = μ.1 c k := e3
    subst e1
    refine ⟨ρ, ?_, e2, fun c k hc => e3 c k (by omega), e4⟩
    show sX4_copyFrom_2 (i + 10) (j + 10) (nI N) ρ = _
    unfold sX4_copyFrom_2
    rw [e3 _ _ (by omega), cN, if_pos (nI_le (Nat.le_refl _) (by omega))]) (fuel := 1000) (by omega) (x := ((0 : Int32), μ)) ⟨rfl, rfl, fun _ _ _ => rfl, fun q hq => absurd hq (by omega)⟩
  unfold fX4_copyFrom
  rw [pb_bd h1]
  refine ⟨dw_st r (i + 10) 1 (r.1 (j + 10) 1), rfl, h2, fun c k hc => ?_, ?_, fun q hq => ?_⟩
  · rw [pb_o (by omega)]
    exact h3 c k (by omega)
  · rw [pb_i, h3 _ _ (by omega), cN]
  · simp (disch := omega) only [pb_o]
    exact h4 q hq
/-- a sheet copied -/
theorem cl_cp (μ : dw_M) {i j N : Nat} (hd : (i = 64 ∧ j = 1) ∨ (i = 1 ∧ j = 64)) (hN : N ≤ 20) (cN : μ.1 (j + 10) 1 = nI N) : ∃ ν, fX6_copyFrom μ i j = some ν ∧ (∀ c k, (c < i ∨ i + 63 ≤ c) → ν.1 c k = μ.1 c k) ∧ (∀ c, (c < i ∨ i + 63 ≤ c) → ν.2 c = μ.2 c) ∧ (ν.1 (i + 1) 0 = μ.1 (j + 1) 0 ∧ ν.1 (i + 1) 1 = μ.1 (j + 1) 1 ∧ (∀ k, k < 36 → ν.1 (i + 2) k = μ.1 (j + 2) k) ∧ (∀ k, k < 36 → ν.1 (i + 3) k = μ.1 (j + 3) k) ∧ ∀ o, 4 ≤ o → o ≤ 8 → ∀ k, k < 4 → ν.1 (i + o) k = μ.1 (j + o) k) ∧ (∀ k, k < 5 → ν.1 (i + 9) k = μ.1 (j + 9) k) ∧ ν.1 (i + 10) 1 = nI N ∧ (∀ q, q < N → (∀ k, 1 ≤ k → k < 6 → ν.1 (i + (12 + 2 * q)) k = μ.1 (j + (12 + 2 * q)) k) ∧ ∀ k, k < 5 → ν.1 (i + (13 + 2 * q)) k = μ.1 (j + (13 + 2 * q)) k) ∧ ((∀ o, 1 ≤ o → o ≤ 2 → ∀ k, k < 36 → ν.1 (i + 52 + o) k = μ.1 (j + 52 + o) k) ∧ (∀ o, 3 ≤ o → o ≤ 5 → ∀ k, k < 20 → ν.1 (i + 52 + o) k = μ.1 (j + 52 + o) k) ∧ (∀ k, k < 4 → ν.1 (i + 52 + 6) k = μ.1 (j + 52 + 6) k) ∧ ν.1 (i + 52) 7 = μ.1 (j + 52) 7 ∧ ν.1 (i + 52) 8 = μ.1 (j + 52) 8) ∧ (∀ k, k < 36 → ν.1 (i + 60) k = μ.1 (j + 60) k) ∧ ν.2 (i + 59) = μ.2 (j + 59) ∧ ν.2 (i + 61) = μ.2 (j + 61) ∧ ν.2 (i + 62) = μ.2 (j + 62) := by
  have hdd : i + 63 ≤ j ∨ j + 63 ≤ i := by omega
  have hA : fX1_copyFrom μ (i + 1) (j + 1) = some (cp_A μ i j) := by
    have e : ∀ o, dw_ln (i + 1 + o) = dw_ln (2 + o) ∧ dw_ln (j + 1 + o) = dw_ln (2 + o) ∨ o = 0 ∨ 8 ≤ o := by
      intro o
      by_cases ho : o = 0 ∨ 8 ≤ o
      · exact Or.inr ho
      · left
        rcases (by omega : o = 1 ∨ o = 2 ∨ o = 3 ∨ o = 4 ∨ o = 5 ∨ o = 6 ∨ o = 7) with rfl | rfl | rfl | rfl | rfl | rfl | rfl <;> rcases hd with ⟨rfl, rfl⟩ | ⟨rfl, rfl⟩ <;> decide
    have l : ∀ o n, dw_ln (2 + o) = n → 1 ≤ o → o < 8 → dw_ln (j + 1 + o) = n ∧ dw_ln (i + 1 + o) = n := by
      intro o n h h1 h2
      rcases e o with h3 | h3
      · rw [h3.1, h3.2]; exact ⟨h, h⟩
      · omega
    have l1 := l 1 36 (by decide) (by omega) (by omega)
    have l2 := l 2 36 (by decide) (by omega) (by omega)
    have l3 := l 3 4 (by decide) (by omega) (by omega)
    have l4 := l 4 4 (by decide) (by omega) (by omega)
    have l5 := l 5 4 (by decide) (by omega) (by omega)
    have l6 := l 6 4 (by decide) (by omega) (by omega)
    have l7 := l 7 4 (by decide) (by omega) (by omega)
    unfold fX1_copyFrom
    simp only [dw_nm]
    rw [pb_bd (pb_cpy _ l1.1 l1.2 (by omega) (by decide)), pb_bd (pb_cpy _ l2.1 l2.2 (by omega) (by decide)), pb_bd (pb_cpy _ l3.1 l3.2 (by omega) (by decide)), pb_bd (pb_cpy _ l4.1 l4.2 (by omega) (by decide)), pb_bd (pb_cpy _ l5.1 l5.2 (by omega) (by decide)), pb_bd (pb_cpy _ l6.1 l6.2 (by omega) (by decide)), pb_bd (pb_cpy _ l7.1 l7.2 (by omega) (by decide)), pb_o (by omega)]
    rfl
  have hB : ∀ ρ : dw_M, fX3_copyFrom ρ (i + 9) (j + 9) = cp_B ρ i j := fun ρ => rfl
  obtain ⟨a1, a2, a3, a4, a5⟩ := cp_A1 μ (i := i) (j := j) hdd
  have b0 : ∀ c k, (c < i + 1 ∨ i + 10 ≤ c) → (cp_B (cp_A μ i j) i j).1 c k = μ.1 c k := fun c k h => by rw [cp_Bo _ _ _ (by omega), cp_Ao _ _ _ (by omega)]
  obtain ⟨ρ, hρ, r2, r3, r4, r5⟩ := cl_ncp (cp_B (cp_A μ i j) i j) hdd hN (by rw [b0 _ _ (by omega)]; exact cN)
  have hC : fX8_copyFrom ρ (i + 52) (j + 52) = some (cp_C ρ (i + 52) (j + 52)) := cl_wcp ρ (by omega) (by rcases hd with ⟨rfl, rfl⟩ | ⟨rfl, rfl⟩ <;> decide) (by rcases hd with ⟨rfl, rfl⟩ | ⟨rfl, rfl⟩ <;> decide)
  have hD : ∀ ρ : dw_M, fX9_copy ρ (j + 60) (i + 60) = some (pb_K ρ (j + 60) (i + 60) 36) := fun ρ => pb_cpy ρ (by rcases hd with ⟨rfl, rfl⟩ | ⟨rfl, rfl⟩ <;> decide) (by rcases hd with ⟨rfl, rfl⟩ | ⟨rfl, rfl⟩ <;> decide) (by omega) (by decide)
  obtain ⟨c1, c2, c3, c4, c5⟩ := cp_C1 ρ (i := i + 52) (j := j + 52) (by omega)
  have cl := fun c => cp_Cl ρ (i := i + 52) (j := j + 52) c
  have co := fun c k h => cp_Co ρ (i := i + 52) (j := j + 52) c k h
  have hμ2 : (cp_B (cp_A μ i j) i j).2 = μ.2 := rfl
  rw [hμ2] at r2
  generalize hS : cp_C ρ (i + 52) (j + 52) = S at *
  refine ⟨dw_sl (dw_sl (pb_K S (j + 60) (i + 60) 36) (i + 61) (S.2 (j + 61))) (i + 62) (S.2 (j + 62)), ?_, ?_⟩
  · unfold fX6_copyFrom
    rw [pb_bd hA]
    simp only [dw_nm]
    rw [hB, pb_bd hρ, pb_bd hC, pb_bd (hD S)]
    unfold fX2_copyFrom
    simp only [dw_nm]
    rw [pb_sl2, if_neg (by omega)]
    rfl
  have low : ∀ c k, c ≠ i + 60 → (dw_sl (dw_sl (pb_K S (j + 60) (i + 60) 36) (i + 61) (S.2 (j + 61))) (i + 62) (S.2 (j + 62))).1 c k = S.1 c k := by
    intro c k h
    rw [pb_sl1, pb_sl1, pb_Ko (by omega)]
  have x60 : ∀ k, k < 36 → (dw_sl (dw_sl (pb_K S (j + 60) (i + 60) 36) (i + 61) (S.2 (j + 61))) (i + 62) (S.2 (j + 62))).1 (i + 60) k = S.1 (j + 60) k := by
    intro k h
    rw [pb_sl1, pb_sl1, pb_Ki h]
  have lg : ∀ c, (dw_sl (dw_sl (pb_K S (j + 60) (i + 60) 36) (i + 61) (S.2 (j + 61))) (i + 62) (S.2 (j + 62))).2 c = if c = i + 62 then S.2 (j + 62) else if c = i + 61 then S.2 (j + 61) else S.2 c := fun c => rfl
  generalize dw_sl (dw_sl (pb_K S (j + 60) (i + 60) 36) (i + 61) (S.2 (j + 61))) (i + 62) (S.2 (j + 62)) = ν at *
  refine ⟨fun c k h => ?_, fun c h => ?_, ⟨?_, ?_, fun k hk => ?_, fun k hk => ?_, fun o h1 h2 k hk => ?_⟩, fun k hk => ?_, ?_, fun q hq => ⟨fun k k1 k2 => ?_, fun k k2 => ?_⟩, ⟨fun o h1 h2 k hk => ?_, fun o h1 h2 k hk => ?_, fun k hk => ?_, ?_, ?_⟩, fun k hk => ?_, ?_, ?_, ?_⟩
  · rw [low c k (by omega), co c k (by omega), r3 c k (by omega), b0 c k (by omega)]
  · rw [lg, if_neg (by omega), if_neg (by omega), cl, if_neg (by omega), r2]
  · rw [low _ _ (by omega), co _ _ (by omega), r3 _ _ (by omega), cp_Bo _ _ _ (by omega), a1]
  · rw [low _ _ (by omega), co _ _ (by omega), r3 _ _ (by omega), cp_Bo _ _ _ (by omega), a2]
  · rw [low _ _ (by omega), co _ _ (by omega), r3 _ _ (by omega), cp_Bo _ _ _ (by omega), a3 k hk]
  · rw [low _ _ (by omega), co _ _ (by omega), r3 _ _ (by omega), cp_Bo _ _ _ (by omega), a4 k hk]
  · rw [low _ _ (by omega), co _ _ (by omega), r3 _ _ (by omega), cp_Bo _ _ _ (by omega), a5 o h1 h2 k hk]
  · rw [low _ _ (by omega), co _ _ (by omega), r3 _ _ (by omega), cp_B1 _ _ hk, cp_Ao _ _ _ (by omega)]
  · rw [low _ _ (by omega), co _ _ (by omega), r4]
  · rw [low _ _ (by omega), co _ _ (by omega), (r5 q hq).1 k k1 k2, b0 _ _ (by omega)]
  · rw [low _ _ (by omega), co _ _ (by omega), (r5 q hq).2 k k2, b0 _ _ (by omega)]
  · rw [low _ _ (by omega), c1 o h1 h2 k hk, r3 _ _ (by omega), b0 _ _ (by omega)]
  · rw [low _ _ (by omega), c2 o h1 h2 k hk, r3 _ _ (by omega), b0 _ _ (by omega)]
  · rw [low _ _ (by omega), c3 k hk, r3 _ _ (by omega), b0 _ _ (by omega)]
  · rw [low _ _ (by omega), c4, r3 _ _ (by omega), b0 _ _ (by omega)]
  · rw [low _ _ (by omega), c5, r3 _ _ (by omega), b0 _ _ (by omega)]
  · rw [x60 k hk, co _ _ (by omega), r3 _ _ (by omega), b0 _ _ (by omega)]
  · rw [lg, if_neg (by omega), if_neg (by omega), cl, if_pos (by omega), show j + 52 + 7 = j + 59 by omega, r2]
  · rw [lg, if_neg (by omega), if_pos rfl, cl, if_neg (by omega), r2]
  · rw [lg, if_pos rfl, cl, if_neg (by omega), r2]
