def nd (x y : Nat) : Nat := (x - y) + (y - x)
theorem nd_ab {x y : Nat} (hx : x < 100000) (hy : y < 100000) : dw_ab (nI x - nI y) = nI (nd x y) := by
  unfold dw_ab nd
  have h := pk_sub_toInt (a := x) (b := y) (by omega) (by omega)
  by_cases c : y ≤ x
  · rw [if_pos (by rw [fa_le, h]; have : (0 : Int32).toInt = 0 := rfl; omega), pk_sub c]
    congr 1
    omega
  · rw [if_neg (by rw [fa_le, h]; have : (0 : Int32).toInt = 0 := rfl; omega), Int32.zero_sub, Int32.neg_sub, pk_sub (by omega)]
    congr 1
    omega
theorem nd_size {x y : Nat} (hx : x < 100000) (hy : y < 100000) : fX10_size (nI x - nI y) = nI (nd x y) := by
  rw [← nd_ab hx hy]
  unfold fX10_size dw_ab
  rw [Int32.zero_sub]
theorem pv_row9 {μ : dw_M} {C : Nat} (cC : μ.1 2 0 = nI C) (h1 : 1 ≤ C) (h6 : C ≤ 6) {a : Nat} (ha : a < 100000) : fX1_rowOf μ (nI a) = some (nI (a / C)) := by
  unfold fX1_rowOf
  rw [cC, if_neg (nI_nle (by omega) (by omega)), pb_gd (pb_nz rfl (by omega) (by omega)), pk_div (by omega) (by omega) (by omega)]
theorem pv_ra9 {μ : dw_M} {C : Nat} (cC : μ.1 2 0 = nI C) (h1 : 1 ≤ C) (h6 : C ≤ 6) {a b : Nat} (ha : a < 10000) (hb : b < 10000) : fX1_rowsApart μ (nI a) (nI b) = some (nI (nd (a / C) (b / C))) := by
  unfold fX1_rowsApart
  have h3 := Nat.div_le_self a C
  have h4 := Nat.div_le_self b C
  rw [pb_bd (pv_row9 cC h1 h6 (by omega)), pb_bd (pv_row9 cC h1 h6 (by omega)), nd_ab (by omega) (by omega)]
theorem pv_md {a C : Nat} : nI a - nI (a / C) * nI C = nI (a % C) := by
  rw [pk_mul, pk_sub (Nat.div_mul_le_self a C)]
  congr 1
  have := Nat.div_add_mod a C
  have h : a / C * C = C * (a / C) := Nat.mul_comm _ _
  omega
theorem pv_ca9 {μ : dw_M} {C : Nat} (cC : μ.1 2 0 = nI C) (h1 : 1 ≤ C) (h6 : C ≤ 6) {a b : Nat} (ha : a < 10000) (hb : b < 10000) : fX1_columnsApart μ (nI a) (nI b) = some (nI (nd (a % C) (b % C))) := by
  unfold fX1_columnsApart
  have h3 := Nat.mod_le a C
  have h4 := Nat.mod_le b C
  rw [pb_bd (pv_row9 cC h1 h6 (by omega)), pb_bd (pv_row9 cC h1 h6 (by omega)), cC, pv_md, pv_md, nd_ab (by omega) (by omega)]
theorem pv_row10 {μ : dw_M} {C : Nat} (cC : μ.1 143 1 = nI C) (h1 : 1 ≤ C) (h6 : C ≤ 6) {a : Nat} (ha : a < 100000) : fX10_rowOf μ (nI a) = some (nI (a / C)) := by
  unfold fX10_rowOf
  rw [pv_c1, cC, pb_gd (pb_nz rfl (by omega) (by omega)), pk_div (by omega) (by omega) (by omega)]
theorem pv_col10 {μ : dw_M} {C : Nat} (cC : μ.1 143 1 = nI C) (h1 : 1 ≤ C) (h6 : C ≤ 6) {a : Nat} (ha : a < 100000) : fX10_columnOf μ (nI a) = some (nI (a % C)) := by
  unfold fX10_columnOf
  rw [pv_c1, cC, pb_gd (pb_nz rfl (by omega) (by omega))]
  unfold dw_re
  rw [pk_div (by omega) (by omega) (by omega), pv_md]
/-- the line between two places of one row or column -/
def ge_s (C a b : Nat) : Nat := if a / C = b / C then 1 else C
def ge_m (C a b : Nat) : Nat := nd (a / C) (b / C) + nd (a % C) (b % C) + 1
theorem ge_1 {R C a b k : Nat} (hC : 1 ≤ C) (hC6 : C ≤ 6) (hR : R ≤ 6) (ha : a < R * C) (hb : b < R * C) (hin : a / C = b / C ∨ a % C = b % C) (ne : a ≠ b) : 2 ≤ ge_m C a b ∧ ge_m C a b ≤ 6 ∧ (k < ge_m C a b → (b ≤ a → k * ge_s C a b ≤ a) ∧ (a ≤ b → a + k * ge_s C a b ≤ b)) := by
  unfold ge_m ge_s nd
  rcases (by omega : C = 1 ∨ C = 2 ∨ C = 3 ∨ C = 4 ∨ C = 5 ∨ C = 6) with rfl | rfl | rfl | rfl | rfl | rfl
  all_goals (split <;> omega)
theorem rl_sr_n {C a b : Nat} (hC : 1 ≤ C) (hC6 : C ≤ 6) (ha : a < 10000) (hb : b < 10000) : rl_sr (nI C) (nI a) (nI b) = if b ≤ a then -(nI (ge_s C a b)) else nI (ge_s C a b) := by
  unfold rl_sr ge_s
  have h3 := Nat.div_le_self a C
  have h4 := Nat.div_le_self b C
  rw [pk_div (by omega) (by omega) (by omega), pk_div (by omega) (by omega) (by omega)]
  have e1 : (nI b ≤ nI a) ↔ b ≤ a := nI_leI (by omega) (by omega)
  have e2 : (nI (a / C) = nI (b / C)) ↔ a / C = b / C := nI_eq (by omega) (by omega)
  by_cases c1 : b ≤ a <;> by_cases c2 : a / C = b / C <;> simp [e1, e2, c1, c2] <;> rfl
theorem ge_ln {R C a b : Nat} (hC : 1 ≤ C) (hC6 : C ≤ 6) (hR : R ≤ 6) (ha : a < R * C) (hb : b < R * C) (h36 : R * C ≤ 36) (hin : a / C = b / C ∨ a % C = b % C) (ne : a ≠ b) : ∃ m, 2 ≤ m ∧ m ≤ 6 ∧ nI (ge_m C a b) = nI m ∧ ∃ pl : Nat → Nat, (∀ k, k < m → pl k < R * C ∧ nI a + nI k * rl_sr (nI C) (nI a) (nI b) = nI (pl k)) ∧ ∀ j k, j < m → k < m → pl j = pl k → j = k := by
  have h := fun k => ge_1 (k := k) hC hC6 hR ha hb hin ne
  have hs : 0 < ge_s C a b := by
    unfold ge_s
    split <;> omega
  refine ⟨ge_m C a b, (h 0).1, (h 0).2.1, rfl, fun k => if b ≤ a then a - k * ge_s C a b else a + k * ge_s C a b, fun k hk => ?_, fun j k hj hk e => ?_⟩
  · have h2 := (h k).2.2 hk
    rw [rl_sr_n hC hC6 (by omega) (by omega)]
    by_cases c : b ≤ a
    · simp only [if_pos c]
      refine ⟨by omega, ?_⟩
      rw [Int32.mul_neg, ← Int32.sub_eq_add_neg, pk_mul, pk_sub (h2.1 c)]
    · simp only [if_neg c]
      have := h2.2 (by omega)
      refine ⟨by omega, ?_⟩
      rw [pk_mul, nI_add]
  · have h2 := (h k).2.2 hk
    have h3 := (h j).2.2 hj
    by_cases c : b ≤ a
    · simp only [if_pos c] at e
      have h4 := h2.1 c
      have h5 := h3.1 c
      exact Nat.eq_of_mul_eq_mul_right hs (by omega)
    · simp only [if_neg c] at e
      exact Nat.eq_of_mul_eq_mul_right hs (by omega)
theorem nd_0 {x y : Nat} (hx : x < 100000) (hy : y < 100000) : nI (nd x y) = 0 ↔ x = y := by
  rw [show (0 : Int32) = nI 0 from rfl, nI_eq (by unfold nd; omega) (by omega)]
  unfold nd
  omega
