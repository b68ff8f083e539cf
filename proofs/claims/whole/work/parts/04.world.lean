/-! the world: 148 cells of fixed kinds; a memory gives the int slots and the long of each -/
abbrev dw_M : Type := (Nat → Nat → Int32) × (Nat → Int64)
abbrev dw_G : Type := va_G × ClassId × ClassId × (Nat → Nat)
abbrev dw_ad (Γ : dw_G) (i : Nat) : Nat := Γ.2.2.2 i
def dw_st (μ : dw_M) (i k : Nat) (x : Int32) : dw_M := (fun a => if a = i then upd (μ.1 a) k x else μ.1 a, μ.2)
def dw_sl (μ : dw_M) (i : Nat) (x : Int64) : dw_M := (μ.1, fun a => if a = i then x else μ.2 a)
def dw_kl : List Nat := [9, 6, 1, 11, 11, 11, 11, 11, 11, 11, 3, 4, 12, 5, 3, 5, 3, 5, 3, 5, 3, 5, 3, 5, 3, 5, 3, 5, 3, 5, 3, 5, 3, 5, 3, 5, 3, 5, 3, 5, 3, 5, 3, 5, 3, 5, 3, 5, 3, 5, 3, 5, 3, 8, 11, 11, 11, 11, 11, 11, 2, 11, 2, 2, 6, 1, 11, 11, 11, 11, 11, 11, 11, 3, 4, 12, 5, 3, 5, 3, 5, 3, 5, 3, 5, 3, 5, 3, 5, 3, 5, 3, 5, 3, 5, 3, 5, 3, 5, 3, 5, 3, 5, 3, 5, 3, 5, 3, 5, 3, 5, 3, 5, 3, 5, 3, 8, 11, 11, 11, 11, 11, 11, 2, 11, 2, 2, 8, 11, 11, 11, 11, 11, 11, 2, 0, 11, 11, 11, 7, 11, 11, 10, 11, 11, 11, 11, 11]
def dw_ll : List Nat := [0, 0, 0, 36, 36, 4, 4, 4, 4, 4, 0, 0, 20, 0, 0, 0, 0, 0, 0, 0, 0, 0, 0, 0, 0, 0, 0, 0, 0, 0, 0, 0, 0, 0, 0, 0, 0, 0, 0, 0, 0, 0, 0, 0, 0, 0, 0, 0, 0, 0, 0, 0, 0, 0, 36, 36, 20, 20, 20, 4, 0, 36, 0, 0, 0, 0, 36, 36, 4, 4, 4, 4, 4, 0, 0, 20, 0, 0, 0, 0, 0, 0, 0, 0, 0, 0, 0, 0, 0, 0, 0, 0, 0, 0, 0, 0, 0, 0, 0, 0, 0, 0, 0, 0, 0, 0, 0, 0, 0, 0, 0, 0, 0, 0, 0, 0, 0, 36, 36, 20, 20, 20, 4, 0, 36, 0, 0, 0, 36, 36, 20, 20, 20, 4, 0, 0, 20, 36, 720, 0, 36, 36, 0, 800, 800, 800, 36, 36]
def dw_kd (i : Nat) : Nat := dw_kl.getD i 99
def dw_ln (i : Nat) : Nat := dw_ll.getD i 0
def dw_f0 (Γ : dw_G) (i : Nat) (f : Nat → Int32) (g : Int64) : List Value := [.ref (dw_ad Γ (i + 1)), .int (f 1), .ref (dw_ad Γ (i + 2)), .ref (dw_ad Γ (i + 3))]
def dw_f1 (Γ : dw_G) (i : Nat) (f : Nat → Int32) (g : Int64) : List Value := [.int (f 0), .int (f 1), .ref (dw_ad Γ (i + 1)), .ref (dw_ad Γ (i + 2)), .ref (dw_ad Γ (i + 3)), .ref (dw_ad Γ (i + 4)), .ref (dw_ad Γ (i + 5)), .ref (dw_ad Γ (i + 6)), .ref (dw_ad Γ (i + 7))]
def dw_f2 (Γ : dw_G) (i : Nat) (f : Nat → Int32) (g : Int64) : List Value := [.long g]
def dw_f3 (Γ : dw_G) (i : Nat) (f : Nat → Int32) (g : Int64) : List Value := [.int (f 0), .int (f 1), .int (f 2), .int (f 3), .int (f 4)]
def dw_f4 (Γ : dw_G) (i : Nat) (f : Nat → Int32) (g : Int64) : List Value := [.ref (dw_ad Γ (i + 1)), .int (f 1)]
def dw_f5 (Γ : dw_G) (i : Nat) (f : Nat → Int32) (g : Int64) : List Value := [.ref (dw_ad Γ (i + 1)), .int (f 1), .int (f 2), .int (f 3), .int (f 4), .int (f 5)]
def dw_f6 (Γ : dw_G) (i : Nat) (f : Nat → Int32) (g : Int64) : List Value := [.ref (dw_ad Γ (i + 1)), .ref (dw_ad Γ (i + 9)), .ref (dw_ad Γ (i + 10)), .ref (dw_ad Γ (i + 52)), .ref (dw_ad Γ (i + 60)), .ref (dw_ad Γ (i + 61)), .ref (dw_ad Γ (i + 62))]
def dw_f7 (Γ : dw_G) (i : Nat) (f : Nat → Int32) (g : Int64) : List Value := [.ref (dw_ad Γ (i + 1)), .ref (dw_ad Γ (i + 2)), .int (f 2), .int (f 3), .int (f 4), .int (f 5), .int (f 6), .int (f 7)]
def dw_f8 (Γ : dw_G) (i : Nat) (f : Nat → Int32) (g : Int64) : List Value := [.ref (dw_ad Γ (i + 1)), .ref (dw_ad Γ (i + 2)), .ref (dw_ad Γ (i + 3)), .ref (dw_ad Γ (i + 4)), .ref (dw_ad Γ (i + 5)), .ref (dw_ad Γ (i + 6)), .ref (dw_ad Γ (i + 7)), .int (f 7), .int (f 8)]
def dw_f9 (Γ : dw_G) (i : Nat) (f : Nat → Int32) (g : Int64) : List Value := [.ref (dw_ad Γ (i + 1)), .ref (dw_ad Γ (i + 64)), .int (f 2), .ref (dw_ad Γ (i + 127)), .ref (dw_ad Γ (i + 135)), .ref (dw_ad Γ (i + 139))]
def dw_f10 (Γ : dw_G) (i : Nat) (f : Nat → Int32) (g : Int64) : List Value := [.ref (dw_ad Γ (i + 1)), .ref (dw_ad Γ (i + 2)), .ref (dw_ad Γ (i + 3)), .int (f 3), .ref (dw_ad Γ (i + 4)), .ref (dw_ad Γ (i + 5)), .int (f 6)]
def dw_pa (Γ : dw_G) (i : Nat) : Nat → Option Nat := fun p => if p < 20 then some (dw_ad Γ (i + 1 + 2 * p)) else none
def dw_cz (Γ : dw_G) (i : Nat) (f : Nat → Int32) (g : Int64) : va_E := match dw_kd i with
  | 0 => .inr (0, dw_f0 Γ i f g)
  | 1 => .inr (1, dw_f1 Γ i f g)
  | 2 => .inr (2, dw_f2 Γ i f g)
  | 3 => .inr (3, dw_f3 Γ i f g)
  | 4 => .inr (4, dw_f4 Γ i f g)
  | 5 => .inr (5, dw_f5 Γ i f g)
  | 6 => .inr (6, dw_f6 Γ i f g)
  | 7 => .inr (7, dw_f7 Γ i f g)
  | 8 => .inr (8, dw_f8 Γ i f g)
  | 9 => .inr (9, dw_f9 Γ i f g)
  | 10 => .inr (10, dw_f10 Γ i f g)
  | 11 => .inl (Γ.2.1, dw_ln i, .inl f)
  | _ => .inl (Γ.2.2.1, 20, .inr (.inr (.inr (.inr (dw_pa Γ i)))))
theorem dw_cz0 {Γ : dw_G} {i : Nat} {f : Nat → Int32} {g : Int64} (h : dw_kd i = 0) : dw_cz Γ i f g = .inr (0, dw_f0 Γ i f g) := by unfold dw_cz; rw [h]; rfl
theorem dw_cz1 {Γ : dw_G} {i : Nat} {f : Nat → Int32} {g : Int64} (h : dw_kd i = 1) : dw_cz Γ i f g = .inr (1, dw_f1 Γ i f g) := by unfold dw_cz; rw [h]; rfl
theorem dw_cz2 {Γ : dw_G} {i : Nat} {f : Nat → Int32} {g : Int64} (h : dw_kd i = 2) : dw_cz Γ i f g = .inr (2, dw_f2 Γ i f g) := by unfold dw_cz; rw [h]; rfl
theorem dw_cz3 {Γ : dw_G} {i : Nat} {f : Nat → Int32} {g : Int64} (h : dw_kd i = 3) : dw_cz Γ i f g = .inr (3, dw_f3 Γ i f g) := by unfold dw_cz; rw [h]; rfl
theorem dw_cz4 {Γ : dw_G} {i : Nat} {f : Nat → Int32} {g : Int64} (h : dw_kd i = 4) : dw_cz Γ i f g = .inr (4, dw_f4 Γ i f g) := by unfold dw_cz; rw [h]; rfl
theorem dw_cz5 {Γ : dw_G} {i : Nat} {f : Nat → Int32} {g : Int64} (h : dw_kd i = 5) : dw_cz Γ i f g = .inr (5, dw_f5 Γ i f g) := by unfold dw_cz; rw [h]; rfl
theorem dw_cz6 {Γ : dw_G} {i : Nat} {f : Nat → Int32} {g : Int64} (h : dw_kd i = 6) : dw_cz Γ i f g = .inr (6, dw_f6 Γ i f g) := by unfold dw_cz; rw [h]; rfl
theorem dw_cz7 {Γ : dw_G} {i : Nat} {f : Nat → Int32} {g : Int64} (h : dw_kd i = 7) : dw_cz Γ i f g = .inr (7, dw_f7 Γ i f g) := by unfold dw_cz; rw [h]; rfl
theorem dw_cz8 {Γ : dw_G} {i : Nat} {f : Nat → Int32} {g : Int64} (h : dw_kd i = 8) : dw_cz Γ i f g = .inr (8, dw_f8 Γ i f g) := by unfold dw_cz; rw [h]; rfl
theorem dw_cz9 {Γ : dw_G} {i : Nat} {f : Nat → Int32} {g : Int64} (h : dw_kd i = 9) : dw_cz Γ i f g = .inr (9, dw_f9 Γ i f g) := by unfold dw_cz; rw [h]; rfl
theorem dw_cz10 {Γ : dw_G} {i : Nat} {f : Nat → Int32} {g : Int64} (h : dw_kd i = 10) : dw_cz Γ i f g = .inr (10, dw_f10 Γ i f g) := by unfold dw_cz; rw [h]; rfl
theorem dw_cz11 {Γ : dw_G} {i : Nat} {f : Nat → Int32} {g : Int64} (h : dw_kd i = 11) : dw_cz Γ i f g = .inl (Γ.2.1, dw_ln i, .inl f) := by unfold dw_cz; rw [h]; rfl
theorem dw_cz12 {Γ : dw_G} {i : Nat} {f : Nat → Int32} {g : Int64} (h : dw_kd i = 12) : dw_cz Γ i f g = .inl (Γ.2.2.1, 20, .inr (.inr (.inr (.inr (dw_pa Γ i))))) := by unfold dw_cz; rw [h]; rfl
theorem dw_lt {i k : Nat} (h : dw_kd i = k) (hk : k < 99) : i < 148 := by
  rcases Nat.lt_or_ge i 148 with q | q
  · exact q
  · have e : dw_kd i = 99 := by
      unfold dw_kd
      rw [List.getD_eq_getElem?_getD, List.getElem?_eq_none (show dw_kl.length ≤ i from Nat.le_trans (by decide +kernel) q)]
      rfl
    omega
def dw_wl (Γ : dw_G) (μ : dw_M) : va_W := (List.range 148).map (fun i => (dw_ad Γ i, dw_cz Γ i (μ.1 i) (μ.2 i)))
theorem dw_at {Γ : dw_G} {μ : dw_M} {i : Nat} (h : i < 148) : (dw_wl Γ μ)[i]? = some (dw_ad Γ i, dw_cz Γ i (μ.1 i) (μ.2 i)) := by
  unfold dw_wl
  rw [List.getElem?_map, List.getElem?_range h]
  rfl
theorem dw_len (Γ : dw_G) (μ : dw_M) : (dw_wl Γ μ).length = 148 := by simp [dw_wl]
theorem dw_set {Γ : dw_G} {μ ν : dw_M} {i : Nat} {E : va_E} (h : i < 148) (hE : E = dw_cz Γ i (ν.1 i) (ν.2 i)) (h1 : ∀ j, j ≠ i → ν.1 j = μ.1 j) (h2 : ∀ j, j ≠ i → ν.2 j = μ.2 j) : (dw_wl Γ μ).set i (dw_ad Γ i, E) = dw_wl Γ ν := by
  apply List.ext_getElem?
  intro j
  by_cases e : j = i
  · subst e
    rw [List.getElem?_set_self (by rw [dw_len]; exact h), dw_at h, hE]
  · rw [List.getElem?_set_ne (Ne.symm e)]
    rcases Nat.lt_or_ge j 148 with q | q
    · rw [dw_at q, dw_at q, h1 j e, h2 j e]
    · rw [List.getElem?_eq_none (by rw [dw_len]; exact q), List.getElem?_eq_none (by rw [dw_len]; exact q)]
theorem dw_st_at (μ : dw_M) (i k : Nat) (x : Int32) : (dw_st μ i k x).1 i = upd (μ.1 i) k x := by simp [dw_st]
theorem dw_st_ne (μ : dw_M) (i k : Nat) (x : Int32) : ∀ j, j ≠ i → (dw_st μ i k x).1 j = μ.1 j := fun j h => by simp [dw_st, h]
theorem dw_sl_at (μ : dw_M) (i : Nat) (x : Int64) : (dw_sl μ i x).2 i = x := by simp [dw_sl]
theorem dw_sl_ne (μ : dw_M) (i : Nat) (x : Int64) : ∀ j, j ≠ i → (dw_sl μ i x).2 j = μ.2 j := fun j h => by simp [dw_sl, h]
def dw_inj (Γ : dw_G) : Prop := ∀ i j : Nat, i < 148 → j < 148 → dw_ad Γ i = dw_ad Γ j → i = j
def dw_A (Γ : dw_G) : Nat → Prop := fun q => ∃ i : Nat, i < 148 ∧ q = dw_ad Γ i
theorem dw_DD {Γ : dw_G} (hj : dw_inj Γ) (μ : dw_M) : va_D (dw_A Γ) (dw_wl Γ μ) := by
  have key : ∀ (k : Nat) (q : Nat × va_E), (dw_wl Γ μ)[k]? = some q → k < 148 ∧ q.1 = dw_ad Γ k := by
    intro k q hk
    rcases Nat.lt_or_ge k 148 with h | h
    · rw [dw_at h] at hk
      cases hk
      exact ⟨h, rfl⟩
    · rw [List.getElem?_eq_none (by rw [dw_len]; exact h)] at hk
      cases hk
  refine ⟨fun i j x y hi hk hxy => ?_, fun k q hk => ?_⟩
  · obtain ⟨a1, a2⟩ := key i x hi
    obtain ⟨b1, b2⟩ := key j y hk
    exact hj i j a1 b1 (a2.symm.trans (hxy.trans b2))
  · obtain ⟨a1, a2⟩ := key k q hk
    exact ⟨k, a1, a2⟩
theorem dw_r0_0 {i : Nat} (h : dw_kd i = 0) : dw_kd (i + 1) = 11 := (by decide +kernel : ∀ i, i < 148 → dw_kd i = 0 → dw_kd (i + 1) = 11) i (dw_lt h (by decide)) h
theorem dw_n0_0 {i : Nat} (h : dw_kd i = 0) : dw_ln (i + 1) = 20 := (by decide +kernel : ∀ i, i < 148 → dw_kd i = 0 → dw_ln (i + 1) = 20) i (dw_lt h (by decide)) h
theorem dw_r0_2 {i : Nat} (h : dw_kd i = 0) : dw_kd (i + 2) = 11 := (by decide +kernel : ∀ i, i < 148 → dw_kd i = 0 → dw_kd (i + 2) = 11) i (dw_lt h (by decide)) h
theorem dw_n0_2 {i : Nat} (h : dw_kd i = 0) : dw_ln (i + 2) = 36 := (by decide +kernel : ∀ i, i < 148 → dw_kd i = 0 → dw_ln (i + 2) = 36) i (dw_lt h (by decide)) h
theorem dw_r0_3 {i : Nat} (h : dw_kd i = 0) : dw_kd (i + 3) = 11 := (by decide +kernel : ∀ i, i < 148 → dw_kd i = 0 → dw_kd (i + 3) = 11) i (dw_lt h (by decide)) h
theorem dw_n0_3 {i : Nat} (h : dw_kd i = 0) : dw_ln (i + 3) = 720 := (by decide +kernel : ∀ i, i < 148 → dw_kd i = 0 → dw_ln (i + 3) = 720) i (dw_lt h (by decide)) h
theorem dw_r1_2 {i : Nat} (h : dw_kd i = 1) : dw_kd (i + 1) = 11 := (by decide +kernel : ∀ i, i < 148 → dw_kd i = 1 → dw_kd (i + 1) = 11) i (dw_lt h (by decide)) h
theorem dw_n1_2 {i : Nat} (h : dw_kd i = 1) : dw_ln (i + 1) = 36 := (by decide +kernel : ∀ i, i < 148 → dw_kd i = 1 → dw_ln (i + 1) = 36) i (dw_lt h (by decide)) h
theorem dw_r1_3 {i : Nat} (h : dw_kd i = 1) : dw_kd (i + 2) = 11 := (by decide +kernel : ∀ i, i < 148 → dw_kd i = 1 → dw_kd (i + 2) = 11) i (dw_lt h (by decide)) h
theorem dw_n1_3 {i : Nat} (h : dw_kd i = 1) : dw_ln (i + 2) = 36 := (by decide +kernel : ∀ i, i < 148 → dw_kd i = 1 → dw_ln (i + 2) = 36) i (dw_lt h (by decide)) h
theorem dw_r1_4 {i : Nat} (h : dw_kd i = 1) : dw_kd (i + 3) = 11 := (by decide +kernel : ∀ i, i < 148 → dw_kd i = 1 → dw_kd (i + 3) = 11) i (dw_lt h (by decide)) h
theorem dw_n1_4 {i : Nat} (h : dw_kd i = 1) : dw_ln (i + 3) = 4 := (by decide +kernel : ∀ i, i < 148 → dw_kd i = 1 → dw_ln (i + 3) = 4) i (dw_lt h (by decide)) h
theorem dw_r1_5 {i : Nat} (h : dw_kd i = 1) : dw_kd (i + 4) = 11 := (by decide +kernel : ∀ i, i < 148 → dw_kd i = 1 → dw_kd (i + 4) = 11) i (dw_lt h (by decide)) h
theorem dw_n1_5 {i : Nat} (h : dw_kd i = 1) : dw_ln (i + 4) = 4 := (by decide +kernel : ∀ i, i < 148 → dw_kd i = 1 → dw_ln (i + 4) = 4) i (dw_lt h (by decide)) h
theorem dw_r1_6 {i : Nat} (h : dw_kd i = 1) : dw_kd (i + 5) = 11 := (by decide +kernel : ∀ i, i < 148 → dw_kd i = 1 → dw_kd (i + 5) = 11) i (dw_lt h (by decide)) h
theorem dw_n1_6 {i : Nat} (h : dw_kd i = 1) : dw_ln (i + 5) = 4 := (by decide +kernel : ∀ i, i < 148 → dw_kd i = 1 → dw_ln (i + 5) = 4) i (dw_lt h (by decide)) h
theorem dw_r1_7 {i : Nat} (h : dw_kd i = 1) : dw_kd (i + 6) = 11 := (by decide +kernel : ∀ i, i < 148 → dw_kd i = 1 → dw_kd (i + 6) = 11) i (dw_lt h (by decide)) h
theorem dw_n1_7 {i : Nat} (h : dw_kd i = 1) : dw_ln (i + 6) = 4 := (by decide +kernel : ∀ i, i < 148 → dw_kd i = 1 → dw_ln (i + 6) = 4) i (dw_lt h (by decide)) h
theorem dw_r1_8 {i : Nat} (h : dw_kd i = 1) : dw_kd (i + 7) = 11 := (by decide +kernel : ∀ i, i < 148 → dw_kd i = 1 → dw_kd (i + 7) = 11) i (dw_lt h (by decide)) h
theorem dw_n1_8 {i : Nat} (h : dw_kd i = 1) : dw_ln (i + 7) = 4 := (by decide +kernel : ∀ i, i < 148 → dw_kd i = 1 → dw_ln (i + 7) = 4) i (dw_lt h (by decide)) h
theorem dw_r4_0 {i : Nat} (h : dw_kd i = 4) : dw_kd (i + 1) = 12 := (by decide +kernel : ∀ i, i < 148 → dw_kd i = 4 → dw_kd (i + 1) = 12) i (dw_lt h (by decide)) h
theorem dw_r5_0 {i : Nat} (h : dw_kd i = 5) : dw_kd (i + 1) = 3 := (by decide +kernel : ∀ i, i < 148 → dw_kd i = 5 → dw_kd (i + 1) = 3) i (dw_lt h (by decide)) h
theorem dw_r6_0 {i : Nat} (h : dw_kd i = 6) : dw_kd (i + 1) = 1 := (by decide +kernel : ∀ i, i < 148 → dw_kd i = 6 → dw_kd (i + 1) = 1) i (dw_lt h (by decide)) h
theorem dw_r6_1 {i : Nat} (h : dw_kd i = 6) : dw_kd (i + 9) = 3 := (by decide +kernel : ∀ i, i < 148 → dw_kd i = 6 → dw_kd (i + 9) = 3) i (dw_lt h (by decide)) h
theorem dw_r6_2 {i : Nat} (h : dw_kd i = 6) : dw_kd (i + 10) = 4 := (by decide +kernel : ∀ i, i < 148 → dw_kd i = 6 → dw_kd (i + 10) = 4) i (dw_lt h (by decide)) h
theorem dw_r6_3 {i : Nat} (h : dw_kd i = 6) : dw_kd (i + 52) = 8 := (by decide +kernel : ∀ i, i < 148 → dw_kd i = 6 → dw_kd (i + 52) = 8) i (dw_lt h (by decide)) h
theorem dw_r6_4 {i : Nat} (h : dw_kd i = 6) : dw_kd (i + 60) = 11 := (by decide +kernel : ∀ i, i < 148 → dw_kd i = 6 → dw_kd (i + 60) = 11) i (dw_lt h (by decide)) h
theorem dw_n6_4 {i : Nat} (h : dw_kd i = 6) : dw_ln (i + 60) = 36 := (by decide +kernel : ∀ i, i < 148 → dw_kd i = 6 → dw_ln (i + 60) = 36) i (dw_lt h (by decide)) h
theorem dw_r6_5 {i : Nat} (h : dw_kd i = 6) : dw_kd (i + 61) = 2 := (by decide +kernel : ∀ i, i < 148 → dw_kd i = 6 → dw_kd (i + 61) = 2) i (dw_lt h (by decide)) h
theorem dw_r6_6 {i : Nat} (h : dw_kd i = 6) : dw_kd (i + 62) = 2 := (by decide +kernel : ∀ i, i < 148 → dw_kd i = 6 → dw_kd (i + 62) = 2) i (dw_lt h (by decide)) h
theorem dw_r7_0 {i : Nat} (h : dw_kd i = 7) : dw_kd (i + 1) = 11 := (by decide +kernel : ∀ i, i < 148 → dw_kd i = 7 → dw_kd (i + 1) = 11) i (dw_lt h (by decide)) h
theorem dw_n7_0 {i : Nat} (h : dw_kd i = 7) : dw_ln (i + 1) = 36 := (by decide +kernel : ∀ i, i < 148 → dw_kd i = 7 → dw_ln (i + 1) = 36) i (dw_lt h (by decide)) h
theorem dw_r7_1 {i : Nat} (h : dw_kd i = 7) : dw_kd (i + 2) = 11 := (by decide +kernel : ∀ i, i < 148 → dw_kd i = 7 → dw_kd (i + 2) = 11) i (dw_lt h (by decide)) h
theorem dw_n7_1 {i : Nat} (h : dw_kd i = 7) : dw_ln (i + 2) = 36 := (by decide +kernel : ∀ i, i < 148 → dw_kd i = 7 → dw_ln (i + 2) = 36) i (dw_lt h (by decide)) h
theorem dw_r8_0 {i : Nat} (h : dw_kd i = 8) : dw_kd (i + 1) = 11 := (by decide +kernel : ∀ i, i < 148 → dw_kd i = 8 → dw_kd (i + 1) = 11) i (dw_lt h (by decide)) h
theorem dw_n8_0 {i : Nat} (h : dw_kd i = 8) : dw_ln (i + 1) = 36 := (by decide +kernel : ∀ i, i < 148 → dw_kd i = 8 → dw_ln (i + 1) = 36) i (dw_lt h (by decide)) h
theorem dw_r8_1 {i : Nat} (h : dw_kd i = 8) : dw_kd (i + 2) = 11 := (by decide +kernel : ∀ i, i < 148 → dw_kd i = 8 → dw_kd (i + 2) = 11) i (dw_lt h (by decide)) h
theorem dw_n8_1 {i : Nat} (h : dw_kd i = 8) : dw_ln (i + 2) = 36 := (by decide +kernel : ∀ i, i < 148 → dw_kd i = 8 → dw_ln (i + 2) = 36) i (dw_lt h (by decide)) h
theorem dw_r8_2 {i : Nat} (h : dw_kd i = 8) : dw_kd (i + 3) = 11 := (by decide +kernel : ∀ i, i < 148 → dw_kd i = 8 → dw_kd (i + 3) = 11) i (dw_lt h (by decide)) h
theorem dw_n8_2 {i : Nat} (h : dw_kd i = 8) : dw_ln (i + 3) = 20 := (by decide +kernel : ∀ i, i < 148 → dw_kd i = 8 → dw_ln (i + 3) = 20) i (dw_lt h (by decide)) h
theorem dw_r8_3 {i : Nat} (h : dw_kd i = 8) : dw_kd (i + 4) = 11 := (by decide +kernel : ∀ i, i < 148 → dw_kd i = 8 → dw_kd (i + 4) = 11) i (dw_lt h (by decide)) h
theorem dw_n8_3 {i : Nat} (h : dw_kd i = 8) : dw_ln (i + 4) = 20 := (by decide +kernel : ∀ i, i < 148 → dw_kd i = 8 → dw_ln (i + 4) = 20) i (dw_lt h (by decide)) h
theorem dw_r8_4 {i : Nat} (h : dw_kd i = 8) : dw_kd (i + 5) = 11 := (by decide +kernel : ∀ i, i < 148 → dw_kd i = 8 → dw_kd (i + 5) = 11) i (dw_lt h (by decide)) h
theorem dw_n8_4 {i : Nat} (h : dw_kd i = 8) : dw_ln (i + 5) = 20 := (by decide +kernel : ∀ i, i < 148 → dw_kd i = 8 → dw_ln (i + 5) = 20) i (dw_lt h (by decide)) h
theorem dw_r8_5 {i : Nat} (h : dw_kd i = 8) : dw_kd (i + 6) = 11 := (by decide +kernel : ∀ i, i < 148 → dw_kd i = 8 → dw_kd (i + 6) = 11) i (dw_lt h (by decide)) h
theorem dw_n8_5 {i : Nat} (h : dw_kd i = 8) : dw_ln (i + 6) = 4 := (by decide +kernel : ∀ i, i < 148 → dw_kd i = 8 → dw_ln (i + 6) = 4) i (dw_lt h (by decide)) h
theorem dw_r8_6 {i : Nat} (h : dw_kd i = 8) : dw_kd (i + 7) = 2 := (by decide +kernel : ∀ i, i < 148 → dw_kd i = 8 → dw_kd (i + 7) = 2) i (dw_lt h (by decide)) h
theorem dw_r9_0 {i : Nat} (h : dw_kd i = 9) : dw_kd (i + 1) = 6 := (by decide +kernel : ∀ i, i < 148 → dw_kd i = 9 → dw_kd (i + 1) = 6) i (dw_lt h (by decide)) h
theorem dw_r9_1 {i : Nat} (h : dw_kd i = 9) : dw_kd (i + 64) = 6 := (by decide +kernel : ∀ i, i < 148 → dw_kd i = 9 → dw_kd (i + 64) = 6) i (dw_lt h (by decide)) h
theorem dw_r9_3 {i : Nat} (h : dw_kd i = 9) : dw_kd (i + 127) = 8 := (by decide +kernel : ∀ i, i < 148 → dw_kd i = 9 → dw_kd (i + 127) = 8) i (dw_lt h (by decide)) h
theorem dw_r9_4 {i : Nat} (h : dw_kd i = 9) : dw_kd (i + 135) = 0 := (by decide +kernel : ∀ i, i < 148 → dw_kd i = 9 → dw_kd (i + 135) = 0) i (dw_lt h (by decide)) h
theorem dw_r9_5 {i : Nat} (h : dw_kd i = 9) : dw_kd (i + 139) = 7 := (by decide +kernel : ∀ i, i < 148 → dw_kd i = 9 → dw_kd (i + 139) = 7) i (dw_lt h (by decide)) h
theorem dw_r10_0 {i : Nat} (h : dw_kd i = 10) : dw_kd (i + 1) = 11 := (by decide +kernel : ∀ i, i < 148 → dw_kd i = 10 → dw_kd (i + 1) = 11) i (dw_lt h (by decide)) h
theorem dw_n10_0 {i : Nat} (h : dw_kd i = 10) : dw_ln (i + 1) = 800 := (by decide +kernel : ∀ i, i < 148 → dw_kd i = 10 → dw_ln (i + 1) = 800) i (dw_lt h (by decide)) h
theorem dw_r10_1 {i : Nat} (h : dw_kd i = 10) : dw_kd (i + 2) = 11 := (by decide +kernel : ∀ i, i < 148 → dw_kd i = 10 → dw_kd (i + 2) = 11) i (dw_lt h (by decide)) h
theorem dw_n10_1 {i : Nat} (h : dw_kd i = 10) : dw_ln (i + 2) = 800 := (by decide +kernel : ∀ i, i < 148 → dw_kd i = 10 → dw_ln (i + 2) = 800) i (dw_lt h (by decide)) h
theorem dw_r10_2 {i : Nat} (h : dw_kd i = 10) : dw_kd (i + 3) = 11 := (by decide +kernel : ∀ i, i < 148 → dw_kd i = 10 → dw_kd (i + 3) = 11) i (dw_lt h (by decide)) h
theorem dw_n10_2 {i : Nat} (h : dw_kd i = 10) : dw_ln (i + 3) = 800 := (by decide +kernel : ∀ i, i < 148 → dw_kd i = 10 → dw_ln (i + 3) = 800) i (dw_lt h (by decide)) h
theorem dw_r10_4 {i : Nat} (h : dw_kd i = 10) : dw_kd (i + 4) = 11 := (by decide +kernel : ∀ i, i < 148 → dw_kd i = 10 → dw_kd (i + 4) = 11) i (dw_lt h (by decide)) h
theorem dw_n10_4 {i : Nat} (h : dw_kd i = 10) : dw_ln (i + 4) = 36 := (by decide +kernel : ∀ i, i < 148 → dw_kd i = 10 → dw_ln (i + 4) = 36) i (dw_lt h (by decide)) h
theorem dw_r10_5 {i : Nat} (h : dw_kd i = 10) : dw_kd (i + 5) = 11 := (by decide +kernel : ∀ i, i < 148 → dw_kd i = 10 → dw_kd (i + 5) = 11) i (dw_lt h (by decide)) h
theorem dw_n10_5 {i : Nat} (h : dw_kd i = 10) : dw_ln (i + 5) = 36 := (by decide +kernel : ∀ i, i < 148 → dw_kd i = 10 → dw_ln (i + 5) = 36) i (dw_lt h (by decide)) h
theorem dw_pk {i p : Nat} (h : dw_kd i = 12) (hp : p < 20) : dw_kd (i + 1 + 2 * p) = 5 := (by decide +kernel : ∀ i, i < 148 → dw_kd i = 12 → ∀ p, p < 20 → dw_kd (i + 1 + 2 * p) = 5) i (dw_lt h (by decide)) h p hp
/-! guards and names of the programs as functions -/
def dw_ok (x : Int32) (n : Nat) : Bool := decide (¬ x < 0) && decide (x.toNatClampNeg < n)
theorem dw_ok_in {x : Int32} {n : Nat} (h : dw_ok x n = true) : vp_in x n := by
  unfold dw_ok at h
  rw [Bool.and_eq_true, decide_eq_true_eq, decide_eq_true_eq] at h
  rintro (q | q)
  · exact h.1 q
  · omega
theorem dw_ok_lt {x : Int32} {n : Nat} (h : dw_ok x n = true) : x.toNatClampNeg < n := by
  unfold dw_ok at h
  rw [Bool.and_eq_true, decide_eq_true_eq, decide_eq_true_eq] at h
  exact h.2
def dw_gd {β : Type} (b : Bool) (k : Option β) : Option β := if b = true then k else none
theorem dw_gdS {β : Type} {b : Bool} {k : Option β} {r : β} (h : dw_gd b k = some r) : b = true ∧ k = some r := by
  unfold dw_gd at h
  split at h
  · exact ⟨by assumption, h⟩
  · cases h
theorem dw_gdT {β : Type} {b : Bool} {k : Option β} (h : b = true) : dw_gd b k = k := if_pos h
def dw_nz (x : Int32) : Bool := decide (¬ x = 0)
theorem dw_nzS {x : Int32} (h : dw_nz x = true) : ¬ x = 0 := of_decide_eq_true h
def dw_bo (x : Int32) : Bool := decide (x = 0) || decide (x = 1)
theorem dw_boN {x : Int32} (h : dw_bo x = true) : narrow .boolean (.int x) = .int x := by
  unfold dw_bo at h
  rw [Bool.or_eq_true, decide_eq_true_eq, decide_eq_true_eq] at h
  rcases h with rfl | rfl <;> rfl
def dw_nm {α β : Type} (e : α) (k : α → β) : β := k e
theorem dw_nmS {α β : Type} {e x : α} {k : α → β} {r : β} (ex : x = e) (h : dw_nm e k = r) : k x = r := by
  subst ex
  exact h
theorem dw_ifT {α : Type} {c : Prop} [Decidable c] {a b : α} {r : α} (hc : c) (h : (if c then a else b) = r) : a = r := by
  rw [if_pos hc] at h; exact h
theorem dw_ifF {α : Type} {c : Prop} [Decidable c] {a b : α} {r : α} (hc : ¬ c) (h : (if c then a else b) = r) : b = r := by
  rw [if_neg hc] at h; exact h
def dw_jm {α : Sort _} {β : Type} (k : α) (g : α → β) : β := g k
def dw_bd {α β : Type} (e : Option α) (k : α → Option β) : Option β := match e with
  | none => none
  | some x => k x
theorem dw_bdS {α β : Type} {e : Option α} {k : α → Option β} {r : β} (h : dw_bd e k = some r) : ∃ x, e = some x ∧ k x = some r := by
  cases e with
  | none => cases h
  | some x => exact ⟨x, rfl, h⟩
/-- a loop: a step says how it goes on, or what it ends with -/
def dw_wh {σ ρ : Type} (step : σ → Option (σ ⊕ ρ)) : Nat → σ → Option ρ
  | 0, _ => none
  | n + 1, x => match step x with
    | none => none
    | some (.inl y) => dw_wh step n y
    | some (.inr r) => some r
theorem dw_whS {σ ρ : Type} {step : σ → Option (σ ⊕ ρ)} {n : Nat} {x : σ} {r : ρ} (h : dw_wh step (n + 1) x = some r) : ∃ q, step x = some q ∧ (match q with | .inl y => dw_wh step n y | .inr r => some r) = some r := by
  unfold dw_wh at h
  cases e : step x with
  | none => rw [e] at h; cases h
  | some q =>
    rw [e] at h
    refine ⟨q, rfl, ?_⟩
    cases q with
    | inl y => exact h
    | inr z => exact h
theorem dw_whB {σ ρ β : Type} {step : σ → Option (σ ⊕ ρ)} {n : Nat} {x : σ} {k : ρ → Option β} {r : β} (h : dw_bd (dw_wh step (n + 1) x) k = some r) : ∃ q, step x = some q ∧ (match q with | .inl y => dw_bd (dw_wh step n y) k | .inr z => k z) = some r := by
  obtain ⟨z, h1, h2⟩ := dw_bdS h
  obtain ⟨q, h3, h4⟩ := dw_whS h1
  refine ⟨q, h3, ?_⟩
  cases q with
  | inl y =>
    have h4 : dw_wh step n y = some z := h4
    show dw_bd (dw_wh step n y) k = some r
    rw [h4]
    exact h2
  | inr w =>
    have h4 : some w = some z := h4
    cases h4
    exact h2
theorem dw_wh0 {σ ρ β : Type} {step : σ → Option (σ ⊕ ρ)} {x : σ} {k : ρ → Option β} {r : β} (h : dw_bd (dw_wh step 0 x) k = some r) : False := by
  cases h
/-! the words -/
def dw_TB : List Cond := lw_tbl.filter goodWord
theorem dw_mem {w : Cond} {i : Nat} (h : lw_tbl[i]? = some w) (hg : goodWord w = true) : w ∈ dw_TB := List.mem_filter.mpr ⟨List.mem_of_getElem? h, hg⟩
theorem dw_good : ∀ w ∈ dw_TB, (w.onTables && w.keeps) = true ∨ ∃ ty, w = .arrayClass ty := fun w h => good_of_word (List.mem_filter.mp h).2
def dw_ws (y : MethodName) (b : ByteArray) (n : Nat) (r : Option FieldType) : List Cond := .code y b n r :: dw_TB
theorem dw_gw {y : MethodName} {b : ByteArray} {n : Nat} {r : Option FieldType} (h : Cond.code y b n r ∈ dw_TB) : GoodIn dw_TB (dw_ws y b n r) := by
  intro w hw
  rcases List.mem_cons.mp hw with rfl | hw
  · exact ⟨h, dw_good _ h⟩
  · exact ⟨hw, dw_good _ hw⟩
theorem dw_gV {own : String} {idx : Nat} {C : String} {y : MethodName} {b : ByteArray} {n : Nat} {r : Option FieldType} (h1 : Cond.methodLink own idx y ∈ dw_TB) (h2 : Cond.instanceMethod y ∈ dw_TB) (h3 : Cond.selects C y y ∈ dw_TB) (h4 : Cond.initialized C ∈ dw_TB) (h5 : Cond.code y b n r ∈ dw_TB) : GoodIn dw_TB (wsV own idx C y (dw_ws y b n r)) := by
  intro w hw
  unfold wsV at hw
  rcases List.mem_append.mp hw with hw | hw
  · simp only [List.mem_cons, List.not_mem_nil, or_false] at hw
    rcases hw with rfl | rfl | rfl | rfl
    · exact ⟨h1, dw_good _ h1⟩
    · exact ⟨h2, dw_good _ h2⟩
    · exact ⟨h3, dw_good _ h3⟩
    · exact ⟨h4, dw_good _ h4⟩
  · exact dw_gw h5 w hw
theorem dw_gS {own : String} {idx : Nat} {y : MethodName} {b : ByteArray} {n : Nat} {r : Option FieldType} (h1 : Cond.methodLink own idx y ∈ dw_TB) (h2 : Cond.static y ∈ dw_TB) (h4 : Cond.initialized y.cls ∈ dw_TB) (h5 : Cond.code y b n r ∈ dw_TB) : GoodIn dw_TB (va_wsS own idx y (dw_ws y b n r)) := by
  intro w hw
  unfold va_wsS at hw
  rcases List.mem_append.mp hw with hw | hw
  · simp only [List.mem_cons, List.not_mem_nil, or_false] at hw
    rcases hw with rfl | rfl | rfl
    · exact ⟨h1, dw_good _ h1⟩
    · exact ⟨h2, dw_good _ h2⟩
    · exact ⟨h4, dw_good _ h4⟩
  · exact dw_gw h5 w hw
def dw_nest : List (String × Nat × MethodName × String) := [(RX9, 11, yX6_init, RX9), (RX6, 20, yX3_init, RX9), (RX4, 17, yX5_init, RX9), (RX5, 11, yX3_init, RX9), (RX6, 34, yX8_init, RX9), (RX8, 32, yX2_init, RX9), (RX6, 45, yX2_init, RX9), (RX9, 21, yX8_init, RX9), (RX9, 28, yX0_init, RX9), (RX9, 35, yX7_init, RX9), (RX1, 40, yX9_fill, RX9), (RX8, 37, yX9_fill, RX9), (RX1, 69, yX9_numberAt, RX9), (RX0, 111, yX9_numberAt, RX9), (RX0, 166, yX9_isDitch, RX9), (RX8, 51, yX9_copy, RX9), (RX1, 44, yX9_copy, RX9), (RX6, 66, yX9_copy, RX9)]
