/-! pure facts: loops, numbers, memory -/
theorem pb_det {σ ρ : Type} {step : σ → Option (σ ⊕ ρ)} (g : Nat → σ) (N : Nat) {x : σ} (h0 : g 0 = x) {r : ρ} (hs : ∀ j, j < N → step (g j) = some (.inl (g (j + 1)))) (he : step (g N) = some (.inr r)) {fuel : Nat} (hf : N < fuel) : dw_wh step fuel x = some r := by
  rw [← h0]
  have key : ∀ (d j f : Nat), j + d = N → d < f → dw_wh step f (g j) = some r := by
    intro d
    induction d with
    | zero =>
      intro j f h1 h2
      obtain ⟨f, rfl⟩ : ∃ f', f = f' + 1 := ⟨f - 1, by omega⟩
      have e : j = N := by omega
      subst e
      unfold dw_wh
      rw [he]
    | succ d ih =>
      intro j f h1 h2
      obtain ⟨f, rfl⟩ : ∃ f', f = f' + 1 := ⟨f - 1, by omega⟩
      unfold dw_wh
      rw [hs j (by omega)]
      exact ih (j + 1) f (by omega) (by omega)
  exact key N 0 fuel (by omega) hf
theorem pb_inv {σ ρ : Type} {step : σ → Option (σ ⊕ ρ)} (I : Nat → σ → Prop) (N : Nat) (post : ρ → Prop) (hs : ∀ j x, j < N → I j x → (∃ y, step x = some (.inl y) ∧ I (j + 1) y) ∨ (∃ r, step x = some (.inr r) ∧ post r)) (he : ∀ x, I N x → ∃ r, step x = some (.inr r) ∧ post r) {fuel : Nat} (hf : N < fuel) {x : σ} (h0 : I 0 x) : ∃ r, dw_wh step fuel x = some r ∧ post r := by
  have key : ∀ (d j f : Nat) (x : σ), j + d = N → d < f → I j x → ∃ r, dw_wh step f x = some r ∧ post r := by
    intro d
    induction d with
    | zero =>
      intro j f x h1 h2 hI
      obtain ⟨f, rfl⟩ : ∃ f', f = f' + 1 := ⟨f - 1, by omega⟩
      have e : j = N := by omega
      subst e
      obtain ⟨r, h3, h4⟩ := he x hI
      refine ⟨r, ?_, h4⟩
      unfold dw_wh
      rw [h3]
    | succ d ih =>
      intro j f x h1 h2 hI
      obtain ⟨f, rfl⟩ : ∃ f', f = f' + 1 := ⟨f - 1, by omega⟩
      rcases hs j x (by omega) hI with ⟨y, h3, h4⟩ | ⟨r, h3, h4⟩
      · obtain ⟨r, h5, h6⟩ := ih (j + 1) f y (by omega) (by omega) h4
        refine ⟨r, ?_, h6⟩
        unfold dw_wh
        rw [h3]
        exact h5
      · refine ⟨r, ?_, h4⟩
        unfold dw_wh
        rw [h3]
  exact key N 0 fuel x (by omega) hf h0
theorem pb_bd {α β : Type} {e : Option α} {k : α → Option β} {x : α} (h : e = some x) : dw_bd e k = k x := by rw [h]; rfl
theorem pb_b2 {α β γ : Type} {e : Option (α × β)} {k : α → β → Option γ} {x : α} {y : β} (h : e = some (x, y)) : dw_b2 e k = k x y := by rw [h]; rfl
theorem pb_n2 {α β γ : Type} {e : α × β} {k : α → β → γ} {x : α} {y : β} (h : e = (x, y)) : dw_n2 e k = k x y := by rw [h]; rfl
theorem pb_ok {x : Int32} {j n : Nat} (hx : x = nI j) (h : j < n) (hn : n < 2 ^ 31) : dw_ok x n = true := by
  unfold dw_ok
  rw [hx, nI_clamp (by omega)]
  have := nI_pos (n := j) (by omega)
  simp [this, h]
theorem pb_cl {x : Int32} {j : Nat} (hx : x = nI j) (h : j < 2 ^ 31) : x.toNatClampNeg = j := by rw [hx]; exact nI_clamp h
theorem pb_lit (n : Nat) : (OfNat.ofNat n : Int32) = nI n := rfl
theorem pb_gd {β : Type} {b : Bool} {k : Option β} (h : b = true) : dw_gd b k = k := if_pos h
theorem pb_nz {x : Int32} {j : Nat} (hx : x = nI j) (h : 0 < j) (h2 : j < 2 ^ 31) : dw_nz x = true := by
  unfold dw_nz
  rw [hx]
  exact decide_eq_true (nI_ne0 h h2)
/-- reading behind a write -/
theorem pb_rd (μ : dw_M) (i k : Nat) (x : Int32) (c j : Nat) : (dw_st μ i k x).1 c j = if c = i then (if j = k then x else μ.1 c j) else μ.1 c j := by
  unfold dw_st
  by_cases h : c = i
  · simp [h, upd]
  · simp [h]
theorem pb_rd2 (μ : dw_M) (i k : Nat) (x : Int32) : (dw_st μ i k x).2 = μ.2 := rfl
theorem pb_sl1 (μ : dw_M) (i : Nat) (x : Int64) : (dw_sl μ i x).1 = μ.1 := rfl
theorem pb_sl2 (μ : dw_M) (i : Nat) (x : Int64) (c : Nat) : (dw_sl μ i x).2 c = if c = i then x else μ.2 c := rfl
theorem pb_ext {μ ν : dw_M} (h1 : ∀ c j, μ.1 c j = ν.1 c j) (h2 : ∀ c, μ.2 c = ν.2 c) : μ = ν := by
  obtain ⟨a, b⟩ := μ
  obtain ⟨a', b'⟩ := ν
  have e1 : a = a' := by funext c j; exact h1 c j
  have e2 : b = b' := by funext c; exact h2 c
  rw [e1, e2]
/-- cells put anew: the cell c's row -/
def pb_c (μ : dw_M) (i : Nat) (f : Nat → Int32) : dw_M := (fun c => if c = i then f else μ.1 c, μ.2)
theorem pb_c1 (μ : dw_M) (i : Nat) (f : Nat → Int32) : (pb_c μ i f).1 i = f := by simp [pb_c]
theorem pb_cn (μ : dw_M) (i : Nat) (f : Nat → Int32) {c : Nat} (h : c ≠ i) : (pb_c μ i f).1 c = μ.1 c := by simp [pb_c, h]
theorem pb_c2 (μ : dw_M) (i : Nat) (f : Nat → Int32) : (pb_c μ i f).2 = μ.2 := rfl
theorem pb_cs (μ : dw_M) (i : Nat) (f : Nat → Int32) (k : Nat) (x : Int32) : dw_st (pb_c μ i f) i k x = pb_c μ i (upd f k x) := by
  apply pb_ext
  · intro c j
    rw [pb_rd]
    by_cases h : c = i
    · subst h; simp [pb_c, upd]
    · simp [pb_c, h]
  · intro c; rfl
theorem pb_st (μ : dw_M) (i k : Nat) (x : Int32) : dw_st μ i k x = pb_c μ i (upd (μ.1 i) k x) := by
  apply pb_ext
  · intro c j
    rw [pb_rd]
    by_cases h : c = i
    · subst h; simp [pb_c, upd]
    · simp [pb_c, h]
  · intro c; rfl
theorem pb_cc (μ : dw_M) (i : Nat) (f g : Nat → Int32) : pb_c (pb_c μ i f) i g = pb_c μ i g := by
  apply pb_ext
  · intro c j
    by_cases h : c = i <;> simp [pb_c, h]
  · intro c; rfl
theorem pb_ci (μ : dw_M) (i : Nat) : pb_c μ i (μ.1 i) = μ := by
  apply pb_ext
  · intro c j
    by_cases h : c = i
    · subst h; simp [pb_c]
    · simp [pb_c, h]
  · intro c; rfl
/-- fill, copy, sum -/
def pb_fl (f : Nat → Int32) (n : Nat) (v : Int32) : Nat → Int32 := fun j => if j < n then v else f j
theorem pb_fl_s (f : Nat → Int32) (n : Nat) (v : Int32) : upd (pb_fl f n v) n v = pb_fl f (n + 1) v := by
  funext j
  unfold upd pb_fl
  by_cases h : j = n
  · subst h; simp
  · by_cases h2 : j < n
    · simp [h, h2, show j < n + 1 by omega]
    · simp [h, h2, show ¬ j < n + 1 by omega]
theorem pb_fl_0 (f : Nat → Int32) (v : Int32) : pb_fl f 0 v = f := by funext j; simp [pb_fl]
theorem pb_fill (μ : dw_M) (i : Nat) (v : Int32) (hn : dw_ln i < 900) : fX9_fill μ i v = some (pb_c μ i (pb_fl (μ.1 i) (dw_ln i) v)) := by
  unfold fX9_fill
  have h := pb_det (step := fun w => sX9_fill_2 i v w.1 w.2) (fun j => (nI j, pb_c μ i (pb_fl (μ.1 i) j v))) (dw_ln i) (x := ((0 : Int32), μ)) ?_ (r := pb_c μ i (pb_fl (μ.1 i) (dw_ln i) v)) ?_ ?_ (fuel := 1000) (by omega)
  · exact pb_bd h
  · show (nI 0, pb_c μ i (pb_fl (μ.1 i) 0 v)) = _
    rw [pb_fl_0, pb_ci]
    rfl
  · intro j hj
    show sX9_fill_2 i v (nI j) (pb_c μ i (pb_fl (μ.1 i) j v)) = _
    unfold sX9_fill_2
    rw [if_neg (nI_ge hj (by omega)), pb_gd (pb_ok rfl hj (by omega))]
    show some (Sum.inl (nI j + 1, dw_st (pb_c μ i (pb_fl (μ.1 i) j v)) i (nI j).toNatClampNeg v)) = _
    rw [pb_cl rfl (by omega), pb_cs, pb_fl_s, nI_1]
  · show sX9_fill_2 i v (nI (dw_ln i)) _ = _
    unfold sX9_fill_2
    rw [if_pos (nI_le (Nat.le_refl _) (by omega))]
def pb_cp (f g : Nat → Int32) (n : Nat) : Nat → Int32 := fun j => if j < n then g j else f j
theorem pb_cp_s (f g : Nat → Int32) (n : Nat) : upd (pb_cp f g n) n (g n) = pb_cp f g (n + 1) := by
  funext j
  unfold upd pb_cp
  by_cases h : j = n
  · subst h; simp
  · by_cases h2 : j < n
    · simp [h, h2, show j < n + 1 by omega]
    · simp [h, h2, show ¬ j < n + 1 by omega]
theorem pb_cp_0 (f g : Nat → Int32) : pb_cp f g 0 = f := by funext j; simp [pb_cp]
theorem pb_copy (μ : dw_M) (i j n : Nat) (hi : dw_ln i = n) (hj : dw_ln j = n) (hij : i ≠ j) (hn : n < 900) : fX9_copy μ i j = some (pb_c μ j (pb_cp (μ.1 j) (μ.1 i) n)) := by
  unfold fX9_copy
  have em : dw_mn (nI (dw_ln i)) (nI (dw_ln j)) = nI n := by
    unfold dw_mn
    rw [hi, hj, if_neg (nI_nlt (Nat.le_refl n) (by omega))]
  show dw_bd (dw_wh (fun v => sX9_copy_10 i j (dw_mn (nI (dw_ln i)) (nI (dw_ln j))) v.1 v.2) 1000 ((0 : Int32), μ)) _ = _
  rw [em]
  have h := pb_det (step := fun w => sX9_copy_10 i j (nI n) w.1 w.2) (fun k => (nI k, pb_c μ j (pb_cp (μ.1 j) (μ.1 i) k))) n (x := ((0 : Int32), μ)) ?_ (r := pb_c μ j (pb_cp (μ.1 j) (μ.1 i) n)) ?_ ?_ (fuel := 1000) (by omega)
  · exact pb_bd h
  · show (nI 0, pb_c μ j (pb_cp (μ.1 j) (μ.1 i) 0)) = _
    rw [pb_cp_0, pb_ci]
    rfl
  · intro k hk
    show sX9_copy_10 i j (nI n) (nI k) (pb_c μ j (pb_cp (μ.1 j) (μ.1 i) k)) = _
    unfold sX9_copy_10
    rw [if_neg (nI_ge hk (by omega)), pb_gd (pb_ok rfl (by omega) (by omega)), pb_gd (pb_ok rfl (by omega) (by omega))]
    show some (Sum.inl (nI k + 1, dw_st (pb_c μ j (pb_cp (μ.1 j) (μ.1 i) k)) j (nI k).toNatClampNeg ((pb_c μ j (pb_cp (μ.1 j) (μ.1 i) k)).1 i (nI k).toNatClampNeg))) = _
    rw [pb_cl rfl (by omega), pb_cn _ _ _ hij, pb_cs, pb_cp_s, nI_1]
  · show sX9_copy_10 i j (nI n) (nI n) _ = _
    unfold sX9_copy_10
    rw [if_pos (nI_le (Nat.le_refl _) (by omega))]
def pb_sm (f : Nat → Int32) : Nat → Int32
  | 0 => 0
  | n + 1 => pb_sm f n + f n
theorem pb_sm_cong {f g : Nat → Int32} : ∀ {n : Nat}, (∀ k, k < n → f k = g k) → pb_sm f n = pb_sm g n
  | 0, _ => rfl
  | n + 1, h => by
    show pb_sm f n + f n = pb_sm g n + g n
    rw [pb_sm_cong (fun k hk => h k (by omega)), h n (by omega)]
theorem pb_sm_tail {f : Nat → Int32} {n : Nat} : ∀ {m : Nat}, (∀ k, n ≤ k → k < n + m → f k = 0) → pb_sm f (n + m) = pb_sm f n
  | 0, _ => rfl
  | m + 1, h => by
    show pb_sm f (n + m) + f (n + m) = pb_sm f n
    rw [pb_sm_tail (fun k h1 h2 => h k h1 (by omega)), h (n + m) (by omega) (by omega), Int32.add_zero]
theorem pb_sum (μ : dw_M) (i n : Nat) (hi : dw_ln i = n) (hn : n < 900) : fX9_sum μ i = some (pb_sm (μ.1 i) n) := by
  unfold fX9_sum
  have h := pb_det (step := fun w => sX9_sum_4 μ i w.1 w.2) (fun k => (pb_sm (μ.1 i) k, nI k)) n (x := ((0 : Int32), (0 : Int32))) rfl (r := pb_sm (μ.1 i) n) ?_ ?_ (fuel := 1000) (by omega)
  · exact pb_bd h
  · intro k hk
    show sX9_sum_4 μ i (pb_sm (μ.1 i) k) (nI k) = _
    unfold sX9_sum_4
    rw [hi, if_neg (nI_ge hk (by omega)), pb_gd (pb_ok rfl hk (by omega))]
    show some (Sum.inl (pb_sm (μ.1 i) k + μ.1 i (nI k).toNatClampNeg, nI k + 1)) = _
    rw [pb_cl rfl (by omega), nI_1]
    rfl
  · show sX9_sum_4 μ i _ (nI n) = _
    unfold sX9_sum_4
    rw [hi, if_pos (nI_le (Nat.le_refl _) (by omega))]
