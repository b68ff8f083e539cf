/-! a line's places and levels, on both sides -/
theorem md_pa {μ : dw_M} {C : Nat} (dC : μ.1 143 1 = nI C) (h1 : 1 ≤ C) (h6 : C ≤ 6) (fr to x : Int32) : fX10_placeAt μ fr to x = some (fr + x * rl_sr (nI C) fr to) := by
  unfold fX10_placeAt fX10_rowOf
  rw [pv_c1, dC, pb_gd (pb_nz rfl (by omega) (by omega)), pb_gd (pb_nz rfl (by omega) (by omega))]
  unfold rl_sr
  show (if fr / nI C = to / nI C then (if to ≤ fr then some (fr - x * 1) else some (fr + x * 1)) else (if to ≤ fr then some (fr - x * nI C) else some (fr + x * nI C))) = _
  by_cases c : fr / nI C = to / nI C <;> by_cases c2 : to ≤ fr <;> simp only [c, c2, if_true, if_false, Int32.mul_neg, ← Int32.sub_eq_add_neg]
theorem ln_pl {P m : Nat} {c fr to lv fa st : Int32} {μ : dw_M} {i : Nat} (h : rl_ln P c (μ.1 i) fr to lv fa st) : ∃ m, 2 ≤ m ∧ m ≤ 6 ∧ st = nI m ∧ μ.1 i 2 = nI m ∧ ∃ pl : Nat → Nat, (∀ k, k < m → pl k < P ∧ fX3_placeAt μ i (nI k) = nI (pl k) ∧ fr + nI k * rl_sr c fr to = nI (pl k) ∧ fX3_levelAt μ i (nI k) = lv - nI k * fa) ∧ ∀ j k, j < m → k < m → pl j = pl k → j = k := by
  obtain ⟨l0, l1, l2, l3, l4, ⟨m, hm1, hm2, hm3, pl, hp, hi⟩, x, hx⟩ := h
  refine ⟨m, hm1, hm2, hm3, by rw [l2, hm3], pl, fun k hk => ?_, hi⟩
  obtain ⟨q1, q2⟩ := hp k hk
  refine ⟨q1, ?_, q2, ?_⟩
  · unfold fX3_placeAt
    rw [l0, l1, q2]
  · unfold fX3_levelAt
    rw [l3, l4]
/-- the first bare step -/
def bare (μ : dw_M) (lv fa : Int32) (pl : Nat → Nat) (k : Nat) : Prop := lv - nI k * fa < 0 ∨ μ.1 3 (pl k) - (lv - nI k * fa) < 60
theorem cl_bare {μ : dw_M} {i m P : Nat} {pl : Nat → Nat} {lv fa : Int32} (e2 : μ.1 i 2 = nI m) (hm : m ≤ 6) (hP : P ≤ 36) (hp : ∀ k, k < m → pl k < P ∧ fX3_placeAt μ i (nI k) = nI (pl k) ∧ fX3_levelAt μ i (nI k) = lv - nI k * fa) : (∀ k, k < m → (∀ j, j < k → ¬ bare μ lv fa pl j) → bare μ lv fa pl k → fX1_firstBareStep μ i = some (nI k)) ∧ ((∀ j, j < m → ¬ bare μ lv fa pl j) → fX1_firstBareStep μ i = some (-1)) := by
  have step : ∀ j, j < m → ¬ bare μ lv fa pl j → sX1_firstBareStep_2 μ i (nI j) = some (.inl (nI (j + 1))) := by
    intro j hj hb
    obtain ⟨q1, q2, q3⟩ := hp j hj
    unfold sX1_firstBareStep_2 fX1_coverAt
    rw [e2, if_neg (nI_ge hj (by omega)), q2, q3, pb_bd (pv_na dw_lc3 (by decide) (by omega))]
    show (if μ.1 3 (pl j) - (lv - nI j * fa) < 60 then some (Sum.inr (Sum.inr (nI j))) else if 0 ≤ lv - nI j * fa then some (Sum.inl (nI j + 1)) else some (Sum.inr (Sum.inr (nI j)))) = _
    have hb1 : ¬ lv - nI j * fa < 0 := fun z => hb (Or.inl z)
    have hb2 : ¬ μ.1 3 (pl j) - (lv - nI j * fa) < 60 := fun z => hb (Or.inr z)
    rw [if_neg hb2, if_pos (fa_of_nlt hb1), nI_1]
  constructor
  · intro k hk h1 h2
    unfold fX1_firstBareStep
    have h := pb_det (step := fun v => sX1_firstBareStep_2 μ i v) (fun j => nI j) k (x := 0) rfl (r := Sum.inr (nI k)) (fun j hj => step j (by omega) (h1 j hj)) ?_ (fuel := 1000) (by omega)
    · rw [pb_bd h]; rfl
    · obtain ⟨q1, q2, q3⟩ := hp k hk
      show sX1_firstBareStep_2 μ i (nI k) = _
      unfold sX1_firstBareStep_2 fX1_coverAt
      rw [e2, if_neg (nI_ge hk (by omega)), q2, q3, pb_bd (pv_na dw_lc3 (by decide) (by omega))]
      show (if μ.1 3 (pl k) - (lv - nI k * fa) < 60 then some (Sum.inr (Sum.inr (nI k))) else if 0 ≤ lv - nI k * fa then some (Sum.inl (nI k + 1)) else some (Sum.inr (Sum.inr (nI k)))) = _
      by_cases c : μ.1 3 (pl k) - (lv - nI k * fa) < 60
      · rw [if_pos c]
      · rw [if_neg c, if_neg (fa_of_lt (h2.resolve_right c)).2.1]
  · intro h1
    unfold fX1_firstBareStep
    have h := pb_det (step := fun v => sX1_firstBareStep_2 μ i v) (fun j => nI j) m (x := 0) rfl (r := Sum.inl ()) (fun j hj => step j (by omega) (h1 j hj)) ?_ (fuel := 1000) (by omega)
    · rw [pb_bd h]; rfl
    · show sX1_firstBareStep_2 μ i (nI m) = _
      unfold sX1_firstBareStep_2
      rw [e2, if_pos (nI_le (Nat.le_refl _) (by omega))]
theorem md_bare {μ : dw_M} {C m P : Nat} {pl : Nat → Nat} (dC : μ.1 143 1 = nI C) (h1 : 1 ≤ C) (h6 : C ≤ 6) (hm : m ≤ 6) (hP : P ≤ 36) (hp : ∀ k, k < m → pl k < P ∧ μ.1 143 3 + nI k * rl_sr (nI C) (μ.1 143 3) (μ.1 143 4) = nI (pl k)) (hh : ∀ p, p < P → μ.1 143 (20 + p) = μ.1 3 p) : (∀ k, k < m → (∀ j, j < k → ¬ bare μ (μ.1 143 5) (μ.1 143 6) pl j) → bare μ (μ.1 143 5) (μ.1 143 6) pl k → dw_wh (fun v => sX10_pipe_54 μ (nI m) v) 1000 (0 : Int32) = some (.inr (-100 - nI k, μ))) ∧ ((∀ j, j < m → ¬ bare μ (μ.1 143 5) (μ.1 143 6) pl j) → dw_wh (fun v => sX10_pipe_54 μ (nI m) v) 1000 (0 : Int32) = some (.inl ())) := by
  have gen : ∀ j, j < m → sX10_pipe_54 μ (nI m) (nI j) = (if μ.1 143 5 - nI j * μ.1 143 6 < 0 then some (Sum.inr (Sum.inr (-100 - nI j, μ))) else if 60 ≤ μ.1 3 (pl j) - (μ.1 143 5 - nI j * μ.1 143 6) then some (Sum.inl (nI (j + 1))) else some (Sum.inr (Sum.inr (-100 - nI j, μ)))) := by
    intro j hj
    obtain ⟨q1, q2⟩ := hp j hj
    unfold sX10_pipe_54
    rw [if_neg (nI_ge hj (by omega)), pv_c5, pv_c6, pv_c3, pv_c4]
    simp only [dw_nm]
    rw [pb_bd (md_pa dC h1 h6 _ _ _), q2, pv_a (c := 20) (n := 20) rfl, pb_gd (pb_ok rfl (by omega) (by decide)), pb_cl rfl (by omega), hh _ q1, nI_1]
  have step : ∀ j, j < m → ¬ bare μ (μ.1 143 5) (μ.1 143 6) pl j → sX10_pipe_54 μ (nI m) (nI j) = some (.inl (nI (j + 1))) := by
    intro j hj hb
    rw [gen j hj, if_neg (fun z => hb (Or.inl z)), if_pos (fa_of_nlt (fun z => hb (Or.inr z)))]
  constructor
  · intro k hk h1 h2
    refine pb_det (step := fun v => sX10_pipe_54 μ (nI m) v) (fun j => nI j) k (x := 0) rfl (fun j hj => step j (by omega) (h1 j hj)) ?_ (by omega)
    show sX10_pipe_54 μ (nI m) (nI k) = _
    rw [gen k hk]
    by_cases c : μ.1 143 5 - nI k * μ.1 143 6 < 0
    · rw [if_pos c]
    · rw [if_neg c, if_neg (fa_of_lt (h2.resolve_left c)).2.1]
  · intro h1
    refine pb_det (step := fun v => sX10_pipe_54 μ (nI m) v) (fun j => nI j) m (x := 0) rfl (fun j hj => step j (by omega) (h1 j hj)) ?_ (by omega)
    show sX10_pipe_54 μ (nI m) (nI m) = _
    unfold sX10_pipe_54
    rw [if_pos (nI_le (Nat.le_refl _) (by omega))]
