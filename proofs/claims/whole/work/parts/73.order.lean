/-- the ranks of the pipes -/
def r_ok (rk : Nat → Nat) (N : Nat) (μ : dw_M) : Prop := (∀ q, q < N → μ.1 136 q = nI (rk q)) ∧ ∃ m, m < 20 ∧ μ.1 135 1 = nI m ∧ ∀ q, q < N → rk q ≤ m
theorem mx_nn {a b : Nat} (ha : a < 2 ^ 31) (hb : b < 2 ^ 31) : dw_mx (nI a) (nI b) = nI (max a b) := by
  unfold dw_mx
  by_cases c : a < b
  · rw [if_pos (nI_lt c hb), Nat.max_eq_right (by omega)]
  · rw [if_neg (nI_nlt (by omega) (by omega)), Nat.max_eq_left (by omega)]
section
variable {R C P N : Nat} {T μ : dw_M} {rk : Nat → Nat}
theorem cl_rk (h : stt R C P N T) (a : ag T μ) (hrk : ∀ q, q < N → rk q < N ∧ ∃ c, ch N T q (rk q) c) (h0 : μ.1 135 1 = 0) : ∃ ν, dw_wh (fun v => sX0_plan_33 v.1 v.2) 1000 ((0 : Int32), μ) = some ν ∧ r_ok rk N ν ∧ (∀ c k, c ≠ 135 → c ≠ 136 → ν.1 c k = μ.1 c k) ∧ ν.2 = μ.2 := by
  obtain ⟨hN, hP, hC1, hC6⟩ := st_20 h
  obtain ⟨e0, e1, e2, e3, e4, e5⟩ := st_dim h
  have cN : ∀ ν : dw_M, (∀ c j, c ≠ 135 → c ≠ 136 → ν.1 c j = μ.1 c j) → ν.1 11 1 = nI N := fun ν e => by rw [e _ _ (by omega) (by omega), a.1 _ _ (by omega), e5]
  obtain ⟨r, h1, h2, h3, h4⟩ := pb_inv (step := fun v : Int32 × dw_M => sX0_plan_33 v.1 v.2) (fun q x => x.1 = nI q ∧ (∀ c j, c ≠ 135 → c ≠ 136 → x.2.1 c j = μ.1 c j) ∧ x.2.2 = μ.2 ∧ r_ok rk q x.2) N (fun ν => (∀ c j, c ≠ 135 → c ≠ 136 → ν.1 c j = μ.1 c j) ∧ ν.2 = μ.2 ∧ r_ok rk N ν) (fun q x hq hx => by
    obtain ⟨x, ν⟩ := x
    obtain ⟨f1, f2, f3, f4⟩ := hx
    have f1 : x = nI q := f1
    have f2 : ∀ c j, c ≠ 135 → c ≠ 136 → ν.1 c j = μ.1 c j := f2
    have f3 : ν.2 = μ.2 := f3
    have f4 : r_ok rk q ν := f4
    subst f1
    left
    obtain ⟨hrq, c, hc⟩ := hrk q hq
    obtain ⟨g1, m, hm, g2, g3⟩ := f4
    have hr := cl_rank (μ := T) (ρ := ν) hN (cN ν f2) (fun x hx => by rw [f2 _ _ (by omega) (by omega), a.1 _ _ (by omega)]; exact (st_pi h hx).2.2.2.2) hc
    refine ⟨(nI (q + 1), dw_st (dw_st ν 136 q (nI (rk q))) 135 1 (nI (max m (rk q)))), ?_, rfl, fun c j h1 h2 => ?_, f3, fun q' hq' => ?_, max m (rk q), by omega, ?_, fun q' hq' => ?_⟩
    · show sX0_plan_33 (nI q) ν = _
      unfold sX0_plan_33
      rw [cN ν f2, if_neg (nI_ge hq (by omega)), pb_bd hr, pb_gd (pb_ok rfl (by omega) (by decide)), pb_cl rfl (by omega)]
      simp only [dw_nm]
      rw [pb_o (c := 135) (by omega), g2, pb_i, mx_nn (by omega) (by omega), nI_1]
    · show (dw_st (dw_st ν 136 _ _) 135 _ _).1 c j = _
      rw [pb_oc h1, pb_oc h2]
      exact f2 c j h1 h2
    · show (dw_st (dw_st ν 136 _ _) 135 _ _).1 136 q' = _
      rw [pb_o (Or.inl (by omega))]
      by_cases e : q' = q
      · rw [e, pb_i]
      · rw [pb_o (Or.inr e)]
        exact g1 q' (by omega)
    · show (dw_st (dw_st ν 136 _ _) 135 1 _).1 135 1 = _
      rw [pb_i]
    · by_cases e : q' = q
      · rw [e]; omega
      · have := g3 q' (by omega)
        omega) (fun x hx => by
    obtain ⟨x, ν⟩ := x
    obtain ⟨f1, f2, f3, f4⟩ := hx
    have f1 : x = nI N := f1
    have f2 : ∀ c j, c ≠ 135 → c ≠ 136 → ν.1 c j = μ.1 c j := f2
    subst f1
    refine ⟨ν, ?_, f2, f3, f4⟩
    show sX0_plan_33 (nI N) ν = _
    unfold sX0_plan_33
    rw [cN ν f2, if_pos (nI_le (Nat.le_refl _) (by omega))]) (fuel := 1000) (by omega) (x := ((0 : Int32), μ)) ⟨rfl, fun _ _ _ _ => rfl, rfl, fun q' hq' => absurd hq' (by omega), 0, by omega, h0, fun q' hq' => absurd hq' (by omega)⟩
  exact ⟨r, h1, h4, h2, h3⟩
theorem cl_plan (h : stt R C P N T) (a : ag T μ) (hrk : ∀ q, q < N → rk q < N ∧ ∃ c, ch N T q (rk q) c) : ∃ ν, fX0_plan μ = some ν ∧ d_ok T C N ν ∧ r_ok rk N ν ∧ (∀ c k, (c < 135 ∨ 139 ≤ c) → ν.1 c k = μ.1 c k) ∧ ν.2 = μ.2 := by
  obtain ⟨ν, h1, h2, h3, h4⟩ := cl_pd h a
  have a' : ag T (dw_st ν 135 1 0) := ⟨fun c k hc => by rw [pb_o (by omega), h3 _ _ (by omega) (by omega)]; exact a.1 c k hc, fun j hj hm => by rw [pb_o (by omega), h3 _ _ (by omega) (by omega)]; exact a.2 j hj hm⟩
  obtain ⟨ν2, k1, k2, k3, k4⟩ := cl_rk h a' hrk pb_i
  refine ⟨ν2, ?_, ?_, k2, fun c k hc => ?_, by rw [k4]; exact h4⟩
  · unfold fX0_plan
    rw [pb_bd h1]
    simp only [dw_nm]
    rw [pb_bd k1]
  · refine ⟨fun p hp => ?_, fun p q hp hq hpr => ?_⟩
    · rw [k3 _ _ (by omega) (by omega), pb_o (by omega)]
      exact h2.1 p hp
    · rw [k3 _ _ (by omega) (by omega), pb_o (by omega)]
      exact h2.2 p q hp hq hpr
  · rw [k3 _ _ (by omega) (by omega), pb_o (by omega), h3 _ _ (by omega) (by omega)]
end
