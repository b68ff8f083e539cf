/-- the order of the pipes -/
def o_ok (rk : Nat → Nat) (N : Nat) (μ : dw_M) : Prop := ∀ q, q < N → μ.1 136 (o_po rk N q) = nI q
section
variable {R C P N : Nat} {T μ : dw_M} {rk : Nat → Nat}
theorem cl_po (h : stt R C P N T) (a : ag T μ) (hrk : ∀ q, q < N → rk q < N ∧ ∃ c, ch N T q (rk q) c) : ∃ ν, fX0_planOrder μ = some ν ∧ o_ok rk N ν ∧ (∀ c k, c ≠ 136 → c ≠ 137 → ν.1 c k = μ.1 c k) ∧ ν.2 = μ.2 := by
  obtain ⟨hN, hP, hC1, hC6⟩ := st_20 h
  obtain ⟨e0, e1, e2, e3, e4, e5⟩ := st_dim h
  have cN : ∀ ν : dw_M, (∀ c j, c ≠ 136 → c ≠ 137 → ν.1 c j = μ.1 c j) → ν.1 11 1 = nI N := fun ν e => by rw [e _ _ (by omega) (by omega), a.1 _ _ (by omega), e5]
  unfold fX0_planOrder
  -- the ranks
  obtain ⟨r, h1, h2, h3, h4⟩ := pb_inv (step := fun v : Int32 × dw_M => sX0_planOrder_2 v.1 v.2) (fun q x => x.1 = nI q ∧ (∀ c j, c ≠ 136 → c ≠ 137 → x.2.1 c j = μ.1 c j) ∧ x.2.2 = μ.2 ∧ ∀ q', q' < q → x.2.1 137 q' = nI (rk q')) N (fun ν => (∀ c j, c ≠ 136 → c ≠ 137 → ν.1 c j = μ.1 c j) ∧ ν.2 = μ.2 ∧ ∀ q', q' < N → ν.1 137 q' = nI (rk q')) (fun q x hq hx => by
    obtain ⟨x, ν⟩ := x
    obtain ⟨f1, f2, f3, f4⟩ := hx
    have f1 : x = nI q := f1
    have f2 : ∀ c j, c ≠ 136 → c ≠ 137 → ν.1 c j = μ.1 c j := f2
    have f3 : ν.2 = μ.2 := f3
    have f4 : ∀ q', q' < q → ν.1 137 q' = nI (rk q') := f4
    subst f1
    left
    obtain ⟨-, c, hc⟩ := hrk q hq
    have hr := cl_rank (μ := T) (ρ := ν) hN (fun x hx => by rw [f2 _ _ (by omega) (by omega), a.1 _ _ (by omega)]; exact (st_pi h hx).2.2.2.2) hc
    refine ⟨(nI (q + 1), dw_st ν 137 q (nI (rk q))), ?_, rfl, fun c j h1 h2 => ?_, f3, fun q' hq' => ?_⟩
    · show sX0_planOrder_2 (nI q) ν = _
      unfold sX0_planOrder_2
      rw [cN ν f2, if_neg (nI_ge hq (by omega)), pb_bd hr, pb_gd (pb_ok rfl (by omega) (by decide)), pb_cl rfl (by omega), nI_1]
      rfl
    · show (dw_st ν 137 _ _).1 c j = _
      rw [pb_oc h2]
      exact f2 c j h1 h2
    · show (dw_st ν 137 _ _).1 137 q' = _
      by_cases e : q' = q
      · rw [e, pb_i]
      · rw [pb_o (Or.inr e)]
        exact f4 q' (by omega)) (fun x hx => by
    obtain ⟨x, ν⟩ := x
    obtain ⟨f1, f2, f3, f4⟩ := hx
    have f1 : x = nI N := f1
    have f2 : ∀ c j, c ≠ 136 → c ≠ 137 → ν.1 c j = μ.1 c j := f2
    subst f1
    refine ⟨ν, ?_, f2, f3, f4⟩
    show sX0_planOrder_2 (nI N) ν = _
    unfold sX0_planOrder_2
    rw [cN ν f2, if_pos (nI_le (Nat.le_refl _) (by omega))]) (fuel := 1000) (by omega) (x := ((0 : Int32), μ)) ⟨rfl, fun _ _ _ _ => rfl, rfl, fun q' hq' => absurd hq' (by omega)⟩
  rw [pb_bd h1]
  -- the inner loop
  have inner : ∀ (rr : Nat) (ν : dw_M), rr < N → (∀ c j, c ≠ 136 → ν.1 c j = r.1 c j) → ν.2 = μ.2 → (∀ q', q' < N → rk q' < rr → ν.1 136 (o_po rk N q') = nI q') → ∃ ν2, dw_wh (fun v => sX0_planOrder_42 (nI rr) v.1 v.2.1 v.2.2) 1000 (nI (o_cu rk N rr), (0 : Int32), ν) = some (nI (o_cu rk N (rr + 1)), ν2) ∧ (∀ c j, c ≠ 136 → ν2.1 c j = r.1 c j) ∧ ν2.2 = μ.2 ∧ ∀ q', q' < N → rk q' < rr + 1 → ν2.1 136 (o_po rk N q') = nI q' := by
    intro rr ν hrr g1 g2 g3
    obtain ⟨⟨x, ν2⟩, k1, k2, k3, k4, k5⟩ := pb_inv (step := fun v : Int32 × Int32 × dw_M => sX0_planOrder_42 (nI rr) v.1 v.2.1 v.2.2) (fun q x => x.1 = nI (o_cu rk N rr + o_cn rk rr q) ∧ x.2.1 = nI q ∧ (∀ c j, c ≠ 136 → x.2.2.1 c j = r.1 c j) ∧ x.2.2.2 = μ.2 ∧ ∀ q', q' < N → (rk q' < rr ∨ (rk q' = rr ∧ q' < q)) → x.2.2.1 136 (o_po rk N q') = nI q') N (fun y => y.1 = nI (o_cu rk N (rr + 1)) ∧ (∀ c j, c ≠ 136 → y.2.1 c j = r.1 c j) ∧ y.2.2 = μ.2 ∧ ∀ q', q' < N → rk q' < rr + 1 → y.2.1 136 (o_po rk N q') = nI q') (fun q x hq hx => by
      obtain ⟨x1, x2, ρ⟩ := x
      obtain ⟨f0, f1, f2, f3, f4⟩ := hx
      have f0 : x1 = nI (o_cu rk N rr + o_cn rk rr q) := f0
      have f1 : x2 = nI q := f1
      have f2 : ∀ c j, c ≠ 136 → ρ.1 c j = r.1 c j := f2
      have f3 : ρ.2 = μ.2 := f3
      have f4 : ∀ q', q' < N → (rk q' < rr ∨ (rk q' = rr ∧ q' < q)) → ρ.1 136 (o_po rk N q') = nI q' := f4
      subst f0
      subst f1
      have hrq := (hrk q hq).1
      have eR : ρ.1 137 q = nI (rk q) := by rw [f2 _ _ (by omega), h4 q hq]
      have eN : ρ.1 11 1 = nI N := by rw [f2 _ _ (by omega)]; exact cN r h2
      left
      by_cases e : rk q = rr
      · have hpo : o_po rk N q = o_cu rk N rr + o_cn rk rr q := by unfold o_po; rw [e]
        have hlt := o_po_N (rk := rk) hq
        rw [hpo] at hlt
        refine ⟨(nI (o_cu rk N rr + o_cn rk rr (q + 1)), nI (q + 1), dw_st ρ 136 (o_cu rk N rr + o_cn rk rr q) (nI q)), ?_, rfl, rfl, fun c j h1 => ?_, f3, fun q' hq' hb => ?_⟩
        · show sX0_planOrder_42 (nI rr) (nI (o_cu rk N rr + o_cn rk rr q)) (nI q) ρ = _
          unfold sX0_planOrder_42
          rw [eN, if_neg (nI_ge hq (by omega)), pb_gd (pb_ok rfl (by omega) (by decide)), pb_cl rfl (by omega), eR, if_pos (by rw [e]), pb_gd (pb_ok rfl (by omega) (by decide)), pb_cl rfl (by omega)]
          simp only [dw_nm, nI_1]
          have : o_cn rk rr (q + 1) = o_cn rk rr q + 1 := by
            unfold o_cn
            rw [fb_ct_succ, decide_eq_true e]
            rfl
          rw [this]
          rfl
        · show (dw_st ρ 136 _ _).1 c j = _
          rw [pb_oc h1]
          exact f2 c j h1
        · show (dw_st ρ 136 _ _).1 136 _ = _
          by_cases eq : q' = q
          · rw [eq, hpo, pb_i]
          · have hb' : rk q' < rr ∨ (rk q' = rr ∧ q' < q) := by omega
            have := o_before (rk := rk) hq' hb'
            rw [pb_o (Or.inr (by omega))]
            exact f4 q' hq' hb'
      · refine ⟨(nI (o_cu rk N rr + o_cn rk rr (q + 1)), nI (q + 1), ρ), ?_, rfl, rfl, f2, f3, fun q' hq' hb => ?_⟩
        · show sX0_planOrder_42 (nI rr) (nI (o_cu rk N rr + o_cn rk rr q)) (nI q) ρ = _
          unfold sX0_planOrder_42
          rw [eN, if_neg (nI_ge hq (by omega)), pb_gd (pb_ok rfl (by omega) (by decide)), pb_cl rfl (by omega), eR, if_neg (fun z => e ((nI_eq (by omega) (by omega)).mp z))]
          simp only [dw_nm, nI_1]
          have : o_cn rk rr (q + 1) = o_cn rk rr q := by
            unfold o_cn
            rw [fb_ct_succ, decide_eq_false e]
            rfl
          rw [this]
        · have hb' : rk q' < rr ∨ (rk q' = rr ∧ q' < q) := by
            rcases hb with hb | ⟨hb, hb2⟩
            · exact Or.inl hb
            · by_cases eq : q' = q
              · rw [eq] at hb; exact absurd hb e
              · exact Or.inr ⟨hb, by omega⟩
          exact f4 q' hq' hb') (fun x hx => by
      obtain ⟨x1, x2, ρ⟩ := x
      obtain ⟨f0, f1, f2, f3, f4⟩ := hx
      have f0 : x1 = nI (o_cu rk N rr + o_cn rk rr N) := f0
      have f1 : x2 = nI N := f1
      have f2 : ∀ c j, c ≠ 136 → ρ.1 c j = r.1 c j := f2
      subst f0
      subst f1
      have eN : ρ.1 11 1 = nI N := by rw [f2 _ _ (by omega)]; exact cN r h2
      refine ⟨(nI (o_cu rk N (rr + 1)), ρ), ?_, rfl, f2, f3, fun q' hq' hb => f4 q' hq' (by omega)⟩
      show sX0_planOrder_42 (nI rr) (nI (o_cu rk N rr + o_cn rk rr N)) (nI N) ρ = _
      unfold sX0_planOrder_42
      rw [eN, if_pos (nI_le (Nat.le_refl _) (by omega)), o_cu_s]) (fuel := 1000) (by omega) (x := (nI (o_cu rk N rr), (0 : Int32), ν)) ⟨by show _ = nI (_ + 0); rw [Nat.add_zero], rfl, g1, g2, fun q' hq' hb => g3 q' hq' (by omega)⟩
    have k2 : x = nI (o_cu rk N (rr + 1)) := k2
    subst k2
    exact ⟨ν2, k1, k3, k4, k5⟩
  -- the outer loop
  obtain ⟨s, l1, l2, l3, l4⟩ := pb_inv (step := fun v : Int32 × Int32 × dw_M => sX0_planOrder_31 v.1 v.2.1 v.2.2) (fun rr x => x.1 = nI (o_cu rk N rr) ∧ x.2.1 = nI rr ∧ (∀ c j, c ≠ 136 → x.2.2.1 c j = r.1 c j) ∧ x.2.2.2 = μ.2 ∧ ∀ q', q' < N → rk q' < rr → x.2.2.1 136 (o_po rk N q') = nI q') N (fun y => (∀ c j, c ≠ 136 → y.1 c j = r.1 c j) ∧ y.2 = μ.2 ∧ ∀ q', q' < N → y.1 136 (o_po rk N q') = nI q') (fun rr x hrr hx => by
    obtain ⟨x1, x2, ρ⟩ := x
    obtain ⟨f0, f1, f2, f3, f4⟩ := hx
    have f0 : x1 = nI (o_cu rk N rr) := f0
    have f1 : x2 = nI rr := f1
    have f2 : ∀ c j, c ≠ 136 → ρ.1 c j = r.1 c j := f2
    subst f0
    subst f1
    have eN : ρ.1 11 1 = nI N := by rw [f2 _ _ (by omega)]; exact cN r h2
    obtain ⟨ν2, k1, k2, k3, k4⟩ := inner rr ρ hrr f2 f3 f4
    left
    refine ⟨(nI (o_cu rk N (rr + 1)), nI (rr + 1), ν2), ?_, rfl, rfl, k2, k3, k4⟩
    show sX0_planOrder_31 (nI (o_cu rk N rr)) (nI rr) ρ = _
    unfold sX0_planOrder_31
    rw [eN, if_neg (nI_ge hrr (by omega)), pb_bd k1]
    show some (Sum.inl (_, nI rr + 1, _)) = _
    rw [nI_1]) (fun x hx => by
    obtain ⟨x1, x2, ρ⟩ := x
    obtain ⟨f0, f1, f2, f3, f4⟩ := hx
    have f1 : x2 = nI N := f1
    have f2 : ∀ c j, c ≠ 136 → ρ.1 c j = r.1 c j := f2
    subst f1
    have eN : ρ.1 11 1 = nI N := by rw [f2 _ _ (by omega)]; exact cN r h2
    refine ⟨ρ, ?_, f2, f3, fun q' hq' => f4 q' hq' (hrk q' hq').1⟩
    show sX0_planOrder_31 x1 (nI N) ρ = _
    unfold sX0_planOrder_31
    rw [eN, if_pos (nI_le (Nat.le_refl _) (by omega))]) (fuel := 1000) (by omega) (x := ((0 : Int32), (0 : Int32), r)) ⟨by
      show (0 : Int32) = nI (o_cu rk N 0)
      rw [show o_cu rk N 0 = 0 from fb_ct_zero.mpr (fun k _ => by simp)]
      rfl, rfl, fun _ _ _ => rfl, h3, fun q' _ hz => absurd hz (by omega)⟩
  refine ⟨s, by rw [pb_bd l1], l4, fun c k h1 h5 => ?_, l3⟩
  rw [l2 c k h1, h2 c k h1 h5]
theorem cl_plan (h : stt R C P N T) (a : ag T μ) (hrk : ∀ q, q < N → rk q < N ∧ ∃ c, ch N T q (rk q) c) : ∃ ν, fX0_plan μ = some ν ∧ d_ok T C N ν ∧ o_ok rk N ν ∧ (∀ c k, (c < 135 ∨ 139 ≤ c) → ν.1 c k = μ.1 c k) ∧ ν.2 = μ.2 := by
  obtain ⟨ν, h1, h2, h3, h4⟩ := cl_pd h a
  have a' : ag T ν := ⟨fun c k hc => by rw [h3 _ _ (by omega) (by omega)]; exact a.1 c k hc, fun j hj hm => by rw [h3 _ _ (by omega) (by omega)]; exact a.2 j hj hm⟩
  obtain ⟨ν2, k1, k2, k3, k4⟩ := cl_po h a' hrk
  refine ⟨ν2, ?_, ?_, k2, fun c k hc => ?_, by rw [k4, h4]⟩
  · unfold fX0_plan
    rw [pb_bd h1, pb_bd k1]
  · refine ⟨fun p hp => ?_, fun p q hp hq hpr => ?_⟩
    · rw [k3 _ _ (by omega) (by omega)]
      exact h2.1 p hp
    · rw [k3 _ _ (by omega) (by omega)]
      exact h2.2 p q hp hq hpr
  · rw [k3 _ _ (by omega) (by omega), h3 _ _ (by omega) (by omega)]
end
