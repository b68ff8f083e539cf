/-! the plan of the flow -/
def o_cu (rk : Nat → Nat) (N r : Nat) : Nat := fb_ct (fun x => decide (rk x < r)) N
def o_cn (rk : Nat → Nat) (r q : Nat) : Nat := fb_ct (fun x => decide (rk x = r)) q
def o_po (rk : Nat → Nat) (N q : Nat) : Nat := o_cu rk N (rk q) + o_cn rk (rk q) q
section
variable {rk : Nat → Nat} {N : Nat}
theorem o_cu_s (r : Nat) : o_cu rk N (r + 1) = o_cu rk N r + o_cn rk r N := by
  unfold o_cu o_cn
  rw [← fb_ct_or (fun k _ h => by
    have h1 := of_decide_eq_true h.1
    have h2 := of_decide_eq_true h.2
    omega)]
  apply fb_ct_cong
  intro k _
  by_cases c : rk k < r
  · simp [c, show rk k < r + 1 by omega]
  · by_cases c2 : rk k = r
    · simp [c2]
    · simp [c, c2, show ¬ rk k < r + 1 by omega]
theorem o_cu_m {r r' : Nat} (h : r ≤ r') : o_cu rk N r ≤ o_cu rk N r' := fb_ct_sub (fun k _ h1 => by
  have := of_decide_eq_true h1
  exact decide_eq_true (by omega))
theorem o_cn_lt {q q' : Nat} (h : q' < q) {r : Nat} (e : rk q' = r) : o_cn rk r q' < o_cn rk r q := by
  have h1 := fb_ct_succ (fun x => decide (rk x = r)) q'
  have h2 := fb_ct_mono (fun x => decide (rk x = r)) (show q' + 1 ≤ q by omega)
  rw [decide_eq_true e] at h1
  simp at h1
  unfold o_cn
  omega
theorem o_po_lt {q : Nat} (hq : q < N) : o_po rk N q < o_cu rk N (rk q + 1) := by
  unfold o_po
  rw [o_cu_s]
  have := o_cn_lt (rk := rk) hq rfl
  omega
theorem o_before {q' q r : Nat} (hq' : q' < N) (h : rk q' < r ∨ (rk q' = r ∧ q' < q)) : o_po rk N q' < o_cu rk N r + o_cn rk r q := by
  rcases h with h | ⟨h, h2⟩
  · have h1 := o_po_lt (rk := rk) hq'
    have h3 := o_cu_m (rk := rk) (N := N) (show rk q' + 1 ≤ r by omega)
    omega
  · unfold o_po
    rw [h]
    have := o_cn_lt h2 h
    omega
theorem o_cu_le (r : Nat) : o_cu rk N r ≤ N := fb_ct_le _ _
theorem o_po_N {q : Nat} (hq : q < N) : o_po rk N q < N := Nat.lt_of_lt_of_le (o_po_lt hq) (o_cu_le _)
theorem o_cu_all (h : ∀ q, q < N → rk q < N) {r : Nat} (hr : N ≤ r) : o_cu rk N r = N := fb_ct_all.mpr (fun k hk => decide_eq_true (by have := h k hk; omega))
theorem o_po_inj {i j : Nat} (hij : i < j) (hj : j < N) : o_po rk N i ≠ o_po rk N j := by
  intro e
  rcases (by omega : rk i < rk j ∨ rk i = rk j ∨ rk j < rk i) with h | h | h
  · have := o_before (q := j) (r := rk j) (show i < N by omega) (Or.inl h)
    unfold o_po at e this
    omega
  · have := o_before (q := j) (r := rk j) (show i < N by omega) (Or.inr ⟨h, hij⟩)
    unfold o_po at e this
    omega
  · have := o_before (q := i) (r := rk i) hj (Or.inl h)
    unfold o_po at e this
    omega
theorem o_onto {t : Nat} (ht : t < N) : ∃ q, q < N ∧ o_po rk N q = t := fb_onto (fun i hi => o_po_N hi) (fun i j hij hj => o_po_inj hij hj) ht
end
theorem a_rkex {R C P N : Nat} {T : dw_M} (h : stt R C P N T) : ∃ rk : Nat → Nat, ∀ q, q < N → rk q < N ∧ ∃ c, ch N T q (rk q) c := by
  obtain ⟨d, gn, so, di, pi, it, ac, ra⟩ := h
  obtain ⟨⟨d1, d2, d3, d4, dP, d5, d36, d20⟩, -⟩ := id d
  have h : ∀ q, ∃ L, q < N → L < N ∧ ∃ c, ch N T q L c := by
    intro q
    by_cases hq : q < N
    · obtain ⟨L, c, hc⟩ := ch_ex d20 it ac hq
      exact ⟨L, fun _ => ⟨hc.2.2.2.2, c, hc⟩⟩
    · exact ⟨0, fun z => absurd z hq⟩
  obtain ⟨f, hf⟩ := Classical.axiomOfChoice h
  exact ⟨f, hf⟩
theorem ch_ag {N : Nat} {T μ : dw_M} (a : ag T μ) (hN : N ≤ 20) {p L : Nat} {c : Nat → Nat} (h : ch N T p L c) : ch N μ p L c := by
  obtain ⟨c0, c1, c2, c3, c4⟩ := h
  refine ⟨c0, c1, fun j hj => ?_, ?_, c4⟩
  · rw [ag_in a (by have := c1 j (by omega); omega)]
    exact c2 j hj
  · rw [ag_in a (by have := c1 L (by omega); omega)]
    exact c3
/-- the drains of each place -/
def d_ok (T : dw_M) (C N : Nat) (μ : dw_M) : Prop := (∀ p, p < 36 → μ.1 137 p = nI (fb_ct (a_pr T C p) N)) ∧ ∀ p q, p < 36 → q < N → a_pr T C p q = true → μ.1 138 (20 * p + fb_ct (a_pr T C p) q) = nI q
section
variable {R C P N : Nat} {T μ : dw_M}
/-- whether a pipe has the place as a step -/
theorem cl_stp (h : stt R C P N T) (a : ag T μ) {p q : Nat} (hp : p < 36) (hq : q < N) : ∃ r : Int32, fX3_stepOn μ (12 + 1 + 2 * q + 1) (nI p) = some r ∧ (r < 0 ↔ a_on T C q p = false) := by
  obtain ⟨hN, hP, hC1, hC6⟩ := st_20 h
  obtain ⟨m1, m2, m3, m4, m5, m6⟩ := pp_g hP (h.2.2.2.2.1 q hq)
  have l1 : μ.1 (12 + 1 + 2 * q + 1) 2 = nI (pm T q) := by rw [a.1 _ _ (by omega), m4]
  have l2 : ∀ k, k < pm T q → pp T C q k < 36 ∧ fX3_placeAt μ (12 + 1 + 2 * q + 1) (nI k) = nI (pp T C q k) := by
    intro k hk
    refine ⟨by have := (m5 k hk).1; omega, ?_⟩
    rw [← (m5 k hk).2.1]
    unfold fX3_placeAt
    rw [a.1 _ _ (by omega), a.1 _ _ (by omega)]
  obtain ⟨c1, c2⟩ := cl_son l1 m2 l2 m6 hp
  cases hb : a_on T C q p with
  | true =>
    unfold a_on at hb
    obtain ⟨k, hk, e⟩ := anyB_t hb
    exact ⟨nI k, c1 k hk (of_decide_eq_true e), ⟨fun z => absurd z (nI_pos (by omega)), fun z => by cases z⟩⟩
  | false =>
    unfold a_on at hb
    exact ⟨-1, c2 (fun k hk => of_decide_eq_false (anyB_f hb k hk)), ⟨fun _ => rfl, fun _ => by decide⟩⟩
/-- the drains of one place -/
theorem cl_pd1 (h : stt R C P N T) (a : ag T μ) {p : Nat} (hp : p < 36) : ∃ ν, fX0_planDrains μ (nI p) = some (nI (fb_ct (a_pr T C p) N), ν) ∧ (∀ c k, (c ≠ 138 ∨ k < 20 * p ∨ 20 * p + 20 ≤ k) → ν.1 c k = μ.1 c k) ∧ ν.2 = μ.2 ∧ ∀ q, q < N → a_pr T C p q = true → ν.1 138 (20 * p + fb_ct (a_pr T C p) q) = nI q := by
  obtain ⟨hN, hP, hC1, hC6⟩ := st_20 h
  obtain ⟨e0, e1, e2, e3, e4, e5⟩ := st_dim h
  unfold fX0_planDrains
  obtain ⟨⟨y, ν⟩, h1, h2, h3, h4, h5⟩ := pb_inv (step := fun v : Int32 × Int32 × dw_M => sX0_planDrains_5 (nI p) v.1 v.2.1 v.2.2) (fun q x => x.1 = nI (fb_ct (a_pr T C p) q) ∧ x.2.1 = nI q ∧ (∀ c k, (c ≠ 138 ∨ k < 20 * p ∨ 20 * p + 20 ≤ k) → x.2.2.1 c k = μ.1 c k) ∧ x.2.2.2 = μ.2 ∧ ∀ q', q' < q → a_pr T C p q' = true → x.2.2.1 138 (20 * p + fb_ct (a_pr T C p) q') = nI q') N (fun y => y.1 = nI (fb_ct (a_pr T C p) N) ∧ (∀ c k, (c ≠ 138 ∨ k < 20 * p ∨ 20 * p + 20 ≤ k) → y.2.1 c k = μ.1 c k) ∧ y.2.2 = μ.2 ∧ ∀ q', q' < N → a_pr T C p q' = true → y.2.1 138 (20 * p + fb_ct (a_pr T C p) q') = nI q') (fun q x hq hx => by
    obtain ⟨x1, x2, ρ⟩ := x
    obtain ⟨f0, f1, f2, f3, f4⟩ := hx
    have f0 : x1 = nI (fb_ct (a_pr T C p) q) := f0
    have f1 : x2 = nI q := f1
    have f2 : ∀ c k, (c ≠ 138 ∨ k < 20 * p ∨ 20 * p + 20 ≤ k) → ρ.1 c k = μ.1 c k := f2
    have f3 : ρ.2 = μ.2 := f3
    have f4 : ∀ q', q' < q → a_pr T C p q' = true → ρ.1 138 (20 * p + fb_ct (a_pr T C p) q') = nI q' := f4
    subst f0
    subst f1
    have ag' : ag T ρ := ⟨fun c k hc => by rw [f2 _ _ (by omega)]; exact a.1 c k hc, fun j hj hm => by rw [f2 _ _ (by omega)]; exact a.2 j hj hm⟩
    have hs := stt_ag h ag'
    have hlat : fX5_isLateral ρ (12 + 1 + 2 * q) = b2i (lat T q) := by rw [cl_lat (hs.2.2.2.2.1 q hq), ag_lat ag' (by omega)]
    obtain ⟨r, hr, hr0⟩ := cl_stp h ag' hp hq
    have hle := fb_ct_le (a_pr T C p) q
    have go : sX0_planDrains_5 (nI p) (nI (fb_ct (a_pr T C p) q)) (nI q) ρ = if a_pr T C p q = true then some (.inl (nI (fb_ct (a_pr T C p) q + 1), nI (q + 1), dw_st ρ 138 (20 * p + fb_ct (a_pr T C p) q) (nI q))) else some (.inl (nI (fb_ct (a_pr T C p) q), nI (q + 1), ρ)) := by
      have epr : a_pr T C p q = (lat T q && a_on T C q p) := rfl
      unfold sX0_planDrains_5
      rw [f2 11 1 (by omega), a.1 _ _ (by omega), e5, if_neg (nI_ge hq (by omega)), pb_gd (pb_ok rfl (by omega) (by decide)), pb_cl (x := nI q) rfl (by omega), hlat, pb_bd hr, show (20 : Int32) = nI 20 from rfl, pk_mul, nI_add, show p * 20 + fb_ct (a_pr T C p) q = 20 * p + fb_ct (a_pr T C p) q by omega, pb_gd (pb_ok rfl (by omega) (by decide)), pb_cl (x := nI (20 * p + fb_ct (a_pr T C p) q)) rfl (by omega), epr]
      simp only [dw_nm, nI_1]
      cases lat T q with
      | false => rfl
      | true =>
        rw [if_neg (show ¬ b2i true = 0 by decide)]
        by_cases c : a_on T C q p = false
        · rw [if_pos (hr0.mpr c), c]; rfl
        · have c2 : a_on T C q p = true := by simpa using c
          rw [if_neg (fun z => c (hr0.mp z)), c2]; rfl
    left
    by_cases hpr : a_pr T C p q = true
    · rw [if_pos hpr] at go
      have hs1 : fb_ct (a_pr T C p) (q + 1) = fb_ct (a_pr T C p) q + 1 := by rw [fb_ct_succ, hpr]; rfl
      refine ⟨_, go, by show nI _ = nI _; rw [hs1], rfl, fun c k hc => ?_, f3, fun q' hq' hpr' => ?_⟩
      · show (dw_st ρ 138 _ _).1 c k = _
        rw [pb_o (by omega)]
        exact f2 c k hc
      · show (dw_st ρ 138 _ _).1 138 _ = _
        by_cases eq : q' = q
        · rw [eq, pb_i]
        · have hlt : fb_ct (a_pr T C p) q' < fb_ct (a_pr T C p) q := by
            have h1 := fb_ct_succ (a_pr T C p) q'
            have h2 := fb_ct_mono (a_pr T C p) (show q' + 1 ≤ q by omega)
            rw [hpr'] at h1
            simp at h1
            omega
          rw [pb_o (Or.inr (by omega))]
          exact f4 q' (by omega) hpr'
    · rw [if_neg hpr] at go
      have hs1 : fb_ct (a_pr T C p) (q + 1) = fb_ct (a_pr T C p) q := by
        rw [fb_ct_succ, show a_pr T C p q = false by simpa using hpr]; rfl
      refine ⟨_, go, by show nI _ = nI _; rw [hs1], rfl, f2, f3, fun q' hq' hpr' => ?_⟩
      by_cases eq : q' = q
      · rw [eq] at hpr'; exact absurd hpr' hpr
      · exact f4 q' (by omega) hpr') (fun x hx => by
    obtain ⟨x1, x2, ρ⟩ := x
    obtain ⟨f0, f1, f2, f3, f4⟩ := hx
    have f0 : x1 = nI (fb_ct (a_pr T C p) N) := f0
    have f1 : x2 = nI N := f1
    have f2 : ∀ c k, (c ≠ 138 ∨ k < 20 * p ∨ 20 * p + 20 ≤ k) → ρ.1 c k = μ.1 c k := f2
    subst f0
    subst f1
    refine ⟨(nI (fb_ct (a_pr T C p) N), ρ), ?_, rfl, f2, f3, f4⟩
    show sX0_planDrains_5 (nI p) (nI (fb_ct (a_pr T C p) N)) (nI N) ρ = _
    unfold sX0_planDrains_5
    rw [f2 11 1 (by omega), a.1 _ _ (by omega), e5, if_pos (nI_le (Nat.le_refl _) (by omega))]) (fuel := 1000) (by omega) (x := ((0 : Int32), (0 : Int32), μ)) ⟨rfl, rfl, fun _ _ _ => rfl, rfl, fun q' hq' => absurd hq' (by omega)⟩
  have h2 : y = nI (fb_ct (a_pr T C p) N) := h2
  subst h2
  exact ⟨ν, by rw [pb_bd h1], h3, h4, h5⟩
theorem cl_pd (h : stt R C P N T) (a : ag T μ) : ∃ ν, dw_wh (fun v => sX0_plan_2 v.1 v.2) 1000 ((0 : Int32), μ) = some ν ∧ d_ok T C N ν ∧ (∀ c k, c ≠ 137 → c ≠ 138 → ν.1 c k = μ.1 c k) ∧ ν.2 = μ.2 := by
  obtain ⟨hN, hP, hC1, hC6⟩ := st_20 h
  obtain ⟨r, h1, h2, h3, h4⟩ := pb_inv (step := fun v : Int32 × dw_M => sX0_plan_2 v.1 v.2) (fun p x => x.1 = nI p ∧ (∀ c j, c ≠ 137 → c ≠ 138 → x.2.1 c j = μ.1 c j) ∧ x.2.2 = μ.2 ∧ (∀ k, k < p → x.2.1 137 k = nI (fb_ct (a_pr T C k) N)) ∧ ∀ k q, k < p → q < N → a_pr T C k q = true → x.2.1 138 (20 * k + fb_ct (a_pr T C k) q) = nI q) 36 (fun ν => (∀ c k, c ≠ 137 → c ≠ 138 → ν.1 c k = μ.1 c k) ∧ ν.2 = μ.2 ∧ d_ok T C N ν) (fun p x hp hx => by
    obtain ⟨x, ν⟩ := x
    obtain ⟨f1, f2, f3, f4, f5⟩ := hx
    have f1 : x = nI p := f1
    have f2 : ∀ c j, c ≠ 137 → c ≠ 138 → ν.1 c j = μ.1 c j := f2
    have f3 : ν.2 = μ.2 := f3
    have f4 : ∀ k, k < p → ν.1 137 k = nI (fb_ct (a_pr T C k) N) := f4
    have f5 : ∀ k q, k < p → q < N → a_pr T C k q = true → ν.1 138 (20 * k + fb_ct (a_pr T C k) q) = nI q := f5
    subst f1
    have ag' : ag T ν := ⟨fun c k hc => by rw [f2 _ _ (by omega) (by omega)]; exact a.1 c k hc, fun j hj hm => by rw [f2 _ _ (by omega) (by omega)]; exact a.2 j hj hm⟩
    obtain ⟨ν2, k1, k2, k3, k4⟩ := cl_pd1 h ag' hp
    left
    refine ⟨(nI (p + 1), dw_st ν2 137 p (nI (fb_ct (a_pr T C p) N))), ?_, rfl, fun c j h1 h2 => ?_, ?_, fun k hk => ?_, fun k q hk hq hpr => ?_⟩
    · show sX0_plan_2 (nI p) ν = _
      unfold sX0_plan_2
      rw [if_neg (n_36 hp), pb_b2 k1, pb_gd (pb_ok rfl hp (by decide)), pb_cl rfl (by omega), nI_1]
      rfl
    · show (dw_st ν2 137 _ _).1 c j = _
      rw [pb_oc h1, k2 c j (Or.inl h2)]
      exact f2 c j h1 h2
    · show ν2.2 = _
      rw [k3, f3]
    · show (dw_st ν2 137 _ _).1 137 k = _
      by_cases e : k = p
      · rw [e, pb_i]
      · rw [pb_o (Or.inr e), k2 _ _ (Or.inl (by omega))]
        exact f4 k (by omega)
    · show (dw_st ν2 137 _ _).1 138 _ = _
      rw [pb_o (Or.inl (by omega))]
      by_cases e : k = p
      · subst e
        exact k4 q hq hpr
      · have hle := fb_ct_le (a_pr T C k) q
        rw [k2 _ _ (by omega)]
        exact f5 k q (by omega) hq hpr) (fun x hx => by
    obtain ⟨x, ν⟩ := x
    obtain ⟨f1, f2, f3, f4, f5⟩ := hx
    have f1 : x = nI 36 := f1
    subst f1
    refine ⟨ν, ?_, f2, f3, f4, f5⟩
    show sX0_plan_2 (nI 36) ν = _
    unfold sX0_plan_2
    rw [if_pos (by decide)]) (fuel := 1000) (by omega) (x := ((0 : Int32), μ)) ⟨rfl, fun _ _ _ _ => rfl, rfl, fun k hk => absurd hk (by omega), fun k q hk => absurd hk (by omega)⟩
  exact ⟨r, h1, h4, h2, h3⟩
end
