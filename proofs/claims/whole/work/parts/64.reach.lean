/-! the pipes' numbers as functions -/
def pm (μ : dw_M) (q : Nat) : Nat := (μ.1 143 (400 + 20 * q + 11)).toNatClampNeg
def pp (μ : dw_M) (C q k : Nat) : Nat := (μ.1 143 (400 + 20 * q + 1) + nI k * rl_sr (nI C) (μ.1 143 (400 + 20 * q + 1)) (μ.1 143 (400 + 20 * q + 2))).toNatClampNeg
theorem pp_g {P C q : Nat} {μ : dw_M} (hP : P ≤ 36) (h : rl_pp P (nI C) 1 143 q μ) : 2 ≤ pm μ q ∧ pm μ q ≤ 6 ∧ μ.1 143 (400 + 20 * q + 11) = nI (pm μ q) ∧ μ.1 (12 + 1 + 2 * q + 1) 2 = nI (pm μ q) ∧ (∀ k, k < pm μ q → pp μ C q k < P ∧ fX3_placeAt μ (12 + 1 + 2 * q + 1) (nI k) = nI (pp μ C q k) ∧ μ.1 143 (400 + 20 * q + 1) + nI k * rl_sr (nI C) (μ.1 143 (400 + 20 * q + 1)) (μ.1 143 (400 + 20 * q + 2)) = nI (pp μ C q k) ∧ fX3_levelAt μ (12 + 1 + 2 * q + 1) (nI k) = μ.1 143 (400 + 20 * q + 3) - nI k * μ.1 143 (400 + 20 * q + 4)) ∧ ∀ j k, j < pm μ q → k < pm μ q → pp μ C q j = pp μ C q k → j = k := by
  obtain ⟨m, hm1, hm2, hst, hcs, pl, hpl, hinj⟩ := ln_pl (m := 0) (pp_f h).2.2.2.2.2
  have em : pm μ q = m := by
    unfold pm
    rw [hst, nI_clamp (by omega)]
  have ep : ∀ k, k < m → pp μ C q k = pl k := by
    intro k hk
    have := hpl k hk
    unfold pp
    rw [this.2.2.1, nI_clamp (by omega)]
  rw [em]
  refine ⟨hm1, hm2, hst, hcs, fun k hk => by rw [ep k hk]; exact hpl k hk, fun j k hj hk e => hinj j k hj hk (by rw [← ep j hj, ← ep k hk]; exact e)⟩
def anyB (p : Nat → Bool) : Nat → Bool
  | 0 => false
  | n + 1 => anyB p n || p n
theorem anyB_t {p : Nat → Bool} : ∀ {n : Nat}, anyB p n = true → ∃ k, k < n ∧ p k = true
  | 0, h => by cases h
  | n + 1, h => by
    unfold anyB at h
    rw [Bool.or_eq_true] at h
    rcases h with h | h
    · obtain ⟨k, hk, e⟩ := anyB_t h
      exact ⟨k, by omega, e⟩
    · exact ⟨n, by omega, h⟩
theorem anyB_f {p : Nat → Bool} : ∀ {n : Nat}, anyB p n = false → ∀ k, k < n → p k = false
  | 0, _, k, hk => absurd hk (by omega)
  | n + 1, h, k, hk => by
    unfold anyB at h
    rw [Bool.or_eq_false_iff] at h
    by_cases e : k = n
    · rw [e]; exact h.2
    · exact anyB_f h.1 k (by omega)
def b2i (b : Bool) : Int32 := if b then 1 else 0
theorem b2i_0 (b : Bool) : b2i b = 0 ↔ b = false := by cases b <;> decide
/-- a search from below: the first that has p, or none -/
theorem pb_find {ρ : Type} {step : Int32 → Option (Int32 ⊕ (Unit ⊕ ρ))} (p : Nat → Bool) {n : Nat} (hn : n < 900) (r : Nat → ρ) (h1 : ∀ j, j < n → p j = false → step (nI j) = some (.inl (nI (j + 1)))) (h2 : ∀ j, j < n → p j = true → step (nI j) = some (.inr (.inr (r j)))) (h3 : step (nI n) = some (.inr (.inl ()))) : (anyB p n = false → dw_wh step 1000 0 = some (.inl ())) ∧ (anyB p n = true → ∃ j, j < n ∧ p j = true ∧ dw_wh step 1000 0 = some (.inr (r j))) := by
  constructor
  · intro h
    exact pb_det (fun j => nI j) n rfl (fun j hj => h1 j hj (anyB_f h j hj)) h3 (by omega)
  · intro h
    obtain ⟨k, hk, e⟩ := anyB_t h
    obtain ⟨j, hj, e2, hlt⟩ := fb_first (p := fun k => p k = true) ⟨k, hk, e⟩
    exact ⟨j, hj, e2, pb_det (fun j => nI j) j rfl (fun i hi => h1 i (by omega) (by have := hlt i hi; simpa using this)) (h2 j hj e2) (by omega)⟩
theorem nd_sq {x y : Nat} : (nI x - nI y) * (nI x - nI y) = nI (nd x y) * nI (nd x y) := by
  unfold nd
  by_cases c : y ≤ x
  · rw [pk_sub c, show x - y + (y - x) = x - y by omega]
  · have e : nI x - nI y = -(nI (y - x)) := by rw [← pk_sub (by omega : x ≤ y), Int32.neg_sub]
    rw [e, Int32.neg_mul_neg, show x - y + (y - x) = y - x by omega]
/-- place t near enough to place a -/
def hit (μ : dw_M) (C a t : Nat) : Bool := !decide (μ.1 8 (μ.1 4 a).toNatClampNeg < nI (nd (a / C) (t / C)) * nI (nd (a / C) (t / C)) + nI (nd (a % C) (t % C)) * nI (nd (a % C) (t % C)))
def lat (μ : dw_M) (q : Nat) : Bool := decide (dw_re (μ.1 143 (400 + 20 * q)) 2 = 0)
theorem cl_lat {P C q : Nat} {μ : dw_M} (h : rl_pp P (nI C) 1 143 q μ) : fX5_isLateral μ (12 + 1 + 2 * q) = b2i (lat μ q) := by
  obtain ⟨f1, ⟨x, hx, e⟩, -⟩ := pp_f h
  unfold fX5_isLateral lat
  rw [f1, e]
  rcases (by omega : x = 0 ∨ x = 1 ∨ x = 2 ∨ x = 3) with rfl | rfl | rfl | rfl <;> decide
theorem md_lat {q : Nat} {μ : dw_M} (hq : q < 20) : fX10_isLateral μ (nI q) = some (b2i (lat μ q)) := by
  unfold fX10_isLateral lat
  rw [pb_bd (md_p0 μ hq)]
  by_cases c : dw_re (μ.1 143 (400 + 20 * q)) 2 = 0
  · rw [if_pos c, decide_eq_true c]; rfl
  · rw [if_neg c, decide_eq_false c]; rfl
def rch (μ : dw_M) (C N a : Nat) : Bool := anyB (fun q => lat μ q && anyB (fun k => hit μ C a (pp μ C q k)) (pm μ q)) N
section
variable {R C P N : Nat} {μ : dw_M}
theorem cl_rb (cC : μ.1 2 0 = nI C) (h1 : 1 ≤ C) (h6 : C ≤ 6) (hP : P ≤ 36) (gn : rl_gnd P 1 143 μ) {a q : Nat} (ha : a < P) (hq : rl_pp P (nI C) 1 143 q μ) : fX1_isReachedBy μ (nI a) (12 + 1 + 2 * q + 1) = some (b2i (anyB (fun k => hit μ C a (pp μ C q k)) (pm μ q))) := by
  obtain ⟨m1, m2, m3, m4, m5, m6⟩ := pp_g hP hq
  obtain ⟨s1, s2, ⟨z, hz, ez⟩, -⟩ := gn a ha
  have s2 : μ.1 4 a = nI z := by rw [← ez]; exact s2
  have ez4 : (μ.1 4 a).toNatClampNeg = z := by rw [s2]; exact nI_clamp (by omega)
  have gen : ∀ j, j < pm μ q → sX1_isReachedBy_17 μ (nI a) (12 + 1 + 2 * q + 1) (μ.1 8 z) (nI j) = if hit μ C a (pp μ C q j) then some (.inr (.inr 1)) else some (.inl (nI (j + 1))) := by
    intro j hj
    obtain ⟨q1, q2, -, -⟩ := m5 j hj
    unfold sX1_isReachedBy_17
    rw [m4, if_neg (nI_ge hj (by omega)), q2, pb_bd (pv_ra9 cC h1 h6 (by omega) (by omega)), pb_bd (pv_ca9 cC h1 h6 (by omega) (by omega)), nI_1]
    unfold hit
    rw [ez4]
    simp only [dw_nm]
    by_cases c : μ.1 8 z < nI (nd (a / C) (pp μ C q j / C)) * nI (nd (a / C) (pp μ C q j / C)) + nI (nd (a % C) (pp μ C q j % C)) * nI (nd (a % C) (pp μ C q j % C))
    · simp [c]
    · simp [c]
  obtain ⟨p1, p2⟩ := pb_find (step := fun v => sX1_isReachedBy_17 μ (nI a) (12 + 1 + 2 * q + 1) (μ.1 8 z) v) (fun k => hit μ C a (pp μ C q k)) (n := pm μ q) (by omega) (fun _ => (1 : Int32)) (fun j hj e => by
    show sX1_isReachedBy_17 μ (nI a) (12 + 1 + 2 * q + 1) (μ.1 8 z) (nI j) = _
    rw [gen j hj]
    simp [e]) (fun j hj e => by
    show sX1_isReachedBy_17 μ (nI a) (12 + 1 + 2 * q + 1) (μ.1 8 z) (nI j) = _
    rw [gen j hj]
    simp [e]) (by
    show sX1_isReachedBy_17 μ (nI a) (12 + 1 + 2 * q + 1) (μ.1 8 z) (nI (pm μ q)) = _
    unfold sX1_isReachedBy_17
    rw [m4, if_pos (nI_le (Nat.le_refl _) (by omega))])
  unfold fX1_isReachedBy
  rw [pb_gd (pb_ok rfl (by omega) (by decide)), pb_cl rfl (by omega), s2, pb_bd (pv_na dw_lc8 (by decide) (by omega))]
  cases hb : anyB (fun k => hit μ C a (pp μ C q k)) (pm μ q) with
  | false => rw [pb_bd (p1 hb)]; rfl
  | true =>
    obtain ⟨j, _, _, h⟩ := p2 hb
    rw [pb_bd h]; rfl
theorem cl_rch (cC : μ.1 2 0 = nI C) (cN : μ.1 11 1 = nI N) (h1 : 1 ≤ C) (h6 : C ≤ 6) (hP : P ≤ 36) (hN : N ≤ 20) (gn : rl_gnd P 1 143 μ) (pi : rl_pip P N (nI C) 1 143 μ) {a : Nat} (ha : a < P) : fX6_isReached μ (nI a) = some (b2i (rch μ C N a)) := by
  have gen : ∀ j, j < N → sX6_isReached_2 μ (nI a) (nI j) = if (lat μ j && anyB (fun k => hit μ C a (pp μ C j k)) (pm μ j)) = true then some (.inr (.inr 1)) else some (.inl (nI (j + 1))) := by
    intro j hj
    unfold sX6_isReached_2
    rw [cN, if_neg (nI_ge hj (by omega)), pb_gd (pb_ok rfl (by omega) (by decide)), pb_cl rfl (by omega), cl_lat (pi j hj), pb_bd (cl_rb cC h1 h6 hP gn ha (pi j hj)), nI_1]
    simp only [dw_nm]
    cases lat μ j <;> cases anyB (fun k => hit μ C a (pp μ C j k)) (pm μ j) <;> rfl
  obtain ⟨p1, p2⟩ := pb_find (step := fun v => sX6_isReached_2 μ (nI a) v) (fun q => lat μ q && anyB (fun k => hit μ C a (pp μ C q k)) (pm μ q)) (n := N) (by omega) (fun _ => (1 : Int32)) (fun j hj e => by
    show sX6_isReached_2 μ (nI a) (nI j) = _
    rw [gen j hj]
    rw [e]
    rfl) (fun j hj e => by
    show sX6_isReached_2 μ (nI a) (nI j) = _
    rw [gen j hj]
    rw [e]
    rfl) (by
    show sX6_isReached_2 μ (nI a) (nI N) = _
    unfold sX6_isReached_2
    rw [cN, if_pos (nI_le (Nat.le_refl _) (by omega))])
  unfold fX6_isReached rch
  cases hb : anyB (fun q => lat μ q && anyB (fun k => hit μ C a (pp μ C q k)) (pm μ q)) N with
  | false => rw [pb_bd (p1 hb)]; rfl
  | true =>
    obtain ⟨j, _, _, h⟩ := p2 hb
    rw [pb_bd h]; rfl
theorem md_soil (gn : rl_gnd P 1 143 μ) (so : rl_soi 1 143 μ) (hP : P ≤ 36) {a : Nat} (ha : a < P) : fX10_soilOf μ (nI a) 0 = some (μ.1 5 (μ.1 4 a).toNatClampNeg) ∧ fX10_soilOf μ (nI a) 1 = some (μ.1 6 (μ.1 4 a).toNatClampNeg) ∧ fX10_soilOf μ (nI a) 2 = some (μ.1 7 (μ.1 4 a).toNatClampNeg) ∧ fX10_soilOf μ (nI a) 3 = some (μ.1 8 (μ.1 4 a).toNatClampNeg) := by
  obtain ⟨s1, s2, ⟨z, hz, ez⟩, -⟩ := gn a ha
  have s2 : μ.1 4 a = nI z := by rw [← ez]; exact s2
  obtain ⟨t1, t2, t3, t4, -⟩ := so z hz
  have gen : ∀ w, w < 4 → fX10_soilOf μ (nI a) (nI w) = some (μ.1 143 (300 + 4 * z + w)) := by
    intro w hw
    unfold fX10_soilOf
    rw [pv_a (c := 60) (n := 60) rfl, pb_gd (pb_ok rfl (by omega) (by decide)), pb_cl rfl (by omega), ez, show (4 : Int32) = nI 4 from rfl, pk_mul, pv_a (c := 300) (n := 300) rfl, nI_add, pb_gd (pb_ok rfl (by omega) (by decide)), pb_cl rfl (by omega)]
  rw [s2, nI_clamp (by omega)]
  refine ⟨(gen 0 (by omega)).trans ?_, (gen 1 (by omega)).trans ?_, (gen 2 (by omega)).trans ?_, (gen 3 (by omega)).trans ?_⟩
  · rw [Nat.add_zero]; exact congrArg some t1.symm
  · exact congrArg some t2.symm
  · exact congrArg some t3.symm
  · exact congrArg some t4.symm
theorem md_rch (dC : μ.1 143 1 = nI C) (dN : μ.1 143 13 = nI N) (h1 : 1 ≤ C) (h6 : C ≤ 6) (hP : P ≤ 36) (hN : N ≤ 20) (gn : rl_gnd P 1 143 μ) (so : rl_soi 1 143 μ) (pi : rl_pip P N (nI C) 1 143 μ) {a : Nat} (ha : a < P) : fX10_isReached μ (nI a) = some (b2i (rch μ C N a)) := by
  have inner : ∀ (q : Nat) (b : Bool), q < N → dw_wh (fun v => sX10_isReached_18 μ (nI a) (nI q) v.1 v.2) 1000 (b2i b, (0 : Int32)) = some (b2i (b || (lat μ q && anyB (fun k => hit μ C a (pp μ C q k)) (pm μ q)))) := by
    intro q b hq
    obtain ⟨m1, m2, m3, m4, m5, m6⟩ := pp_g hP (pi q hq)
    by_cases hl : lat μ q = true
    · rw [hl, Bool.true_and]
      refine pb_det (step := fun v => sX10_isReached_18 μ (nI a) (nI q) v.1 v.2) (fun j => (b2i (b || anyB (fun k => hit μ C a (pp μ C q k)) j), nI j)) (pm μ q) (by show (b2i (b || false), nI 0) = _; rw [Bool.or_false]; rfl) (fun j hj => ?_) ?_ (by omega)
      · obtain ⟨q1, q2, q3, -⟩ := m5 j hj
        show sX10_isReached_18 μ (nI a) (nI q) (b2i (b || anyB (fun k => hit μ C a (pp μ C q k)) j)) (nI j) = some (.inl (b2i (b || (anyB (fun k => hit μ C a (pp μ C q k)) j || hit μ C a (pp μ C q j))), nI (j + 1)))
        generalize anyB (fun k => hit μ C a (pp μ C q k)) j = B
        have hsp : fX10_stepPlace μ (nI q) (nI j) = some (nI (pp μ C q j)) := by rw [md_spl dC h1 h6 (by omega), q3]
        unfold sX10_isReached_18
        rw [pb_bd (md_p11 μ (by omega)), m3, if_neg (nI_ge hj (by omega)), pb_bd (md_lat (by omega)), hl, if_neg (by decide), pb_bd (pv_row10 dC h1 h6 (by omega)), pb_bd hsp, pb_bd (pv_row10 dC h1 h6 (by omega))]
        simp only [dw_nm]
        rw [pb_bd (pv_col10 dC h1 h6 (by omega)), pb_bd hsp, pb_bd (pv_col10 dC h1 h6 (by omega)), pb_bd (md_soil gn so hP ha).2.2.2, nd_sq, nd_sq, nI_1]
        unfold hit
        by_cases c : μ.1 8 (μ.1 4 a).toNatClampNeg < nI (nd (a / C) (pp μ C q j / C)) * nI (nd (a / C) (pp μ C q j / C)) + nI (nd (a % C) (pp μ C q j % C)) * nI (nd (a % C) (pp μ C q j % C))
        · rw [if_pos c, decide_eq_true c]
          cases b <;> cases B <;> rfl
        · rw [if_neg c, decide_eq_false c]
          cases b <;> cases B <;> rfl
      · show sX10_isReached_18 μ (nI a) (nI q) _ (nI (pm μ q)) = _
        unfold sX10_isReached_18
        rw [pb_bd (md_p11 μ (by omega)), m3, if_pos (nI_le (Nat.le_refl _) (by omega))]
    · have hl : lat μ q = false := by simpa using hl
      rw [hl, Bool.false_and, Bool.or_false]
      refine pb_det (step := fun v => sX10_isReached_18 μ (nI a) (nI q) v.1 v.2) (fun j => (b2i b, nI j)) 0 rfl (fun j hj => absurd hj (by omega)) ?_ (by omega)
      show sX10_isReached_18 μ (nI a) (nI q) (b2i b) (nI 0) = _
      unfold sX10_isReached_18
      rw [pb_bd (md_p11 μ (by omega)), m3, if_neg (nI_ge (by omega) (by omega)), pb_bd (md_lat (by omega)), hl, if_pos (by decide)]
  unfold fX10_isReached
  have h := pb_det (step := fun v => sX10_isReached_4 μ (nI a) v.1 v.2) (fun j => (b2i (rch μ C j a), nI j)) N (x := ((0 : Int32), (0 : Int32))) rfl (r := b2i (rch μ C N a)) (fun j hj => ?_) ?_ (fuel := 1000) (by omega)
  · rw [pb_bd h, pb_gd (by cases rch μ C N a <;> rfl)]
  · show sX10_isReached_4 μ (nI a) (b2i (rch μ C j a)) (nI j) = some (.inl (b2i (rch μ C (j + 1) a), nI (j + 1)))
    unfold sX10_isReached_4
    rw [pv_c13, dN, if_neg (nI_ge hj (by omega)), pb_bd (inner j _ hj), nI_1]
    rfl
  · show sX10_isReached_4 μ (nI a) _ (nI N) = _
    unfold sX10_isReached_4
    rw [pv_c13, dN, if_pos (nI_le (Nat.le_refl _) (by omega))]
end
