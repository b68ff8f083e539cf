/-! the plan of the flow -/
def o_cu (rk : Nat → Nat) (N r : Nat) : Nat := fb_ct (fun x => decide (rk x < r)) N
def o_cn (rk : Nat → Nat) (r q : Nat) : Nat := fb_ct (fun x => decide (rk x = r)) q
def o_po (rk : Nat → Nat) (N q : Nat) : Nat := o_cu rk N (rk q) + o_cn rk (rk q) q
section
variable {rk : Nat → Nat} {N : Nat}
theorem o_cu_s (r : Nat) : o_cu rk N (r + 1) = o_cu rk N r + o_cn rk r N := by
  unfold o_cu o_cn
  rw [← fb_ct_or (fun k _ h => by
    have h1 := of_decide_eq_true h.1
    have h2 := of_decide_eq_true h.2
    omega)]
  apply fb_ct_cong
  intro k _
  by_cases c : rk k < r
  · simp [c, show rk k < r + 1 by omega]
  · by_cases c2 : rk k = r
    · simp [c2]
    · simp [c, c2, show ¬ rk k < r + 1 by omega]
theorem o_cu_m {r r' : Nat} (h : r ≤ r') : o_cu rk N r ≤ o_cu rk N r' := fb_ct_sub (fun k _ h1 => by
  have := of_decide_eq_true h1
  exact decide_eq_true (by omega))
theorem o_cn_lt {q q' : Nat} (h : q' < q) {r : Nat} (e : rk q' = r) : o_cn rk r q' < o_cn rk r q := by
  have h1 := fb_ct_succ (fun x => decide (rk x = r)) q'
  have h2 := fb_ct_mono (fun x => decide (rk x = r)) (show q' + 1 ≤ q by omega)
  rw [decide_eq_true e] at h1
  simp at h1
  unfold o_cn
  omega
theorem o_po_lt {q : Nat} (hq : q < N) : o_po rk N q < o_cu rk N (rk q + 1) := by
  unfold o_po
  rw [o_cu_s]
  have := o_cn_lt (rk := rk) hq rfl
  omega
theorem o_before {q' q r : Nat} (hq' : q' < N) (h : rk q' < r ∨ (rk q' = r ∧ q' < q)) : o_po rk N q' < o_cu rk N r + o_cn rk r q := by
  rcases h with h | ⟨h, h2⟩
  · have h1 := o_po_lt (rk := rk) hq'
    have h3 := o_cu_m (rk := rk) (N := N) (show rk q' + 1 ≤ r by omega)
    omega
  · unfold o_po
    rw [h]
    have := o_cn_lt h2 h
    omega
theorem o_cu_le (r : Nat) : o_cu rk N r ≤ N := fb_ct_le _ _
theorem o_po_N {q : Nat} (hq : q < N) : o_po rk N q < N := Nat.lt_of_lt_of_le (o_po_lt hq) (o_cu_le _)
theorem o_cu_all (h : ∀ q, q < N → rk q < N) {r : Nat} (hr : N ≤ r) : o_cu rk N r = N := fb_ct_all.mpr (fun k hk => decide_eq_true (by have := h k hk; omega))
theorem o_po_inj {i j : Nat} (hij : i < j) (hj : j < N) : o_po rk N i ≠ o_po rk N j := by
  intro e
  rcases (by omega : rk i < rk j ∨ rk i = rk j ∨ rk j < rk i) with h | h | h
  · have := o_before (q := j) (r := rk j) (show i < N by omega) (Or.inl h)
    unfold o_po at e this
    omega
  · have := o_before (q := j) (r := rk j) (show i < N by omega) (Or.inr ⟨h, hij⟩)
    unfold o_po at e this
    omega
  · have := o_before (q := i) (r := rk i) hj (Or.inl h)
    unfold o_po at e this
    omega
theorem o_onto {t : Nat} (ht : t < N) : ∃ q, q < N ∧ o_po rk N q = t := fb_onto (fun i hi => o_po_N hi) (fun i j hij hj => o_po_inj hij hj) ht
end
theorem a_rkex {R C P N : Nat} {T : dw_M} (h : stt R C P N T) : ∃ rk : Nat → Nat, ∀ q, q < N → rk q < N ∧ ∃ c, ch N T q (rk q) c := by
  obtain ⟨d, gn, so, di, pi, it, ac, ra⟩ := h
  obtain ⟨⟨d1, d2, d3, d4, dP, d5, d36, d20⟩, -⟩ := id d
  have h : ∀ q, ∃ L, q < N → L < N ∧ ∃ c, ch N T q L c := by
    intro q
    by_cases hq : q < N
    · obtain ⟨L, c, hc⟩ := ch_ex d20 it ac hq
      exact ⟨L, fun _ => ⟨hc.2.2.2.2, c, hc⟩⟩
    · exact ⟨0, fun z => absurd z hq⟩
  obtain ⟨f, hf⟩ := Classical.axiomOfChoice h
  exact ⟨f, hf⟩
theorem ch_ag {N : Nat} {T μ : dw_M} (a : ag T μ) (hN : N ≤ 20) {p L : Nat} {c : Nat → Nat} (h : ch N T p L c) : ch N μ p L c := by
  obtain ⟨c0, c1, c2, c3, c4⟩ := h
  refine ⟨c0, c1, fun j hj => ?_, ?_, c4⟩
  · rw [ag_in a (by have := c1 j (by omega); omega)]
    exact c2 j hj
  · rw [ag_in a (by have := c1 L (by omega); omega)]
    exact c3
/-- the drains of each place -/
def d_ok (T : dw_M) (C N : Nat) (μ : dw_M) : Prop := (∀ p, p < 36 → μ.1 137 p = nI (fb_ct (a_pr T C p) N)) ∧ ∀ p q, p < 36 → q < N → a_pr T C p q = true → μ.1 138 (20 * p + fb_ct (a_pr T C p) q) = nI q
section
variable {R C P N : Nat} {T μ : dw_M}
theorem cl_add (h : stt R C P N T) (a : ag T μ) {q : Nat} (hq : q < N) (hl : lat T q = true) (hd : d_ok T C q μ) : ∃ ν, fX0_addDrain μ (12 + 1 + 2 * q + 1) (nI q) = some ν ∧ d_ok T C (q + 1) ν ∧ (∀ c k, c ≠ 137 → c ≠ 138 → ν.1 c k = μ.1 c k) ∧ ν.2 = μ.2 := by
  obtain ⟨hN, hP, hC1, hC6⟩ := st_20 h
  obtain ⟨m1, m2, m3, m4, m5, m6⟩ := pp_g hP (h.2.2.2.2.1 q hq)
  have hpl : ∀ ν : dw_M, (∀ c k, c ≠ 137 → c ≠ 138 → ν.1 c k = μ.1 c k) → ∀ k, k < pm T q → ν.1 (12 + 1 + 2 * q + 1) 2 = nI (pm T q) ∧ fX3_placeAt ν (12 + 1 + 2 * q + 1) (nI k) = nI (pp T C q k) := by
    intro ν e k hk
    refine ⟨by rw [e _ _ (by omega) (by omega), a.1 _ _ (by omega), m4], ?_⟩
    rw [← (m5 k hk).2.1]
    unfold fX3_placeAt
    rw [e _ _ (by omega) (by omega), e _ _ (by omega) (by omega), a.1 _ _ (by omega), a.1 _ _ (by omega)]
  obtain ⟨d1, d2⟩ := hd
  unfold fX0_addDrain
  obtain ⟨r, h1, h2, h3, h4⟩ := pb_inv (step := fun v : Int32 × dw_M => sX0_addDrain_2 (12 + 1 + 2 * q + 1) (nI q) v.1 v.2) (fun k x => x.1 = nI k ∧ (∀ c j, c ≠ 137 → c ≠ 138 → x.2.1 c j = μ.1 c j) ∧ x.2.2 = μ.2 ∧ (∀ p, p < 36 → x.2.1 137 p = nI (fb_ct (a_pr T C p) q + if anyB (fun j => decide (pp T C q j = p)) k then 1 else 0)) ∧ (∀ p q', p < 36 → q' < q → a_pr T C p q' = true → x.2.1 138 (20 * p + fb_ct (a_pr T C p) q') = nI q') ∧ ∀ j, j < k → x.2.1 138 (20 * pp T C q j + fb_ct (a_pr T C (pp T C q j)) q) = nI q) (pm T q) (fun ν => (∀ c k, c ≠ 137 → c ≠ 138 → ν.1 c k = μ.1 c k) ∧ ν.2 = μ.2 ∧ d_ok T C (q + 1) ν) (fun k x hk hx => by
    obtain ⟨x, ν⟩ := x
    obtain ⟨e1, e2, e3, e4, e5, e6⟩ := hx
    have e1 : x = nI k := e1
    have e2 : ∀ c j, c ≠ 137 → c ≠ 138 → ν.1 c j = μ.1 c j := e2
    have e3 : ν.2 = μ.2 := e3
    have e4 : ∀ p, p < 36 → ν.1 137 p = nI (fb_ct (a_pr T C p) q + if anyB (fun j => decide (pp T C q j = p)) k then 1 else 0) := e4
    have e5 : ∀ p q', p < 36 → q' < q → a_pr T C p q' = true → ν.1 138 (20 * p + fb_ct (a_pr T C p) q') = nI q' := e5
    have e6 : ∀ j, j < k → ν.1 138 (20 * pp T C q j + fb_ct (a_pr T C (pp T C q j)) q) = nI q := e6
    subst e1
    obtain ⟨l1, l2⟩ := hpl ν e2 k hk
    have hp : pp T C q k < 36 := by have := (m5 k hk).1; omega
    have hno : anyB (fun j => decide (pp T C q j = pp T C q k)) k = false := by
      cases hb : anyB (fun j => decide (pp T C q j = pp T C q k)) k with
      | false => rfl
      | true =>
        obtain ⟨j, hj, ej⟩ := anyB_t hb
        have := m6 j k (by omega) hk (of_decide_eq_true ej)
        omega
    have hc := e4 _ hp
    rw [hno] at hc
    have hc : ν.1 137 (pp T C q k) = nI (fb_ct (a_pr T C (pp T C q k)) q) := hc
    have hle := fb_ct_le (a_pr T C (pp T C q k)) q
    left
    refine ⟨(nI (k + 1), dw_st (dw_st ν 138 (20 * pp T C q k + fb_ct (a_pr T C (pp T C q k)) q) (nI q)) 137 (pp T C q k) (nI (fb_ct (a_pr T C (pp T C q k)) q + 1))), ?_, rfl, fun c j h1 h2 => ?_, e3, fun p hp36 => ?_, fun p q' hp36 hq' hpr => ?_, fun j hj => ?_⟩
    · show sX0_addDrain_2 (12 + 1 + 2 * q + 1) (nI q) (nI k) ν = _
      unfold sX0_addDrain_2
      rw [l1, if_neg (nI_ge hk (by omega))]
      simp only [dw_nm]
      rw [l2, pb_gd (pb_ok rfl hp (by decide)), pb_cl rfl (by omega), hc, show (20 : Int32) = nI 20 from rfl, pk_mul, nI_add, show pp T C q k * 20 = 20 * pp T C q k by omega, pb_gd (pb_ok rfl (by omega) (by decide)), pb_cl (x := nI (20 * pp T C q k + fb_ct (a_pr T C (pp T C q k)) q)) rfl (by omega), pb_oc (by omega), hc, nI_1, nI_1]
    · show (dw_st (dw_st ν 138 _ _) 137 _ _).1 c j = _
      rw [pb_oc h1, pb_oc h2]
      exact e2 c j h1 h2
    · show (dw_st (dw_st ν 138 _ _) 137 _ _).1 137 p = _
      by_cases ep : p = pp T C q k
      · subst ep
        rw [pb_i]
        simp [anyB]
      · rw [pb_o (Or.inr ep), pb_oc (by omega), e4 p hp36]
        have : decide (pp T C q k = p) = false := decide_eq_false (fun z => ep z.symm)
        simp only [anyB, this, Bool.or_false]
    · show (dw_st (dw_st ν 138 _ _) 137 _ _).1 138 _ = _
      rw [pb_oc (by omega)]
      have hlt : fb_ct (a_pr T C p) q' < fb_ct (a_pr T C p) q := by
        have h1 := fb_ct_succ (a_pr T C p) q'
        have h2 := fb_ct_mono (a_pr T C p) (show q' + 1 ≤ q by omega)
        rw [hpr] at h1
        simp at h1
        omega
      have hle2 := fb_ct_le (a_pr T C p) q
      by_cases ep : p = pp T C q k
      · subst ep
        rw [pb_o (Or.inr (by omega))]
        exact e5 _ _ hp36 hq' hpr
      · rw [pb_o (Or.inr (by omega))]
        exact e5 _ _ hp36 hq' hpr
    · show (dw_st (dw_st ν 138 _ _) 137 _ _).1 138 _ = _
      rw [pb_oc (by omega)]
      by_cases ej : j = k
      · subst ej
        rw [pb_i]
      · have hne : pp T C q j ≠ pp T C q k := fun z => ej (m6 j k (by omega) hk z)
        have hle2 := fb_ct_le (a_pr T C (pp T C q j)) q
        rw [pb_o (Or.inr (by omega))]
        exact e6 j (by omega)) (fun x hx => by
    obtain ⟨x, ν⟩ := x
    obtain ⟨e1, e2, e3, e4, e5, e6⟩ := hx
    have e1 : x = nI (pm T q) := e1
    have e2 : ∀ c j, c ≠ 137 → c ≠ 138 → ν.1 c j = μ.1 c j := e2
    subst e1
    have epr : ∀ p, a_pr T C p q = anyB (fun j => decide (pp T C q j = p)) (pm T q) := by
      intro p
      unfold a_pr a_on
      rw [hl, Bool.true_and]
    refine ⟨ν, ?_, e2, e3, fun p hp => ?_, fun p q' hp hq' hpr => ?_⟩
    · show sX0_addDrain_2 (12 + 1 + 2 * q + 1) (nI q) (nI (pm T q)) ν = _
      unfold sX0_addDrain_2
      rw [(hpl ν e2 0 (by omega)).1, if_pos (nI_le (Nat.le_refl _) (by omega))]
    · rw [fb_ct_succ, epr]
      exact e4 p hp
    · by_cases eq : q' = q
      · subst eq
        rw [epr] at hpr
        obtain ⟨j, hj, ej⟩ := anyB_t hpr
        have := of_decide_eq_true ej
        rw [← this]
        exact e6 j hj
      · exact e5 p q' hp (by omega) hpr) (fuel := 1000) (by omega) (x := ((0 : Int32), μ)) ⟨rfl, fun _ _ _ _ => rfl, rfl, fun p hp => by rw [d1 p hp]; rfl, fun p q' hp hq' => d2 p q' hp hq', fun j hj => absurd hj (by omega)⟩
  exact ⟨r, by rw [pb_bd h1], h4, h2, h3⟩
theorem cl_pd (h : stt R C P N T) (a : ag T μ) : ∃ ν, fX0_planDrains μ = some ν ∧ d_ok T C N ν ∧ (∀ c k, c ≠ 137 → c ≠ 138 → ν.1 c k = μ.1 c k) ∧ ν.2 = μ.2 := by
  obtain ⟨hN, hP, hC1, hC6⟩ := st_20 h
  obtain ⟨e0, e1, e2, e3, e4, e5⟩ := st_dim h
  unfold fX0_planDrains
  rw [pb_bd (pb_fil μ 137 0 dw_lc137 (by decide))]
  obtain ⟨r, h1, h2, h3, h4⟩ := pb_inv (step := fun v : Int32 × dw_M => sX0_planDrains_10 v.1 v.2) (fun q x => x.1 = nI q ∧ (∀ c j, c ≠ 137 → c ≠ 138 → x.2.1 c j = μ.1 c j) ∧ x.2.2 = μ.2 ∧ d_ok T C q x.2) N (fun ν => (∀ c k, c ≠ 137 → c ≠ 138 → ν.1 c k = μ.1 c k) ∧ ν.2 = μ.2 ∧ d_ok T C N ν) (fun q x hq hx => by
    obtain ⟨x, ν⟩ := x
    obtain ⟨f1, f2, f3, f4⟩ := hx
    have f1 : x = nI q := f1
    have f2 : ∀ c j, c ≠ 137 → c ≠ 138 → ν.1 c j = μ.1 c j := f2
    have f3 : ν.2 = μ.2 := f3
    have f4 : d_ok T C q ν := f4
    subst f1
    have ag' : ag T ν := ⟨fun c k hc => by rw [f2 _ _ (by omega) (by omega)]; exact a.1 c k hc, fun j hj hm => by rw [f2 _ _ (by omega) (by omega)]; exact a.2 j hj hm⟩
    have hs := stt_ag h ag'
    left
    have hlat : fX5_isLateral ν (12 + 1 + 2 * q) = b2i (lat T q) := by rw [cl_lat (hs.2.2.2.2.1 q hq), ag_lat ag' (by omega)]
    have go : sX0_planDrains_10 (nI q) ν = if b2i (lat T q) = 0 then some (.inl (nI (q + 1), ν)) else dw_bd (fX0_addDrain ν (12 + 1 + 2 * q + 1) (nI q)) (fun μ10 => some (.inl (nI (q + 1), μ10))) := by
      unfold sX0_planDrains_10
      rw [f2 _ _ (by omega) (by omega), a.1 _ _ (by omega), e5, if_neg (nI_ge hq (by omega)), pb_gd (pb_ok rfl (by omega) (by decide)), pb_cl rfl (by omega), hlat]
      simp only [dw_nm, nI_1]
    by_cases hl : lat T q = true
    · obtain ⟨ν2, k1, k2, k3, k4⟩ := cl_add h ag' hq hl f4
      refine ⟨(nI (q + 1), ν2), ?_, rfl, fun c j h1 h2 => ?_, ?_, k2⟩
      · show sX0_planDrains_10 (nI q) ν = _
        rw [go, hl, if_neg (by decide), pb_bd k1]
      · show ν2.1 c j = _
        rw [k3 c j h1 h2, f2 c j h1 h2]
      · show ν2.2 = _
        rw [k4, f3]
    · have hl : lat T q = false := by simpa using hl
      refine ⟨(nI (q + 1), ν), ?_, rfl, f2, f3, ?_⟩
      · show sX0_planDrains_10 (nI q) ν = _
        rw [go, hl, if_pos (by decide)]
      · have epr : ∀ p, a_pr T C p q = false := fun p => by unfold a_pr; rw [hl, Bool.false_and]
        refine ⟨fun p hp => ?_, fun p q' hp hq' hpr => ?_⟩
        · rw [fb_ct_succ, epr]
          exact f4.1 p hp
        · by_cases eq : q' = q
          · subst eq
            rw [epr] at hpr
            cases hpr
          · exact f4.2 p q' hp (by omega) hpr) (fun x hx => by
    obtain ⟨x, ν⟩ := x
    obtain ⟨f1, f2, f3, f4⟩ := hx
    have f1 : x = nI N := f1
    have f2 : ∀ c j, c ≠ 137 → c ≠ 138 → ν.1 c j = μ.1 c j := f2
    subst f1
    refine ⟨ν, ?_, f2, f3, f4⟩
    show sX0_planDrains_10 (nI N) ν = _
    unfold sX0_planDrains_10
    rw [f2 _ _ (by omega) (by omega), a.1 _ _ (by omega), e5, if_pos (nI_le (Nat.le_refl _) (by omega))]) (fuel := 1000) (by omega) (x := ((0 : Int32), pb_F μ 137 36 0)) ⟨rfl, fun c j h1 h2 => by rw [pb_F_o h1], rfl, fun p hp => by rw [pb_F_r, if_pos ⟨rfl, hp⟩]; rfl, fun p q' _ hq' => absurd hq' (by omega)⟩
  exact ⟨r, by rw [pb_bd h1], h4, h2, h3⟩
end
