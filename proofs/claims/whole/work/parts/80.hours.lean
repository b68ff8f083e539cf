/-! hours -/
def hrs (T : dw_M) (C P N : Nat) (bk : Nat → Bool) (o : Nat → Nat) (W : wt) : Nat → wt
  | 0 => W
  | n + 1 => hr T C P N bk o (hrs T C P N bk o W n)
section
variable {R C P N : Nat} {T μ : dw_M} {rk : Nat → Nat} {bk : Nat → Bool} {o : Nat → Nat} {i : Nat}
theorem hrs_b (h : stt R C P N T) {H : Nat} {W : wt} (hb : w_b T P N H W) (ho : ∀ t, t < N → o t < N) : ∀ n, w_b T P N (H + n) (hrs T C P N bk o W n)
  | 0 => hb
  | n + 1 => w_b2 h (hrs_b h hb ho n) ho
theorem hrs_h {W : wt} {z : Nat} (e : W.2.2.2.2.2.2.2 = nI z) : ∀ n, (hrs T C P N bk o W n).2.2.2.2.2.2.2 = nI (z + n)
  | 0 => e
  | n + 1 => by
    show (hrs T C P N bk o W n).2.2.2.2.2.2.2 + 1 = _
    rw [hrs_h e n, nI_1]
    rfl
theorem w_fag (hi : i = 53 ∨ i = 127) (a : ag T μ) {ν : dw_M} (h : w_f i P N μ ν) : ag T ν := ⟨fun c k hc => by rw [h.1 c k (by omega)]; exact a.1 c k hc, fun j hj hm => by rw [h.1 143 j (by omega)]; exact a.2 j hj hm⟩
theorem cl_hrs (h : stt R C P N T) (a : ag T μ) (hi : i = 53 ∨ i = 127) (hd : d_ok T C N μ) (ho : p_ok N o μ) (hk : ∀ q, q < N → bk q = pg_b (μ.2 (i + 7)) q) {H n : Nat} (hn : n ≤ 50) (hH : H + n ≤ 30000) {W : wt} (hb : w_b T P N H W) (hw : w_c i P N W μ) {S : Int32 → dw_M → Option ((Int32 × dw_M) ⊕ dw_M)} (hS : ∀ x ρ, S x ρ = if nI n ≤ x then some (.inr ρ) else dw_bd (fX0_passHour ρ i) (fun ρ' => some (.inl (x + 1, ρ')))) : ∃ ν, dw_wh (fun v => S v.1 v.2) 1000 ((0 : Int32), μ) = some ν ∧ w_c i P N (hrs T C P N bk o W n) ν ∧ w_f i P N μ ν := by
  refine pb_inv (step := fun v : Int32 × dw_M => S v.1 v.2) (fun j x => x.1 = nI j ∧ w_c i P N (hrs T C P N bk o W j) x.2 ∧ w_f i P N μ x.2) n _ (fun j x hj hx => ?_) (fun x hx => ?_) (fuel := 1000) (by omega) (x := ((0 : Int32), μ)) ⟨rfl, hw, w_f0 i P N μ⟩
  · obtain ⟨x, ν⟩ := x
    obtain ⟨f1, f2, f3⟩ := hx
    have f1 : x = nI j := f1
    have f2 : w_c i P N (hrs T C P N bk o W j) ν := f2
    have f3 : w_f i P N μ ν := f3
    subst f1
    left
    have a1 := w_fag hi a f3
    obtain ⟨ν1, g1, g2, g3⟩ := cl_hr h a1 hi ⟨fun p hp => by rw [f3.1 _ _ (by omega)]; exact hd.1 p hp, fun p q h1 h2 h3 => by rw [f3.1 _ _ (by omega)]; exact hd.2 p q h1 h2 h3⟩ (o := o) (p_ok_c ho (fun k => f3.1 _ _ (by omega)) (f3.1 _ _ (by omega))) (bk := bk) (fun q hq => by rw [f3.2.2.2]; exact hk q hq) (H := H + j) (by omega) (hrs_b h hb ho.1 j) f2
    refine ⟨(nI (j + 1), ν1), ?_, rfl, g2, w_ft f3 g3⟩
    show S (nI j) ν = _
    rw [hS, if_neg (nI_ge hj (by omega)), pb_bd g1, nI_1]
  · obtain ⟨x, ν⟩ := x
    obtain ⟨f1, f2, f3⟩ := hx
    have f1 : x = nI n := f1
    subst f1
    refine ⟨ν, ?_, f2, f3⟩
    show S (nI n) ν = _
    rw [hS, if_pos (nI_le (Nat.le_refl _) (by omega))]
theorem md_hrs (h : stt R C P N T) (a : ag T μ) (hrk : ∀ q, q < N → rk q < N ∧ ∃ c, ch N T q (rk q) c) (ho : o_f rk N o) (hk : ∀ q, q < N → μ.1 143 (400 + 20 * q + 8) = b2i (bk q)) {H n : Nat} (hn : n ≤ 50) (hH : H + n ≤ 30000) {W : wt} (hb : w_b T P N H W) (hw : w_m P N W μ) : ∃ x ν, dw_wh (fun v => sX10_hours_16 (nI n) v.1 v.2.1 v.2.2) 1000 ((0 : Int32), (0 : Int32), μ) = some (x, ν) ∧ w_m P N (hrs T C P N bk o W n) ν ∧ pb_sm (hrs T C P N bk o W n).2.2.2.2.2.1 4 = pb_sm W.2.2.2.2.2.1 4 + x ∧ m_f μ ν := by
  obtain ⟨hN, hP, -⟩ := st_20 h
  obtain ⟨⟨x, ν⟩, k1, k2, k3, k4⟩ := pb_inv (step := fun v : Int32 × Int32 × dw_M => sX10_hours_16 (nI n) v.1 v.2.1 v.2.2) (fun j x => x.2.1 = nI j ∧ w_m P N (hrs T C P N bk o W j) x.2.2 ∧ pb_sm (hrs T C P N bk o W j).2.2.2.2.2.1 4 = pb_sm W.2.2.2.2.2.1 4 + x.1 ∧ m_f μ x.2.2) n (fun x => w_m P N (hrs T C P N bk o W n) x.2 ∧ pb_sm (hrs T C P N bk o W n).2.2.2.2.2.1 4 = pb_sm W.2.2.2.2.2.1 4 + x.1 ∧ m_f μ x.2) (fun j x hj hx => by
    obtain ⟨y, x, ν⟩ := x
    obtain ⟨f1, f2, f3, f4⟩ := hx
    have f1 : x = nI j := f1
    have f2 : w_m P N (hrs T C P N bk o W j) ν := f2
    have f3 : pb_sm (hrs T C P N bk o W j).2.2.2.2.2.1 4 = pb_sm W.2.2.2.2.2.1 4 + y := f3
    have f4 : m_f μ ν := f4
    subst f1
    left
    obtain ⟨ν1, v, g1, g2, g3, g4⟩ := md_hr h (m_fag a f4) hrk ho (bk := bk) (fun q hq => by rw [f4.2.1 _ (by omega) (by omega) (by omega)]; exact hk q hq) (H := H + j) (by omega) (hrs_b h hb (fun t ht => (ho t ht).1) j) f2
    refine ⟨(y + v, nI (j + 1), ν1), ?_, rfl, g2, ?_, m_ft f4 g4⟩
    · show sX10_hours_16 (nI n) y (nI j) ν = _
      unfold sX10_hours_16
      rw [if_neg (nI_ge hj (by omega)), pb_b2 g1, nI_1]
      rfl
    · show pb_sm (hr T C P N bk o (hrs T C P N bk o W j)).2.2.2.2.2.1 4 = _ + (y + v)
      rw [g3, f3, Int32.add_assoc]) (fun x hx => by
    obtain ⟨y, x, ν⟩ := x
    obtain ⟨f1, f2, f3, f4⟩ := hx
    have f1 : x = nI n := f1
    subst f1
    refine ⟨(y, ν), ?_, f2, f3, f4⟩
    show sX10_hours_16 (nI n) y (nI n) ν = _
    unfold sX10_hours_16
    rw [if_pos (nI_le (Nat.le_refl _) (by omega))]) (fuel := 1000) (by omega) (x := ((0 : Int32), (0 : Int32), μ)) ⟨rfl, hw, (Int32.add_zero _).symm, m_f0 μ⟩
  exact ⟨x, ν, k1, k2, k3, k4⟩
end
def w_0 (μ : dw_M) : wt := ((fun p => nt (μ.1 143 (100 + p))), (fun p => nt (μ.1 143 (140 + p))), (fun q => nt (μ.1 143 (400 + 20 * q + 9))), (fun q => nt (μ.1 143 (400 + 20 * q + 6))), (fun q => μ.1 143 (400 + 20 * q + 10)), (fun d => μ.1 143 (9 + d)), μ.1 143 8, μ.1 143 7)
theorem w_st {P N hh : Nat} {μ : dw_M} (wa : rl_wat P N hh (fun q => μ.1 (1 + (12 + 2 * q)) 4) 53 143 μ) (hh' : hh ≤ 30000) : w_c 53 P N (w_0 μ) μ ∧ w_m P N (w_0 μ) μ ∧ w_b μ P N hh (w_0 μ) ∧ (w_0 μ).2.2.2.2.2.2.2 = nI hh := by
  obtain ⟨h1, h2, h3, h4, h5, h6, h7, h8⟩ := wa
  have s1 : ∀ p, p < P → μ.1 143 (100 + p) = nI ((w_0 μ).1 p) ∧ (w_0 μ).1 p ≤ 300 * hh := fun p hp => by
    obtain ⟨-, -, ⟨x, hx, ex⟩, -⟩ := h1 p hp
    have e : (w_0 μ).1 p = x := by show nt _ = x; rw [ex, nt_n (by omega)]
    rw [e]
    exact ⟨ex, hx⟩
  have s2 : ∀ p, p < P → μ.1 143 (140 + p) = nI ((w_0 μ).2.1 p) ∧ (w_0 μ).2.1 p ≤ 1000 := fun p hp => by
    obtain ⟨-, -, -, ⟨x, hx, ex⟩⟩ := h1 p hp
    have e : (w_0 μ).2.1 p = x := by show nt _ = x; rw [ex, nt_n (by omega)]
    rw [e]
    exact ⟨ex, hx⟩
  have s3 : ∀ q, q < N → μ.1 143 (400 + 20 * q + 9) = nI ((w_0 μ).2.2.1 q) ∧ (w_0 μ).2.2.1 q ≤ a_ho μ q := fun q hq => by
    obtain ⟨-, -, -, ⟨x, y, hxy, hy, ex, ey⟩, -⟩ := h3 q hq
    have e : (w_0 μ).2.2.1 q = x := by show nt _ = x; rw [ex, nt_n (by omega)]
    have e2 : a_ho μ q = y := by
      unfold a_ho
      rw [pv_pc]
      show nt ((fun q => μ.1 (1 + (12 + 2 * q)) 4) q) = y
      rw [ey, nt_n (by omega)]
    rw [e, e2]
    exact ⟨ex, hxy⟩
  have s4 : ∀ q, q < N → μ.1 143 (400 + 20 * q + 6) = nI ((w_0 μ).2.2.2.1 q) ∧ (w_0 μ).2.2.2.1 q ≤ 100 := fun q hq => by
    obtain ⟨-, -, -, -, ⟨x, hx, ex⟩⟩ := h3 q hq
    have e : (w_0 μ).2.2.2.1 q = x := by show nt _ = x; rw [ex, nt_n (by omega)]
    rw [e]
    exact ⟨ex, hx⟩
  refine ⟨⟨fun p hp => ?_, fun p hp => ?_, fun q hq => ?_, fun q hq => ?_, fun q hq => ?_, fun d hd => ?_, h6, h7⟩, ⟨fun p hp => (s1 p hp).1, fun p hp => (s2 p hp).1, fun q hq => (s3 q hq).1, fun q hq => (s4 q hq).1, fun q hq => rfl, fun d hd => rfl, rfl, rfl⟩, ⟨fun p hp => (s1 p hp).2, fun p hp => (s2 p hp).2, fun q hq => (s3 q hq).2, fun q hq => (s4 q hq).2⟩, h8⟩
  · rw [← (s1 p hp).1]; exact (h1 p hp).1
  · rw [← (s2 p hp).1]; exact (h1 p hp).2.1
  · rw [← (s3 q hq).1]; exact (h3 q hq).1
  · rw [← (s4 q hq).1]; exact (h3 q hq).2.1
  · exact (h3 q hq).2.2.1
  · exact h5 d hd
theorem ok_hours : pl_hours pl_G := by
  intro k μ hk g a1
  obtain ⟨R, C, P, N, hh, d, gn, so, di, hn, pi, it, ac, ⟨hk5, wa⟩, bl, ra, mk, si⟩ := id g.1
  obtain ⟨⟨d1, d2, d3, d4, dP, d5, d36, d20⟩, dR, dC, dN, cC, cP, cN⟩ := id d
  have dR : μ.1 143 0 = nI R := dR
  have dC : μ.1 143 1 = nI C := dC
  have dN : μ.1 143 13 = nI N := dN
  have cC : μ.1 2 0 = nI C := cC
  have cP : μ.1 2 1 = nI P := cP
  have cN : μ.1 11 1 = nI N := cN
  have hst : stt R C P N μ := ⟨d, gn, so, di, pi, it, ac, ra⟩
  rcases pv_rg a1 (l := 1) (h := 50) (lo := 1) (hi := 50) rfl rfl (by decide) (by decide) with h0 | ⟨h1, n, hn1, hn2, en⟩
  · refine ⟨-1, μ, μ, ?_, ?_, pl_mono g⟩
    · unfold fX9_hours
      rw [pv_w, h0, if_pos rfl]
    · unfold fX10_hours
      rw [h0, if_pos rfl]
  · subst en
    obtain ⟨c0, m0, b0, z0⟩ := w_st wa (by omega)
    obtain ⟨rk, hrk⟩ := a_rkex hst
    obtain ⟨o, ho⟩ := o_ex rk N
    obtain ⟨ν0, l1, l2, l3, l4, l5⟩ := cl_plan hst (ag_refl μ) hrk
    have a0 : ag μ ν0 := ⟨fun c k hc => l4 c k (by omega), fun j hj hm => l4 143 j (by omega)⟩
    have ho' : p_ok N o ν0 := p_ok_i ho l3
    obtain ⟨ν, f1, f2, f3⟩ := cl_hrs hst a0 (Or.inl rfl) l2 ho' (bk := fun q => pg_b (μ.2 60) q) (fun q hq => by rw [l5]) (H := hh) (n := n) (by omega) (by omega) b0 (by
      obtain ⟨w1, w2, w3, w4, w5, w6, w7, w8⟩ := c0
      exact ⟨fun p hp => by rw [l4 _ _ (by omega)]; exact w1 p hp, fun p hp => by rw [l4 _ _ (by omega)]; exact w2 p hp, fun p hp => by rw [l4 _ _ (by omega)]; exact w3 p hp, fun p hp => by rw [l4 _ _ (by omega)]; exact w4 p hp, fun p hp => by rw [l4 _ _ (by omega)]; exact w5 p hp, fun p hp => by rw [l4 _ _ (by omega)]; exact w6 p hp, by rw [l4 _ _ (by omega)]; exact w7, by rw [l4 _ _ (by omega)]; exact w8⟩) (S := sX9_hours_42 (nI n)) (fun x ρ => rfl)
    have aν := w_fag (Or.inl rfl) a0 f3
    have e144 : ∀ j, ν.1 143 j = μ.1 143 j := fun j => by rw [f3.1 _ _ (by omega), l4 _ _ (by omega)]
    obtain ⟨x, ξ, q1, q2, q3, q4⟩ := md_hrs hst aν hrk ho (bk := fun q => pg_b (μ.2 60) q) (fun q hq => by rw [e144]; exact bl.1 q hq) (H := hh) (n := n) (by omega) (by omega) b0 (by
      obtain ⟨w1, w2, w3, w4, w5, w6, w7, w8⟩ := m0
      exact ⟨fun p hp => by rw [e144]; exact w1 p hp, fun p hp => by rw [e144]; exact w2 p hp, fun p hp => by rw [e144]; exact w3 p hp, fun p hp => by rw [e144]; exact w4 p hp, fun p hp => by rw [e144]; exact w5 p hp, fun p hp => by rw [e144]; exact w6 p hp, by rw [e144]; exact w7, by rw [e144]; exact w8⟩)
    have aξ := m_fag aν q4
    have hbn := hrs_b (bk := fun q => pg_b (μ.2 60) q) (o := o) hst b0 (fun t ht => (ho t ht).1) n
    have hzn := hrs_h (T := μ) (C := C) (P := P) (N := N) (bk := fun q => pg_b (μ.2 60) q) (o := o) z0 n
    have tot : ∀ c j, c ≠ 143 → (c < 53 ∨ 60 ≤ c) → (c < 135 ∨ 139 ≤ c) → ξ.1 c j = μ.1 c j := fun c j h1 h2 h3 => by rw [q4.1 _ _ h1, f3.1 _ _ (by omega), l4 _ _ h3]
    have tot2 : ξ.2 = μ.2 := by rw [q4.2.2, f3.2.2.2, l5]
    have s144 : ∀ j, (j < 7 ∨ 13 ≤ j) → (j < 100 ∨ 176 ≤ j) → (j < 400 ∨ ((j - 400) % 20 ≠ 6 ∧ (j - 400) % 20 ≠ 9 ∧ (j - 400) % 20 ≠ 10)) → ξ.1 143 j = μ.1 143 j := fun j h1 h2 h3 => by rw [q4.2.1 j h1 h2 h3, e144]
    refine ⟨x, ν, ξ, ?_, ?_, ?_⟩
    · unfold fX9_hours
      rw [pv_w, h1, if_neg (by decide), pb_bd (pb_sum μ 59 4 dw_lc59 (by decide)), pb_bd l1, pb_bd f1, pb_bd (pb_sum ν 59 4 dw_lc59 (by decide))]
      have s1 : pb_sm (ν.1 59) 4 = pb_sm (hrs μ C P N (fun q => pg_b (μ.2 60) q) o (w_0 μ) n).2.2.2.2.2.1 4 := pb_sm_cong (fun d hd => f2.2.2.2.2.2.1 d hd)
      have s0 : pb_sm (μ.1 59) 4 = pb_sm (w_0 μ).2.2.2.2.2.1 4 := pb_sm_cong (fun d hd => c0.2.2.2.2.2.1 d hd)
      rw [s1, s0, q3, Int32.add_comm, Int32.add_sub_cancel]
    · unfold fX10_hours
      rw [h1, if_neg (by decide), pb_bd q1]
    · refine pl_now g ?_ (fun c h1 h2 => by funext j; exact tot c j (by omega) (by omega) (by omega)) (fun c _ _ => by rw [tot2]) (by funext j; exact tot _ j (by omega) (by omega) (by omega)) (tot _ _ (by omega) (by omega) (by omega)) (tot _ _ (by omega) (by omega) (by omega))
      obtain ⟨d', gn', so', di', pi', it', ac', ra'⟩ := stt_ag hst aξ
      refine ⟨R, C, P, N, hh + n, d', gn', so', di', rl_hnd_c hn (fun j hj => tot _ _ (by omega) (by omega) (by omega)) (fun j h1 h2 => s144 j (by omega) (by omega) (by omega)), pi', it', ac', ⟨by omega, ?_⟩, rl_blk_c bl (by rw [tot2]) (fun q hq => s144 _ (by omega) (by omega) (by omega)), ra', rl_set_c mk (by rw [tot2]) (fun p hp => s144 _ (by omega) (by omega) (by omega)), rl_set_c si (by rw [tot2]) (fun p hp => s144 _ (by omega) (by omega) (by omega))⟩
      obtain ⟨u1, u2, u3, u4, u5, u6, u7, u8⟩ := f2
      obtain ⟨v1, v2, v3, v4, v5, v6, v7, v8⟩ := q2
      obtain ⟨y1, y2, y3, y4⟩ := hbn
      have cc : ∀ c j, c ≠ 143 → ξ.1 c j = ν.1 c j := fun c j hc => q4.1 c j hc
      refine ⟨fun p hp => ⟨?_, ?_, ⟨_, y1 p hp, v1 p hp⟩, ⟨_, y2 p hp, v2 p hp⟩⟩, fun p hp1 hp2 => ⟨?_, ?_⟩, fun q hq => ⟨?_, ?_, ?_, ?_, ⟨_, y4 q hq, v4 q hq⟩⟩, fun q hq1 hq2 => ⟨?_, ?_, ?_⟩, fun d hd => ?_, ?_, ?_, ?_⟩
      · rw [cc _ _ (by omega), v1 p hp]; exact u1 p hp
      · rw [cc _ _ (by omega), v2 p hp]; exact u2 p hp
      · rw [cc _ _ (by omega), f3.2.1 (53 + 1) p (Or.inl rfl) hp1, l4 _ _ (by omega)]; exact (wa.2.1 p hp1 hp2).1
      · rw [cc _ _ (by omega), f3.2.1 (53 + 2) p (Or.inr rfl) hp1, l4 _ _ (by omega)]; exact (wa.2.1 p hp1 hp2).2
      · rw [cc _ _ (by omega), v3 q hq]; exact u3 q hq
      · rw [cc _ _ (by omega), v4 q hq]; exact u4 q hq
      · rw [cc _ _ (by omega), v5 q hq]; exact u5 q hq
      · obtain ⟨p1, p2, -⟩ := st_pi hst hq
        refine ⟨_, _, y3 q hq, p2, v3 q hq, ?_⟩
        show ξ.1 (1 + (12 + 2 * q)) 4 = _
        rw [tot _ _ (by omega) (by omega) (by omega), ← pv_pc, p1]
      · rw [cc _ _ (by omega), f3.2.2.1 (53 + 3) q (Or.inl rfl) hq1, l4 _ _ (by omega)]; exact (wa.2.2.2.1 q hq1 hq2).1
      · rw [cc _ _ (by omega), f3.2.2.1 (53 + 4) q (Or.inr (Or.inl rfl)) hq1, l4 _ _ (by omega)]; exact (wa.2.2.2.1 q hq1 hq2).2.1
      · rw [cc _ _ (by omega), f3.2.2.1 (53 + 5) q (Or.inr (Or.inr rfl)) hq1, l4 _ _ (by omega)]; exact (wa.2.2.2.1 q hq1 hq2).2.2
      · rw [cc _ _ (by omega), v6 d hd]; exact u6 d hd
      · rw [cc _ _ (by omega), v7]; exact u7
      · rw [cc _ _ (by omega), v8]; exact u8
      · rw [v8]; exact hzn
