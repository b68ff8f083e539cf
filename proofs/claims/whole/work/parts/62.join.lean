theorem pp_f {P C p : Nat} {μ : dw_M} (h : rl_pp P (nI C) 1 143 p μ) : μ.1 (12 + 1 + 2 * p) 1 = μ.1 143 (400 + 20 * p) ∧ (∃ x, x < 4 ∧ μ.1 143 (400 + 20 * p) = nI x) ∧ μ.1 (12 + 1 + 2 * p) 2 = μ.1 143 (400 + 20 * p + 5) ∧ μ.1 (12 + 1 + 2 * p) 3 = μ.1 143 (400 + 20 * p + 5) * μ.1 143 (400 + 20 * p + 5) * (μ.1 143 (400 + 20 * p + 4) + 5) ∧ μ.1 (12 + 1 + 2 * p) 4 = 40 * μ.1 143 (400 + 20 * p + 5) * μ.1 143 (400 + 20 * p + 11) ∧ rl_ln P (nI C) (μ.1 (12 + 1 + 2 * p + 1)) (μ.1 143 (400 + 20 * p + 1)) (μ.1 143 (400 + 20 * p + 2)) (μ.1 143 (400 + 20 * p + 3)) (μ.1 143 (400 + 20 * p + 4)) (μ.1 143 (400 + 20 * p + 11)) := by
  obtain ⟨h1, h2, h3, h4, h5, h6, h7⟩ := h
  rw [pv_pc]
  rw [show 1 + (12 + 2 * p) + 1 = 1 + (13 + 2 * p) by omega]
  exact ⟨h1, h2, h3, h5, h6, h7⟩
theorem md_p0 (μ : dw_M) {q : Nat} (hq : q < 20) : fX10_pipeOf μ (nI q) 0 = some (μ.1 143 (400 + 20 * q)) := md_po μ (x := nI q) (y := 0) rfl rfl hq (by decide)
theorem md_p1 (μ : dw_M) {q : Nat} (hq : q < 20) : fX10_pipeOf μ (nI q) 1 = some (μ.1 143 (400 + 20 * q + 1)) := md_po μ (x := nI q) (y := 1) rfl rfl hq (by decide)
theorem md_p2 (μ : dw_M) {q : Nat} (hq : q < 20) : fX10_pipeOf μ (nI q) 2 = some (μ.1 143 (400 + 20 * q + 2)) := md_po μ (x := nI q) (y := 2) rfl rfl hq (by decide)
theorem md_p3 (μ : dw_M) {q : Nat} (hq : q < 20) : fX10_pipeOf μ (nI q) 3 = some (μ.1 143 (400 + 20 * q + 3)) := md_po μ (x := nI q) (y := 3) rfl rfl hq (by decide)
theorem md_p4 (μ : dw_M) {q : Nat} (hq : q < 20) : fX10_pipeOf μ (nI q) 4 = some (μ.1 143 (400 + 20 * q + 4)) := md_po μ (x := nI q) (y := 4) rfl rfl hq (by decide)
theorem md_p5 (μ : dw_M) {q : Nat} (hq : q < 20) : fX10_pipeOf μ (nI q) 5 = some (μ.1 143 (400 + 20 * q + 5)) := md_po μ (x := nI q) (y := 5) rfl rfl hq (by decide)
theorem md_p6 (μ : dw_M) {q : Nat} (hq : q < 20) : fX10_pipeOf μ (nI q) 6 = some (μ.1 143 (400 + 20 * q + 6)) := md_po μ (x := nI q) (y := 6) rfl rfl hq (by decide)
theorem md_p7 (μ : dw_M) {q : Nat} (hq : q < 20) : fX10_pipeOf μ (nI q) 7 = some (μ.1 143 (400 + 20 * q + 7)) := md_po μ (x := nI q) (y := 7) rfl rfl hq (by decide)
theorem md_p8 (μ : dw_M) {q : Nat} (hq : q < 20) : fX10_pipeOf μ (nI q) 8 = some (μ.1 143 (400 + 20 * q + 8)) := md_po μ (x := nI q) (y := 8) rfl rfl hq (by decide)
theorem md_p9 (μ : dw_M) {q : Nat} (hq : q < 20) : fX10_pipeOf μ (nI q) 9 = some (μ.1 143 (400 + 20 * q + 9)) := md_po μ (x := nI q) (y := 9) rfl rfl hq (by decide)
theorem md_p10 (μ : dw_M) {q : Nat} (hq : q < 20) : fX10_pipeOf μ (nI q) 10 = some (μ.1 143 (400 + 20 * q + 10)) := md_po μ (x := nI q) (y := 10) rfl rfl hq (by decide)
theorem md_p11 (μ : dw_M) {q : Nat} (hq : q < 20) : fX10_pipeOf μ (nI q) 11 = some (μ.1 143 (400 + 20 * q + 11)) := md_po μ (x := nI q) (y := 11) rfl rfl hq (by decide)
theorem md_bears {P C p : Nat} {μ : dw_M} (h : rl_pp P (nI C) 1 143 p μ) (hp : p < 20) : fX10_bears μ (nI p) = some (μ.1 (12 + 1 + 2 * p) 3) := by
  unfold fX10_bears
  rw [pb_bd (md_p5 μ hp), pb_bd (md_p5 μ hp), pb_bd (md_p4 μ hp), (pp_f h).2.2.2.1]
theorem md_holds {P C p : Nat} {μ : dw_M} (h : rl_pp P (nI C) 1 143 p μ) (hp : p < 20) : fX10_holds μ (nI p) = some (μ.1 (12 + 1 + 2 * p) 4) := by
  unfold fX10_holds
  rw [pb_bd (md_p5 μ hp), pb_bd (md_p11 μ hp), (pp_f h).2.2.2.2.1]
theorem mn_ls (x y : Int32) : dw_mn x y = fX10_lesser x y := by
  unfold dw_mn fX10_lesser
  by_cases c : y < x
  · rw [if_pos c, if_pos (fa_of_lt c).1]
  · rw [if_neg c]
    by_cases c2 : y ≤ x
    · rw [if_pos c2]
      have h := fa_of_nlt c
      rw [fa_le] at c2 h
      exact (fa_eq _ _).mpr (by omega)
    · rw [if_neg c2]
def pkS (μ : dw_M) (t : Int32) : Nat → Int32
  | 0 => 0
  | j + 1 => if ch_in μ j = t then pkS μ t j + μ.1 (12 + 1 + 2 * j) 3 else pkS μ t j
theorem cl_peak {N : Nat} {μ : dw_M} (hN : N ≤ 20) (cN : μ.1 11 1 = nI N) (it : rl_int N 1 143 μ) {p : Nat} (hp : p < N) : fX4_peakOf μ (nI p) = some (dw_mn (pkS μ (nI p) N) (μ.1 (12 + 1 + 2 * p) 3)) := by
  unfold fX4_peakOf
  have h := pb_det (step := fun v => sX4_peakOf_4 μ (nI p) v.1 v.2) (fun j => (pkS μ (nI p) j, nI j)) N (x := ((0 : Int32), (0 : Int32))) rfl (r := pkS μ (nI p) N) ?_ ?_ (fuel := 1000) (by omega)
  · rw [pb_bd h, pb_gd (pb_ok rfl (by omega) (by decide)), pb_cl rfl (by omega)]
  · intro j hj
    show sX4_peakOf_4 μ (nI p) (pkS μ (nI p) j) (nI j) = some (.inl (pkS μ (nI p) (j + 1), nI (j + 1)))
    unfold sX4_peakOf_4
    rw [cN, if_neg (nI_ge hj (by omega)), pb_gd (pb_ok rfl (by omega) (by decide)), pb_cl rfl (by omega), show μ.1 (12 + 1 + 2 * j) 5 = ch_in μ j from by rw [pv_pc]; exact (it j hj).1]
    simp only [dw_nm, nI_1, pkS]
    by_cases c : ch_in μ j = nI p
    · rw [if_pos c, if_pos c]
    · rw [if_neg c, if_neg c]
  · show sX4_peakOf_4 μ (nI p) _ (nI N) = _
    unfold sX4_peakOf_4
    rw [cN, if_pos (nI_le (Nat.le_refl _) (by omega))]
theorem md_peak {P N C : Nat} {μ : dw_M} (hN : N ≤ 20) (dN : μ.1 143 13 = nI N) (pi : rl_pip P N (nI C) 1 143 μ) {p : Nat} (hp : p < N) : fX10_peak μ (nI p) = some (dw_mn (pkS μ (nI p) N) (μ.1 (12 + 1 + 2 * p) 3)) := by
  unfold fX10_peak
  have h := pb_det (step := fun v => sX10_peak_4 μ (nI p) v.1 v.2) (fun j => (pkS μ (nI p) j, nI j)) N (x := ((0 : Int32), (0 : Int32))) rfl (r := pkS μ (nI p) N) ?_ ?_ (fuel := 1000) (by omega)
  · rw [pb_bd h, pb_bd (md_bears (pi p hp) (by omega)), mn_ls]
  · intro j hj
    show sX10_peak_4 μ (nI p) (pkS μ (nI p) j) (nI j) = some (.inl (pkS μ (nI p) (j + 1), nI (j + 1)))
    unfold sX10_peak_4
    rw [pv_c13, dN, if_neg (nI_ge hj (by omega)), pb_bd (md_po7 μ (by omega)), pb_bd (md_bears (pi j hj) (by omega))]
    simp only [dw_nm, nI_1, pkS, Int32.add_zero]
    by_cases c : ch_in μ j = nI p
    · rw [if_pos c, if_pos c]
    · rw [if_neg c, if_neg c]
  · show sX10_peak_4 μ (nI p) _ (nI N) = _
    unfold sX10_peak_4
    rw [pv_c13, dN, if_pos (nI_le (Nat.le_refl _) (by omega))]
theorem ex_opt {X Y : Option Int32} {Q : Prop} (e : X = Y) (h : ∃ r, X = some r) (q : Q) : ∃ r, X = some r ∧ Y = some r ∧ Q := by
  obtain ⟨r, h⟩ := h
  exact ⟨r, h, e ▸ h, q⟩
theorem ex_ite {c : Prop} [Decidable c] {X Y : Option Int32} (h : ∃ r, X = some r) (h2 : ∃ r, Y = some r) : ∃ r, (if c then X else Y) = some r := by
  by_cases e : c
  · rw [if_pos e]; exact h
  · rw [if_neg e]; exact h2
theorem ok_of : pl_of pl_G := by
  intro k μ hk g a1 a2
  obtain ⟨R, C, P, N, hh, d, gn, so, di, hn, pi, it, ac, ⟨hk5, wa⟩, bl, ra, mk, si⟩ := id g.1
  obtain ⟨⟨d1, d2, d3, d4, dP, d5, d36, d20⟩, dR, dC, dN, cC, cP, cN⟩ := id d
  have dR : μ.1 143 0 = nI R := dR
  have dC : μ.1 143 1 = nI C := dC
  have dN : μ.1 143 13 = nI N := dN
  have cC : μ.1 2 0 = nI C := cC
  have cP : μ.1 2 1 = nI P := cP
  have cN : μ.1 11 1 = nI N := cN
  rcases pv_tri a1 (n := N) (by omega) with c | ⟨p, hp, rfl⟩
  · refine ⟨-1, ?_, ?_, pl_mono g⟩
    · unfold fX9_of
      rw [if_pos (pv_hq0 cN c)]
    · unfold fX10_of
      rw [if_pos (pv_iq0 dN d20 c)]
  have c1 : ¬ fX4_hasPipe μ (nI p) = 0 := by rw [pv_hq1 cN (by omega) hp]; decide
  have c2 : ¬ fX10_isPipe μ (nI p) = 0 := by rw [pv_iq1 dN d20 hp]; decide
  obtain ⟨f1, f2, f3, f4, f5, f6⟩ := pp_f (pi p hp)
  have f7 : μ.1 (12 + 1 + 2 * p) 5 = μ.1 143 (400 + 20 * p + 7) := by rw [pv_pc]; exact (it p hp).1
  have f8 := bl.1 p hp
  have hw := wa.2.2.1 p hp
  obtain ⟨L, c, hc⟩ := ch_ex d20 it ac hp
  have r9 := cl_rank (ρ := μ) d20 cN (fun q hq => by rw [pv_pc]; exact (it q hq).1) hc
  have r10 := md_rank d20 hc
  have hp20 : p < 20 := by omega
  unfold fX9_of fX10_of
  rw [if_neg c1, if_neg c2, pb_gd (pb_ok rfl (by omega) (by decide)), pb_cl rfl (by omega)]
  rw [pb_bd (md_p0 μ hp20), pb_bd (md_p11 μ hp20), pb_bd (md_p5 μ hp20), pb_bd (md_bears (pi p hp) hp20), pb_bd (md_holds (pi p hp) hp20), pb_bd r10, pb_bd r9, pb_bd (md_p7 μ hp20), pb_bd (md_p8 μ hp20), pb_bd (md_p9 μ hp20), pb_bd (md_p6 μ hp20), pb_bd (md_peak d20 dN pi hp), pb_bd (cl_peak d20 cN it hp), pb_bd (md_p10 μ hp20), f1, f6.2.2.1, f3, f7, f8, pg_has μ 60 (x := nI p) rfl (by omega)]
  rw [show μ.1 56 p = μ.1 143 (400 + 20 * p + 9) from hw.1, show μ.1 57 p = μ.1 143 (400 + 20 * p + 6) from hw.2.1, show μ.1 58 p = μ.1 143 (400 + 20 * p + 10) from hw.2.2.1]
  have e7 : (if (if pg_b (μ.2 60) p = true then (1 : Int32) else 0) = 0 then some (0 : Int32) else some 1) = some (if pg_b (μ.2 (1 + 59)) p = true then 1 else 0) := by
    show _ = some (if pg_b (μ.2 60) p = true then 1 else 0)
    cases pg_b (μ.2 60) p <;> rfl
  rw [e7]
  refine ex_opt rfl ?_ (pl_mono g)
  repeat' (first | exact ⟨_, rfl⟩ | apply ex_ite)
theorem ok_step : pl_step pl_G := by
  intro k μ hk g a1 a2 a3
  obtain ⟨R, C, P, N, hh, d, gn, so, di, hn, pi, it, ac, ⟨hk5, wa⟩, bl, ra, mk, si⟩ := id g.1
  obtain ⟨⟨d1, d2, d3, d4, dP, d5, d36, d20⟩, dR, dC, dN, cC, cP, cN⟩ := id d
  have dR : μ.1 143 0 = nI R := dR
  have dC : μ.1 143 1 = nI C := dC
  have dN : μ.1 143 13 = nI N := dN
  have cC : μ.1 2 0 = nI C := cC
  have cP : μ.1 2 1 = nI P := cP
  have cN : μ.1 11 1 = nI N := cN
  rcases pv_tri a1 (n := N) (by omega) with c | ⟨p, hp, rfl⟩
  · refine ⟨-10000, ?_, ?_, pl_mono g⟩
    · unfold fX9_step
      rw [if_pos (pv_hq0 cN c)]
    · unfold fX10_step
      rw [if_pos (pv_iq0 dN d20 c)]
  have c1 : ¬ fX4_hasPipe μ (nI p) = 0 := by rw [pv_hq1 cN (by omega) hp]; decide
  have c2 : ¬ fX10_isPipe μ (nI p) = 0 := by rw [pv_iq1 dN d20 hp]; decide
  have hp20 : p < 20 := by omega
  obtain ⟨m, hm1, hm2, hst, hcs, pl, hpl, hinj⟩ := ln_pl (m := 0) (pp_f (pi p hp)).2.2.2.2.2
  unfold fX9_step fX10_step
  rw [if_neg c1, if_neg c2, pb_gd (pb_ok rfl (by omega) (by decide)), pb_cl rfl (by omega), pb_bd (md_p11 μ hp20), hcs, hst, pv_w]
  rcases pv_tri a2 (n := m) (by omega) with c | ⟨j, hj, rfl⟩
  · refine ⟨-10000, ?_, ?_, pl_mono g⟩
    · rw [if_pos (pv_nin0 (by omega) c)]
    · rw [if_pos (pv_nin0 (by omega) c)]
  have nj : ¬ fX10_in (nI j) 0 (nI m - 1) = 0 := by rw [pv_nin1 (by omega) hj]; decide
  rw [if_neg nj, if_neg nj]
  obtain ⟨q1, q2, q3, q4⟩ := hpl j hj
  have hpl10 : fX10_stepPlace μ (nI p) (nI j) = some (nI (pl j)) := by
    unfold fX10_stepPlace
    rw [pb_bd (md_p1 μ hp20), pb_bd (md_p2 μ hp20), pb_bd (md_pa dC d3 d4 _ _ _), q3]
  have hlv10 : fX10_levelAt μ (nI p) (nI j) = some (μ.1 143 (400 + 20 * p + 3) - nI j * μ.1 143 (400 + 20 * p + 4)) := by
    unfold fX10_levelAt
    rw [pb_bd (md_p3 μ hp20), pb_bd (md_p4 μ hp20)]
  have hcov : fX1_coverAt μ (12 + 1 + 2 * p + 1) (nI j) = some (μ.1 3 (pl j) - (μ.1 143 (400 + 20 * p + 3) - nI j * μ.1 143 (400 + 20 * p + 4))) := by
    unfold fX1_coverAt
    rw [q2, pb_bd (pv_na dw_lc3 (by decide) (by omega)), q4]
  have hh3 : μ.1 143 (20 + pl j) = μ.1 3 (pl j) := (gn (pl j) q1).1.symm
  rw [pb_bd hpl10, pb_bd hlv10, pb_bd hlv10, pb_bd hcov, q2, q4, pv_a (c := 20) (n := 20) rfl, pb_gd (pb_ok rfl (by omega) (by decide)), pb_cl rfl (by omega), hh3]
  rcases pv_rg a3 (l := 0) (h := 2) (lo := 0) (hi := 2) rfl rfl (by decide) (by decide) with c | ⟨c, z, hz1, hz2, rfl⟩
  · have e : ∀ y : Int32, fX10_in y 0 2 ≠ 0 → a3 ≠ y := fun y h e => h (e ▸ c)
    rw [if_pos c, if_neg (e 0 (by decide)), if_neg (e 1 (by decide)), if_neg (e 2 (by decide))]
    exact ⟨_, rfl, rfl, pl_mono g⟩
  · have nz : ¬ fX10_in (nI z) 0 2 = 0 := by rw [c]; decide
    rw [if_neg nz]
    rcases (by omega : z = 0 ∨ z = 1 ∨ z = 2) with rfl | rfl | rfl
    · exact ⟨_, rfl, rfl, pl_mono g⟩
    · exact ⟨_, rfl, rfl, pl_mono g⟩
    · exact ⟨_, rfl, rfl, pl_mono g⟩
