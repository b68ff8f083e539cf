theorem pb_cr (μ : dw_M) (i : Nat) (f : Nat → Int32) (c j : Nat) : (pb_c μ i f).1 c j = if c = i then f j else μ.1 c j := by
  by_cases h : c = i <;> simp [pb_c, h]
theorem pb_same (μ : dw_M) (i k : Nat) : dw_st μ i k (μ.1 i k) = μ := by
  apply pb_ext
  · intro c j
    rw [pb_rd]
    by_cases h : c = i
    · subst h
      by_cases h2 : j = k
      · subst h2; simp
      · simp [h2]
    · simp [h]
  · intro c; rfl
theorem md_ix {q w : Nat} {x y : Int32} (hx : x = nI q) (hy : y = nI w) : ((400 : Int32) + ((20 : Int32) * x)) + y = nI (400 + 20 * q + w) := by
  rw [hx, hy, show (20 : Int32) = nI 20 from rfl, pk_mul, show (400 : Int32) = nI 400 from rfl, nI_add, nI_add]
theorem md_po (μ : dw_M) {q w : Nat} {x y : Int32} (hx : x = nI q) (hy : y = nI w) (hq : q < 20) (hw : w < 20) : fX10_pipeOf μ x y = some (μ.1 143 (400 + 20 * q + w)) := by
  unfold fX10_pipeOf
  rw [md_ix hx hy, pb_gd (pb_ok rfl (by omega) (by decide)), pb_cl rfl (by omega)]
theorem md_sp (μ : dw_M) {q w : Nat} {x y v : Int32} (hx : x = nI q) (hy : y = nI w) (hq : q < 20) (hw : w < 20) : fX10_setPipe μ x y v = some (dw_st μ 143 (400 + 20 * q + w) v) := by
  unfold fX10_setPipe
  rw [md_ix hx hy, pb_gd (pb_ok rfl (by omega) (by decide)), pb_cl rfl (by omega)]
  rfl
theorem pv_pc (p : Nat) : 12 + 1 + 2 * p = 1 + (12 + 2 * p) := by omega
/-- where a pipe leads is changed, on both sides -/
theorem rl_into {R C P N hh k : Nat} {μ : dw_M} (g : rl_all R C P N hh k 1 143 μ) {p : Nat} (hp : p < N) {v : Int32} (hv : v = -1 ∨ (∃ q, q < N ∧ v = nI q) ∨ ∃ d, d < 4 ∧ v = nI (100 + d)) (hac : rl_acy N 143 (dw_st (dw_st μ (12 + 1 + 2 * p) 5 v) 143 (400 + 20 * p + 7) v)) : rl (k + 1) 1 143 (dw_st (dw_st μ (12 + 1 + 2 * p) 5 v) 143 (400 + 20 * p + 7) v) := by
  obtain ⟨d, gn, so, di, hn, pi, it, ac, ⟨hk5, wa⟩, bl, ra, mk, si⟩ := g
  obtain ⟨⟨d1, d2, d3, d4, dP, d5, d36, d20⟩, dR, dC, dN, cC, cP, cN⟩ := id d
  refine ⟨R, C, P, N, hh, rl_dim_c d ?_ ?_ ?_ ?_ ?_ ?_, rl_gnd_c gn ?_ ?_ ?_ ?_, rl_soi_c so ?_ ?_ ?_ ?_ ?_ ?_ ?_ ?_, rl_dit_c di ?_ ?_, rl_hnd_c hn ?_ ?_, rl_pip_c pi ?_ ?_ ?_ ?_ ?_, ?own, hac, ⟨by omega, rl_wat_c wa d36 d20 ?_ ?_ ?_ ?_ ?_ ?_ ?_ ?_ ?_ ?_ ?_⟩, rl_blk_c bl ?_ ?_, rl_rai_c ra ?_ ?_, rl_set_c mk ?_ ?_, rl_set_c si ?_ ?_⟩
  case own =>
    intro q hq
    have h := it q hq
    by_cases e : q = p
    · subst e
      rw [pb_i, ← pv_pc, pb_i2 (Or.inl (by omega))]
      exact ⟨rfl, hv⟩
    · simp (disch := omega) only [pb_o]
      exact h
  all_goals (intros; first | rfl | (simp (disch := omega) only [pb_o, pb_rd2]; done))
theorem rl_acy_cut {N p : Nat} {μ : dw_M} (ac : rl_acy N 143 μ) {v : Int32} (hv : ∀ q, q < N → v ≠ nI q) : rl_acy N 143 (dw_st (dw_st μ (12 + 1 + 2 * p) 5 v) 143 (400 + 20 * p + 7) v) := by
  obtain ⟨rk, h⟩ := ac
  refine ⟨rk, fun x q hx hq he => ?_⟩
  by_cases e : x = p
  · subst e
    rw [pb_i] at he
    exact absurd he (hv q hq)
  · rw [pb_o (by omega), pb_o (by omega)] at he
    exact h x q hx hq he
theorem pl_into {k : Nat} {μ : dw_M} (g : pl_G k μ) {p : Nat} {v : Int32} (hp : p < 20) (h : rl (k + 1) 1 143 (dw_st (dw_st μ (12 + 1 + 2 * p) 5 v) 143 (400 + 20 * p + 7) v)) : pl_G (k + 1) (dw_st (dw_st μ (12 + 1 + 2 * p) 5 v) 143 (400 + 20 * p + 7) v) :=
  pl_now g h (fun c h1 h2 => by rw [pb_oc (by omega), pb_oc (by omega)]) (fun _ _ _ => rfl) (by rw [pb_oc (by omega), pb_oc (by omega)]) (by rw [pb_oc (by omega), pb_oc (by omega)]) (by rw [pb_oc (by omega), pb_oc (by omega)])
theorem ok_part : pl_part pl_G := by
  intro k μ hk g a1
  obtain ⟨R, C, P, N, hh, d, gn, so, di, hn, pi, it, ac, ⟨hk5, wa⟩, bl, ra, mk, si⟩ := id g.1
  have ga : rl_all R C P N hh k 1 143 μ := ⟨d, gn, so, di, hn, pi, it, ac, ⟨hk5, wa⟩, bl, ra, mk, si⟩
  obtain ⟨⟨d1, d2, d3, d4, dP, d5, d36, d20⟩, dR, dC, dN, cC, cP, cN⟩ := id d
  have dR : μ.1 143 0 = nI R := dR
  have dC : μ.1 143 1 = nI C := dC
  have dN : μ.1 143 13 = nI N := dN
  have cC : μ.1 2 0 = nI C := cC
  have cP : μ.1 2 1 = nI P := cP
  have cN : μ.1 11 1 = nI N := cN
  rcases pv_tri a1 (n := N) (by omega) with c | ⟨p, hp, rfl⟩
  · refine ⟨-1, μ, μ, ?_, ?_, pl_mono g⟩
    · unfold fX9_part
      rw [if_pos (pv_hq0 cN c)]
    · unfold fX10_part
      rw [if_pos (pv_iq0 dN d20 c)]
  · have c1 : ¬ fX4_hasPipe μ (nI p) = 0 := by rw [pv_hq1 cN (by omega) hp]; decide
    have c2 : ∀ ν : dw_M, ν.1 143 = μ.1 143 → ¬ fX10_isPipe ν (nI p) = 0 := fun ν e => by rw [pv_iq1 (by rw [e]; exact dN) d20 hp]; decide
    have hit := (it p hp).1
    rw [← pv_pc] at hit
    have e1 := md_po μ (x := nI p) (y := 7) rfl rfl (by omega : p < 20) (by decide : 7 < 20)
    by_cases c3 : μ.1 (12 + 1 + 2 * p) 5 = -1
    · refine ⟨0, μ, μ, ?_, ?_, pl_mono g⟩
      · unfold fX9_part
        rw [if_neg c1, pb_gd (pb_ok rfl (by omega) (by decide)), pb_cl rfl (by omega), if_pos c3]
      · unfold fX10_part
        rw [if_neg (c2 μ rfl), pb_bd e1, if_pos (by rw [← hit]; exact c3), pb_bd (md_sp μ (x := nI p) (y := 7) rfl rfl (by omega) (by decide))]
        have e2 : (-1 : Int32) = μ.1 143 (400 + 20 * p + 7) := by rw [← hit]; exact c3.symm
        rw [e2, pb_same]
    · refine ⟨1, dw_st μ (12 + 1 + 2 * p) 5 (-1), dw_st (dw_st μ (12 + 1 + 2 * p) 5 (-1)) 143 (400 + 20 * p + 7) (-1), ?_, ?_, ?_⟩
      · unfold fX9_part
        rw [if_neg c1, pb_gd (pb_ok rfl (by omega) (by decide)), pb_cl rfl (by omega), if_neg c3]
        rfl
      · unfold fX10_part
        rw [if_neg (c2 _ (pb_oc (by omega))), pb_bd (md_po _ (x := nI p) (y := 7) rfl rfl (by omega : p < 20) (by decide : 7 < 20)), pb_o (by omega), if_neg (by rw [← hit]; exact c3), pb_bd (md_sp _ (x := nI p) (y := 7) rfl rfl (by omega) (by decide))]
      · exact pl_into g (by omega) (rl_into ga hp (Or.inl rfl) (rl_acy_cut ac (fun q hq e => by
          have e2 := congrArg Int32.toInt e
          rw [nI_toInt (by omega)] at e2
          have e3 : (-1 : Int32).toInt = -1 := by decide
          omega)))
theorem ok_open : pl_open pl_G := by
  intro k μ hk g a1 a2
  obtain ⟨R, C, P, N, hh, d, gn, so, di, hn, pi, it, ac, ⟨hk5, wa⟩, bl, ra, mk, si⟩ := id g.1
  have ga : rl_all R C P N hh k 1 143 μ := ⟨d, gn, so, di, hn, pi, it, ac, ⟨hk5, wa⟩, bl, ra, mk, si⟩
  obtain ⟨⟨d1, d2, d3, d4, dP, d5, d36, d20⟩, dR, dC, dN, cC, cP, cN⟩ := id d
  have dR : μ.1 143 0 = nI R := dR
  have dC : μ.1 143 1 = nI C := dC
  have dN : μ.1 143 13 = nI N := dN
  have cC : μ.1 2 0 = nI C := cC
  have cP : μ.1 2 1 = nI P := cP
  have cN : μ.1 11 1 = nI N := cN
  rcases pv_tri a1 (n := N) (by omega) with c | ⟨p, hp, rfl⟩
  · refine ⟨-1, μ, μ, ?_, ?_, pl_mono g⟩
    · unfold fX9_open
      rw [if_pos (pv_hq0 cN c)]
    · unfold fX10_open
      rw [if_pos (pv_iq0 dN d20 c)]
  · have c1 : ¬ fX4_hasPipe μ (nI p) = 0 := by rw [pv_hq1 cN (by omega) hp]; decide
    have c2 : ∀ ν : dw_M, ν.1 143 = μ.1 143 → ¬ fX10_isPipe ν (nI p) = 0 := fun ν e => by rw [pv_iq1 (by rw [e]; exact dN) d20 hp]; decide
    have hki := (pi p hp).1
    rw [← pv_pc] at hki
    rcases pv_rg a2 (l := 0) (h := 3) (lo := 0) (hi := 3) rfl rfl (by decide) (by decide) with c3 | ⟨c3, x, hx1, hx2, rfl⟩
    · refine ⟨-1, μ, μ, ?_, ?_, pl_mono g⟩
      · unfold fX9_open
        rw [if_neg c1, pv_di, if_pos c3]
      · unfold fX10_open
        rw [if_neg (c2 μ rfl), if_pos c3]
    · have c4 : ¬ fX10_in (nI x) 0 3 = 0 := by rw [c3]; decide
      have e1 := md_po μ (x := nI p) (y := 0) rfl rfl (by omega : p < 20) (by decide : 0 < 20)
      by_cases c5 : μ.1 (12 + 1 + 2 * p) 1 = 3
      · have ev : (100 : Int32) + nI x = nI (100 + x) := nI_add 100 x
        refine ⟨1, dw_st μ (12 + 1 + 2 * p) 5 (nI (100 + x)), dw_st (dw_st μ (12 + 1 + 2 * p) 5 (nI (100 + x))) 143 (400 + 20 * p + 7) (nI (100 + x)), ?_, ?_, ?_⟩
        · unfold fX9_open
          rw [if_neg c1, pv_di, if_neg c4, pb_gd (pb_ok rfl (by omega) (by decide)), pb_cl rfl (by omega), if_pos c5, ev]
          rfl
        · unfold fX10_open
          rw [if_neg (c2 _ (pb_oc (by omega))), if_neg c4, pb_bd (md_po _ (x := nI p) (y := 0) rfl rfl (by omega : p < 20) (by decide : 0 < 20)), pb_o (by omega), Nat.add_zero, if_pos (by rw [← hki]; exact c5), ev, pb_bd (md_sp _ (x := nI p) (y := 7) rfl rfl (by omega) (by decide))]
        · exact pl_into g (by omega) (rl_into ga hp (Or.inr (Or.inr ⟨x, by omega, rfl⟩)) (rl_acy_cut ac (fun q hq e => by
            have e2 := (nI_eq (by omega) (by omega)).mp e
            omega)))
      · refine ⟨-3, μ, μ, ?_, ?_, pl_mono g⟩
        · unfold fX9_open
          rw [if_neg c1, pv_di, if_neg c4, pb_gd (pb_ok rfl (by omega) (by decide)), pb_cl rfl (by omega), if_neg c5]
        · unfold fX10_open
          rw [if_neg (c2 μ rfl), if_neg c4, pb_bd e1, Nat.add_zero, if_neg (by rw [← hki]; exact c5)]
theorem ok_block : pl_block pl_G := by
  intro k μ hk g a1 a2 ha2
  obtain ⟨R, C, P, N, hh, d, gn, so, di, hn, pi, it, ac, ⟨hk5, wa⟩, bl, ra, mk, si⟩ := id g.1
  obtain ⟨⟨d1, d2, d3, d4, dP, d5, d36, d20⟩, dR, dC, dN, cC, cP, cN⟩ := id d
  have dR : μ.1 143 0 = nI R := dR
  have dC : μ.1 143 1 = nI C := dC
  have dN : μ.1 143 13 = nI N := dN
  have cC : μ.1 2 0 = nI C := cC
  have cP : μ.1 2 1 = nI P := cP
  have cN : μ.1 11 1 = nI N := cN
  rcases pv_tri a1 (n := N) (by omega) with c | ⟨p, hp, rfl⟩
  · refine ⟨-1, μ, μ, ?_, ?_, pl_mono g⟩
    · unfold fX9_block
      rw [if_pos (pv_hq0 cN c)]
    · unfold fX10_block
      rw [if_pos (pv_iq0 dN d20 c)]
  · have c1 : ¬ fX4_hasPipe μ (nI p) = 0 := by rw [pv_hq1 cN (by omega) hp]; decide
    obtain ⟨b, hb⟩ : ∃ b : Bool, a2 = if b then 1 else 0 := by
      rcases ha2 with e | e
      · exact ⟨false, by rw [e]; rfl⟩
      · exact ⟨true, by rw [e]; rfl⟩
    have hput := pg_put μ 60 (x := nI p) rfl (by omega : p < 64) hb
    have hA : μ.1 143 (400 + 20 * p + 8) = if pg_b (μ.2 60) p then 1 else 0 := bl.1 p hp
    refine ⟨if pg_b (μ.2 60) p = b then 0 else 1, dw_sl μ 60 (pg_s (μ.2 60) p b), dw_st (dw_sl μ 60 (pg_s (μ.2 60) p b)) 143 (400 + 20 * p + 8) a2, ?_, ?_, ?_⟩
    · unfold fX9_block
      rw [if_neg c1, hput]
      rfl
    · unfold fX10_block
      have c2 : ¬ fX10_isPipe (dw_sl μ 60 (pg_s (μ.2 60) p b)) (nI p) = 0 := by rw [pv_iq1 (μ := dw_sl μ 60 (pg_s (μ.2 60) p b)) dN d20 hp]; decide
      rw [if_neg c2, pb_bd (md_po _ (x := nI p) (y := 8) rfl rfl (by omega : p < 20) (by decide : 8 < 20)), pb_sl1, hA]
      have e0 := md_sp (dw_sl μ 60 (pg_s (μ.2 60) p b)) (x := nI p) (y := 8) (v := 0) rfl rfl (by omega : p < 20) (by decide : 8 < 20)
      have e1 := md_sp (dw_sl μ 60 (pg_s (μ.2 60) p b)) (x := nI p) (y := 8) (v := 1) rfl rfl (by omega : p < 20) (by decide : 8 < 20)
      subst hb
      cases b <;> cases hpb : pg_b (μ.2 60) p <;> simp [dw_jm, e0, e1, dw_bd]
    · refine pl_now g ?_ (fun c h1 h2 => by rw [pb_oc (by omega)]; rfl) (fun c h1 h2 => by rw [pb_rd2, pb_sl2, if_neg (by omega)]) (by rw [pb_oc (by omega)]; rfl) (by rw [pb_oc (by omega)]; rfl) (by rw [pb_oc (by omega)]; rfl)
      refine ⟨R, C, P, N, hh, rl_dim_c d ?_ ?_ ?_ ?_ ?_ ?_, rl_gnd_c gn ?_ ?_ ?_ ?_, rl_soi_c so ?_ ?_ ?_ ?_ ?_ ?_ ?_ ?_, rl_dit_c di ?_ ?_, rl_hnd_c hn ?_ ?_, rl_pip_c pi ?_ ?_ ?_ ?_ ?_, rl_int_c it ?_ ?_, rl_acy_c ac ?_, ⟨by omega, rl_wat_c wa d36 d20 ?_ ?_ ?_ ?_ ?_ ?_ ?_ ?_ ?_ ?_ ?_⟩, ?own, rl_rai_c ra ?_ ?_, rl_set_c mk ?_ ?_, rl_set_c si ?_ ?_⟩
      case own =>
        refine ⟨fun q hq => ?_, fun q h1 h2 => ?_⟩
        · rw [pb_rd2, pb_sl2, if_pos rfl, pg_s_b _ (by omega) b q (by omega)]
          by_cases e : q = p
          · subst e
            rw [pb_i, if_pos rfl]
            exact hb
          · rw [pb_o (by omega), if_neg e]
            exact bl.1 q hq
        · rw [pb_rd2, pb_sl2, if_pos rfl, pg_s_b _ (by omega) b q h2, if_neg (by omega)]
          exact bl.2 q h1 h2
      all_goals (intros; first | rfl | (simp (disch := omega) only [pb_o, pb_rd2, pb_sl1, pb_sl2, if_neg]; done))
