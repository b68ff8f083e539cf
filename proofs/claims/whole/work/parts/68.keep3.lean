theorem md_copy (μ : dw_M) {i j : Nat} (hi : dw_ln i = 800) (hj : dw_ln j = 800) (hij : i ≠ j) : fX10_copy μ i j = some (pb_K μ i j 800) := by
  unfold fX10_copy
  have h := pb_det (step := fun w => sX10_copy_2 i j w.1 w.2) (fun k => (nI k, pb_c μ j (pb_cp (μ.1 j) (μ.1 i) k))) 800 (x := ((0 : Int32), μ)) ?_ (r := pb_K μ i j 800) (fun k hk => ?_) ?_ (fuel := 1000) (by omega)
  · rw [pb_bd h]
  · show (nI 0, pb_c μ j (pb_cp (μ.1 j) (μ.1 i) 0)) = _
    rw [pb_cp_0, pb_ci]
    rfl
  · show sX10_copy_2 i j (nI k) (pb_c μ j (pb_cp (μ.1 j) (μ.1 i) k)) = _
    unfold sX10_copy_2
    rw [show (800 : Int32) = nI 800 from rfl, if_neg (nI_ge hk (by omega)), hi, hj, pb_gd (pb_ok rfl hk (by decide)), pb_gd (pb_ok rfl hk (by decide)), pb_cl rfl (by omega)]
    simp only [dw_nm]
    rw [pb_cn _ _ _ hij, pb_cs, pb_cp_s, nI_1]
  · show sX10_copy_2 i j (nI 800) (pb_c μ j (pb_cp (μ.1 j) (μ.1 i) 800)) = _
    unfold sX10_copy_2
    rw [show (800 : Int32) = nI 800 from rfl, if_pos (nI_le (Nat.le_refl _) (by omega))]
    rfl
theorem rl_cp {k i j a a' R C P N hh : Nat} {μ ξ : dw_M} (ga : rl_all R C P N hh k j a μ) (f3 : ξ.1 (i + 1) 0 = μ.1 (j + 1) 0 ∧ ξ.1 (i + 1) 1 = μ.1 (j + 1) 1 ∧ (∀ k, k < 36 → ξ.1 (i + 2) k = μ.1 (j + 2) k) ∧ (∀ k, k < 36 → ξ.1 (i + 3) k = μ.1 (j + 3) k) ∧ ∀ o, 4 ≤ o → o ≤ 8 → ∀ k, k < 4 → ξ.1 (i + o) k = μ.1 (j + o) k) (f4 : ∀ k, k < 5 → ξ.1 (i + 9) k = μ.1 (j + 9) k) (f5 : ξ.1 (i + 10) 1 = nI N) (f6 : ∀ q, q < N → (∀ k, 1 ≤ k → k < 6 → ξ.1 (i + (12 + 2 * q)) k = μ.1 (j + (12 + 2 * q)) k) ∧ ∀ k, k < 5 → ξ.1 (i + (13 + 2 * q)) k = μ.1 (j + (13 + 2 * q)) k) (f7 : (∀ o, 1 ≤ o → o ≤ 2 → ∀ k, k < 36 → ξ.1 (i + 52 + o) k = μ.1 (j + 52 + o) k) ∧ (∀ o, 3 ≤ o → o ≤ 5 → ∀ k, k < 20 → ξ.1 (i + 52 + o) k = μ.1 (j + 52 + o) k) ∧ (∀ k, k < 4 → ξ.1 (i + 52 + 6) k = μ.1 (j + 52 + 6) k) ∧ ξ.1 (i + 52) 7 = μ.1 (j + 52) 7 ∧ ξ.1 (i + 52) 8 = μ.1 (j + 52) 8) (f8 : ∀ k, k < 36 → ξ.1 (i + 60) k = μ.1 (j + 60) k) (f9 : ξ.2 (i + 59) = μ.2 (j + 59)) (f10 : ξ.2 (i + 61) = μ.2 (j + 61)) (f11 : ξ.2 (i + 62) = μ.2 (j + 62)) (e3 : ∀ j, j < 800 → ξ.1 a' j = μ.1 a j) : rl_all R C P N hh k i a' ξ := by
  obtain ⟨d, gn, so, di, hn, pi, it, ac, ⟨hk5, wa⟩, bl, ra, mk, si⟩ := ga
  obtain ⟨⟨d1, d2, d3, d4, dP, d5, d36, d20⟩, dR, dC, dN, cC, cP, cN⟩ := id d
  obtain ⟨g1, g2, g3, g4, g5⟩ := f3
  obtain ⟨h1, h2, h3, h4, h5⟩ := f7
  refine ⟨rl_dim_c d (e3 0 (by decide)) (e3 1 (by decide)) (e3 13 (by decide)) g1 g2 (by rw [f5, cN]), rl_gnd_c gn (fun p hp => g3 p (by omega)) (fun p hp => g4 p (by omega)) (fun p hp => e3 _ (by omega)) (fun p hp => e3 _ (by omega)), rl_soi_c so (fun t ht => g5 4 (by omega) (by omega) t ht) (fun t ht => g5 5 (by omega) (by omega) t ht) (fun t ht => g5 6 (by omega) (by omega) t ht) (fun t ht => g5 7 (by omega) (by omega) t ht) (fun t ht => e3 _ (by omega)) (fun t ht => e3 _ (by omega)) (fun t ht => e3 _ (by omega)) (fun t ht => e3 _ (by omega)), rl_dit_c di (fun t ht => g5 8 (by omega) (by omega) t ht) (fun t ht => e3 _ (by omega)), rl_hnd_c hn f4 (fun j h1 h2 => e3 j (by omega)), rl_pip_c pi (fun p j hp h1 h2 => (f6 p hp).1 j h1 (by omega)) (fun p j hp h1 => (f6 p hp).2 j h1) (fun p hp => e3 _ (by omega)) (fun p j hp h1 h2 => e3 _ (by omega)) (fun p hp => e3 _ (by omega)), rl_int_c it (fun p hp => (f6 p hp).1 5 (by omega) (by omega)) (fun p hp => e3 _ (by omega)), rl_acy_c ac (fun p hp => e3 _ (by omega)), ⟨hk5, rl_wat_c wa d36 d20 (fun q hq => (f6 q hq).1 4 (by omega) (by omega)) (fun f p h1' h2' h3' => h1 f h1' h2' p h3') (fun f q h1' h2' h3' => h2 f h1' h2' q h3') h3 h4 h5 (fun j h1 h2 => e3 j (by omega)) (fun q hq => e3 _ (by omega)) (fun q hq => e3 _ (by omega)) (fun q hq => e3 _ (by omega)) (fun j h1 h2 => e3 j (by omega))⟩, rl_blk_c bl f9 (fun q hq => e3 _ (by omega)), rl_rai_c ra (fun p hp => f8 p (by omega)) (fun p hp => e3 _ (by omega)), rl_set_c mk f10 (fun q hq => e3 _ (by omega)), rl_set_c si f11 (fun q hq => e3 _ (by omega))⟩
theorem ok_keep : pl_keep pl_G := by
  intro k μ hk g
  obtain ⟨R, C, P, N, hh, ga⟩ := id g.1
  have d := ga.1
  obtain ⟨⟨d1, d2, d3, d4, dP, d5, d36, d20⟩, dR, dC, dN, cC, cP, cN⟩ := id d
  obtain ⟨ν, hν, f1, f2, f3, f4, f5, f6, f7, f8, f9, f10, f11⟩ := cl_cp μ (i := 64) (j := 1) (Or.inl ⟨rfl, rfl⟩) d20 cN
  have xo : ∀ c j, c ≠ 0 → c ≠ 142 → c ≠ 144 → (pb_K (dw_st (dw_st ν 0 2 1) 142 3 1) 143 144 800).1 c j = ν.1 c j := by
    intro c j h1 h2 h3
    rw [pb_Ko (by omega), pb_o (by omega), pb_o (by omega)]
  have xf : ∀ c, c ≠ 0 → c ≠ 142 → c ≠ 144 → (pb_K (dw_st (dw_st ν 0 2 1) 142 3 1) 143 144 800).1 c = ν.1 c := fun c h1 h2 h3 => funext fun j => xo c j h1 h2 h3
  have xa : ∀ j, j < 800 → (pb_K (dw_st (dw_st ν 0 2 1) 142 3 1) 143 144 800).1 144 j = μ.1 143 j := by
    intro j hj
    rw [pb_Ki hj, pb_o (by omega), pb_o (by omega), f1 _ _ (by omega)]
  have x0 : (pb_K (dw_st (dw_st ν 0 2 1) 142 3 1) 143 144 800).1 0 2 = 1 := by rw [pb_Ko (by omega), pb_o (by omega), pb_i]
  have x143 : (pb_K (dw_st (dw_st ν 0 2 1) 142 3 1) 143 144 800).1 142 3 = 1 := by rw [pb_Ko (by omega), pb_i]
  have x2 : (pb_K (dw_st (dw_st ν 0 2 1) 142 3 1) 143 144 800).2 = ν.2 := rfl
  refine ⟨1, dw_st ν 0 2 1, pb_K (dw_st (dw_st ν 0 2 1) 142 3 1) 143 144 800, ?_, ?_, ?_⟩
  · unfold fX9_keep
    rw [pb_bd hν]
    rfl
  · unfold fX10_keep
    simp only [dw_nm]
    rw [pb_bd (md_copy _ dw_lc143 dw_lc144 (by decide))]
  · generalize pb_K (dw_st (dw_st ν 0 2 1) 142 3 1) 143 144 800 = ξ at *
    refine ⟨?_, Or.inr x0, by rw [x0, x143], fun _ => ?_⟩
    · exact rl_mono (rl_move g.1 (fun o ho j _ _ _ _ _ => by rw [xo _ _ (by omega) (by omega) (by omega), f1 _ _ (by omega)]) (fun o ho => by rw [x2, f2 _ (by omega)]) (fun j _ => by rw [xo _ _ (by omega) (by omega) (by omega), f1 _ _ (by omega)]))
    · refine rl_mono ⟨R, C, P, N, hh, rl_cp ga ?_ ?_ ?_ ?_ ?_ ?_ (by rw [x2]; exact f9) (by rw [x2]; exact f10) (by rw [x2]; exact f11) xa⟩
      · obtain ⟨f31, f32, f33, f34, f35⟩ := f3
        refine ⟨by rw [xo _ _ (by omega) (by omega) (by omega)]; exact f31, by rw [xo _ _ (by omega) (by omega) (by omega)]; exact f32, fun k hk => by rw [xo _ _ (by omega) (by omega) (by omega)]; exact f33 k hk, fun k hk => by rw [xo _ _ (by omega) (by omega) (by omega)]; exact f34 k hk, fun o h1 h2 k hk => by rw [xo _ _ (by omega) (by omega) (by omega)]; exact f35 o h1 h2 k hk⟩
      · simp (disch := omega) only [xo]
        exact f4
      · simp (disch := omega) only [xo]
        exact f5
      · intro q hq
        simp (disch := omega) only [xo]
        exact f6 q hq
      · refine ⟨fun o h1 h2 k hk => ?_, fun o h1 h2 k hk => ?_, fun k hk => ?_, ?_, ?_⟩
        · rw [xo _ _ (by omega) (by omega) (by omega)]; exact f7.1 o h1 h2 k hk
        · rw [xo _ _ (by omega) (by omega) (by omega)]; exact f7.2.1 o h1 h2 k hk
        · rw [xo _ _ (by omega) (by omega) (by omega)]; exact f7.2.2.1 k hk
        · rw [xo _ _ (by omega) (by omega) (by omega)]; exact f7.2.2.2.1
        · rw [xo _ _ (by omega) (by omega) (by omega)]; exact f7.2.2.2.2
      · simp (disch := omega) only [xo]
        exact f8
theorem ok_back : pl_back pl_G := by
  intro k μ hk g
  by_cases c : μ.1 0 2 = 0
  · refine ⟨-6, μ, μ, ?_, ?_, pl_mono g⟩
    · unfold fX9_back
      rw [if_pos c]
    · unfold fX10_back
      rw [g.2.2.1, if_pos c]
  have c1 : μ.1 0 2 = 1 := g.2.1.resolve_left c
  obtain ⟨R, C, P, N, hh, ga⟩ := id (g.2.2.2 c1)
  have d := ga.1
  obtain ⟨⟨d1, d2, d3, d4, dP, d5, d36, d20⟩, dR, dC, dN, cC, cP, cN⟩ := id d
  obtain ⟨ν, hν, f1, f2, f3, f4, f5, f6, f7, f8, f9, f10, f11⟩ := cl_cp μ (i := 1) (j := 64) (Or.inr ⟨rfl, rfl⟩) d20 cN
  have xo : ∀ c j, c ≠ 143 → (pb_K ν 144 143 800).1 c j = ν.1 c j := fun c j h => by rw [pb_Ko (by omega)]
  have xa : ∀ j, j < 800 → (pb_K ν 144 143 800).1 143 j = μ.1 144 j := by
    intro j hj
    rw [pb_Ki hj, f1 _ _ (by omega)]
  have x2 : (pb_K ν 144 143 800).2 = ν.2 := rfl
  refine ⟨1, ν, pb_K ν 144 143 800, ?_, ?_, ?_⟩
  · unfold fX9_back
    rw [if_neg c, pb_bd hν]
  · unfold fX10_back
    rw [f1 _ _ (by omega), g.2.2.1, if_neg c, pb_bd (md_copy _ dw_lc144 dw_lc143 (by decide))]
  · generalize pb_K ν 144 143 800 = ξ at *
    refine ⟨?_, ?_, ?_, fun _ => ?_⟩
    · refine rl_mono ⟨R, C, P, N, hh, rl_cp ga ?_ ?_ ?_ ?_ ?_ ?_ (by rw [x2]; exact f9) (by rw [x2]; exact f10) (by rw [x2]; exact f11) xa⟩
      · obtain ⟨f31, f32, f33, f34, f35⟩ := f3
        refine ⟨by rw [xo _ _ (by omega)]; exact f31, by rw [xo _ _ (by omega)]; exact f32, fun k hk => by rw [xo _ _ (by omega)]; exact f33 k hk, fun k hk => by rw [xo _ _ (by omega)]; exact f34 k hk, fun o h1 h2 k hk => by rw [xo _ _ (by omega)]; exact f35 o h1 h2 k hk⟩
      · simp (disch := omega) only [xo]
        exact f4
      · simp (disch := omega) only [xo]
        exact f5
      · intro q hq
        simp (disch := omega) only [xo]
        exact f6 q hq
      · refine ⟨fun o h1 h2 k hk => ?_, fun o h1 h2 k hk => ?_, fun k hk => ?_, ?_, ?_⟩
        · rw [xo _ _ (by omega)]; exact f7.1 o h1 h2 k hk
        · rw [xo _ _ (by omega)]; exact f7.2.1 o h1 h2 k hk
        · rw [xo _ _ (by omega)]; exact f7.2.2.1 k hk
        · rw [xo _ _ (by omega)]; exact f7.2.2.2.1
        · rw [xo _ _ (by omega)]; exact f7.2.2.2.2
      · simp (disch := omega) only [xo]
        exact f8
    · rw [xo _ _ (by omega), f1 _ _ (by omega)]
      exact g.2.1
    · rw [xo _ _ (by omega), f1 _ _ (by omega), xo _ _ (by omega), f1 _ _ (by omega)]
      exact g.2.2.1
    · exact rl_mono (rl_move (g.2.2.2 c1) (fun o ho j _ _ _ _ _ => by rw [xo _ _ (by omega), f1 _ _ (by omega)]) (fun o ho => by rw [x2, f2 _ (by omega)]) (fun j _ => by rw [xo _ _ (by omega), f1 _ _ (by omega)]))
