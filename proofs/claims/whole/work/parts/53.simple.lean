theorem pv_c0 : (0 : Int32).toNatClampNeg = 0 := by decide
theorem pv_c1 : (1 : Int32).toNatClampNeg = 1 := by decide
theorem pv_c2 : (2 : Int32).toNatClampNeg = 2 := by decide
theorem pv_c3 : (3 : Int32).toNatClampNeg = 3 := by decide
theorem pv_c4 : (4 : Int32).toNatClampNeg = 4 := by decide
theorem pv_c5 : (5 : Int32).toNatClampNeg = 5 := by decide
theorem pv_c6 : (6 : Int32).toNatClampNeg = 6 := by decide
theorem pv_c7 : (7 : Int32).toNatClampNeg = 7 := by decide
theorem pv_c8 : (8 : Int32).toNatClampNeg = 8 := by decide
theorem pv_c13 : (13 : Int32).toNatClampNeg = 13 := by decide
theorem pv_w (a b c : Int32) : fX9_isWithin a b c = fX10_in a b c := rfl
theorem pv_so (a : Int32) : fX9_isSoil a = fX10_in a 0 3 := by
  unfold fX9_isSoil fX10_in
  by_cases c1 : a < 0
  · rw [if_pos c1, if_pos c1]
  · rw [if_neg c1, if_neg c1]
    by_cases c2 : (4 : Int32) ≤ a
    · rw [if_pos c2, if_pos (by rw [fa_le, show (4 : Int32).toInt = 4 from rfl] at c2; rw [fa_lt, show (3 : Int32).toInt = 3 from rfl]; omega)]
    · rw [if_neg c2, if_neg (by rw [fa_le, show (4 : Int32).toInt = 4 from rfl] at c2; rw [fa_lt, show (3 : Int32).toInt = 3 from rfl]; omega)]
theorem pv_di (a : Int32) : fX9_isDitch a = fX10_in a 0 3 := pv_so a
/-- a number of a row, at an index of its own -/
theorem pv_na {μ : dw_M} {i n j : Nat} (hl : dw_ln i = n) (hn : n ≤ 1000) (hj : j < n) : fX9_numberAt μ i (nI j) = some (μ.1 i j) := by
  unfold fX9_numberAt
  rw [hl, if_neg (nI_pos (by omega)), if_neg (nI_ge hj (by omega)), pb_gd (pb_ok rfl hj (by omega)), pb_cl rfl (by omega)]
theorem pv_in0 {x l h : Int32} (c : x < l ∨ h < x) : fX10_in x l h = 0 := by
  unfold fX10_in
  by_cases c1 : x < l
  · rw [if_pos c1]
  · rw [if_neg c1, if_pos (c.resolve_left c1)]
theorem pv_in1 {x l h : Int32} (c1 : ¬ x < l) (c2 : ¬ h < x) : fX10_in x l h = 1 := by
  unfold fX10_in
  rw [if_neg c1, if_neg c2]
/-- a number in a range, or not -/
theorem pv_rg (x : Int32) {l h : Int32} {lo hi : Nat} (el : l = nI lo) (eh : h = nI hi) (hh : hi < 2 ^ 31) (hlo : lo ≤ hi) : fX10_in x l h = 0 ∨ (fX10_in x l h = 1 ∧ ∃ j, lo ≤ j ∧ j ≤ hi ∧ x = nI j) := by
  by_cases c1 : x < l
  · exact Or.inl (pv_in0 (Or.inl c1))
  · by_cases c2 : h < x
    · exact Or.inl (pv_in0 (Or.inr c2))
    · refine Or.inr ⟨pv_in1 c1 c2, ?_⟩
      rw [fa_lt, el, nI_toInt (by omega)] at c1
      rw [fa_lt, eh, nI_toInt hh] at c2
      refine ⟨x.toInt.toNat, by omega, by omega, ?_⟩
      apply Int32.toInt_inj.mp
      rw [nI_toInt (by omega)]
      omega
theorem pv_n1 {n : Nat} (hn : n ≤ 1000) : (nI n - (1 : Int32)).toInt = (n : Int) - 1 := pk_sub_toInt (a := n) (b := 1) (by omega) (by decide)
theorem pv_nin0 {n : Nat} (hn : n ≤ 1000) {x : Int32} (h : x < 0 ∨ nI n ≤ x) : fX10_in x 0 (nI n - 1) = 0 := by
  apply pv_in0
  rcases h with h | h
  · exact Or.inl h
  · right
    rw [fa_le, nI_toInt (by omega)] at h
    rw [fa_lt, pv_n1 hn]
    omega
theorem pv_nin1 {n j : Nat} (hn : n ≤ 1000) (hj : j < n) : fX10_in (nI j) 0 (nI n - 1) = 1 := by
  apply pv_in1
  · exact nI_pos (by omega)
  · rw [fa_lt, pv_n1 hn, nI_toInt (by omega)]
    omega
theorem pv_hp0 {μ : dw_M} {P : Nat} {x : Int32} (e : μ.1 2 1 = nI P) (h : x < 0 ∨ nI P ≤ x) : fX1_hasPlace μ x = 0 := by
  unfold fX1_hasPlace
  rw [e]
  by_cases c : x < 0
  · rw [if_pos c]
  · rw [if_neg c, if_pos (h.resolve_left c)]
theorem pv_hp1 {μ : dw_M} {P p : Nat} (e : μ.1 2 1 = nI P) (hP : P ≤ 36) (hp : p < P) : fX1_hasPlace μ (nI p) = 1 := by
  unfold fX1_hasPlace
  rw [e, if_neg (nI_pos (by omega)), if_neg (nI_ge hp (by omega))]
theorem pv_hq0 {μ : dw_M} {P : Nat} {x : Int32} (e : μ.1 11 1 = nI P) (h : x < 0 ∨ nI P ≤ x) : fX4_hasPipe μ x = 0 := by
  unfold fX4_hasPipe
  rw [e]
  by_cases c : x < 0
  · rw [if_pos c]
  · rw [if_neg c, if_pos (h.resolve_left c)]
theorem pv_hq1 {μ : dw_M} {P p : Nat} (e : μ.1 11 1 = nI P) (hP : P ≤ 36) (hp : p < P) : fX4_hasPipe μ (nI p) = 1 := by
  unfold fX4_hasPipe
  rw [e, if_neg (nI_pos (by omega)), if_neg (nI_ge hp (by omega))]
theorem pv_pl {μ : dw_M} {R C P : Nat} (e0 : μ.1 143 0 = nI R) (e1 : μ.1 143 1 = nI C) (hP : P = R * C) : fX10_places μ = nI P := by
  unfold fX10_places
  rw [pv_c0, pv_c1, e0, e1, pk_mul, hP]
theorem pv_ip0 {μ : dw_M} {R C P : Nat} {x : Int32} (e0 : μ.1 143 0 = nI R) (e1 : μ.1 143 1 = nI C) (hP : P = R * C) (h36 : P ≤ 36) (h : x < 0 ∨ nI P ≤ x) : fX10_isPlace μ x = 0 := by
  unfold fX10_isPlace
  rw [pv_pl e0 e1 hP]
  exact pv_nin0 (by omega) h
theorem pv_ip1 {μ : dw_M} {R C P p : Nat} (e0 : μ.1 143 0 = nI R) (e1 : μ.1 143 1 = nI C) (hP : P = R * C) (h36 : P ≤ 36) (h : p < P) : fX10_isPlace μ (nI p) = 1 := by
  unfold fX10_isPlace
  rw [pv_pl e0 e1 hP]
  exact pv_nin1 (by omega) h
theorem pv_iq0 {μ : dw_M} {N : Nat} {x : Int32} (e0 : μ.1 143 13 = nI N) (h20 : N ≤ 20) (h : x < 0 ∨ nI N ≤ x) : fX10_isPipe μ x = 0 := by
  unfold fX10_isPipe
  rw [pv_c13, e0]
  exact pv_nin0 (by omega) h
theorem pv_iq1 {μ : dw_M} {N p : Nat} (e0 : μ.1 143 13 = nI N) (h20 : N ≤ 20) (h : p < N) : fX10_isPipe μ (nI p) = 1 := by
  unfold fX10_isPipe
  rw [pv_c13, e0]
  exact pv_nin1 (by omega) h
theorem pv_tri (x : Int32) {n : Nat} (hn : n < 2 ^ 31) : (x < 0 ∨ nI n ≤ x) ∨ ∃ j, j < n ∧ x = nI j := by
  rcases pk_ix x hn with h | h | h
  · exact Or.inl (Or.inl h)
  · exact Or.inl (Or.inr h)
  · exact Or.inr h
theorem pv_a {c : Int32} {n p : Nat} (hc : c = nI n) : c + nI p = nI (n + p) := by rw [hc, nI_add]
theorem pb_i2 {μ : dw_M} {i k i2 k2 : Nat} {x y : Int32} (h : i ≠ i2 ∨ k ≠ k2) : (dw_st (dw_st μ i k x) i2 k2 y).1 i k = x := by rw [pb_o h, pb_i]
theorem ok_height : pl_height pl_G := by
  intro k μ hk g a1 a2
  obtain ⟨R, C, P, N, hh, d, gn, so, di, hn, pi, it, ac, ⟨hk5, wa⟩, bl, ra, mk, si⟩ := id g.1
  obtain ⟨⟨d1, d2, d3, d4, dP, d5, d36, d20⟩, dR, dC, dN, cC, cP, cN⟩ := id d
  have dR : μ.1 143 0 = nI R := dR
  have dC : μ.1 143 1 = nI C := dC
  have dN : μ.1 143 13 = nI N := dN
  have cC : μ.1 2 0 = nI C := cC
  have cP : μ.1 2 1 = nI P := cP
  have cN : μ.1 11 1 = nI N := cN
  rcases pv_tri a1 (n := P) (by omega) with c | ⟨p, hp, rfl⟩
  · refine ⟨-1, μ, μ, ?_, ?_, pl_mono g⟩
    · unfold fX9_height
      rw [if_pos (pv_hp0 cP c)]
    · unfold fX10_height
      rw [if_pos (pv_ip0 dR dC dP d36 c)]
  · have c1 : ¬ fX1_hasPlace μ (nI p) = 0 := by rw [pv_hp1 cP d36 hp]; decide
    have c2 : ∀ ν : dw_M, ν.1 143 = μ.1 143 → ¬ fX10_isPlace ν (nI p) = 0 := fun ν e => by rw [pv_ip1 (by rw [e]; exact dR) (by rw [e]; exact dC) dP d36 hp]; decide
    rcases pv_rg a2 (l := 0) (h := 2000) (lo := 0) (hi := 2000) rfl rfl (by decide) (by decide) with c3 | ⟨c3, x, hx1, hx2, rfl⟩
    · refine ⟨-1, μ, μ, ?_, ?_, pl_mono g⟩
      · unfold fX9_height
        rw [if_neg c1, pv_w, if_pos c3]
      · unfold fX10_height
        rw [if_neg (c2 μ rfl), if_pos c3]
    · have c4 : ¬ fX10_in (nI x) 0 2000 = 0 := by rw [c3]; decide
      refine ⟨1, dw_st μ 3 p (nI x), dw_st (dw_st μ 3 p (nI x)) 143 (20 + p) (nI x), ?_, ?_, ?_⟩
      · unfold fX9_height
        rw [if_neg c1, pv_w, if_neg c4, pb_gd (pb_ok rfl (by omega) (by decide)), pb_cl rfl (by omega)]
        rfl
      · unfold fX10_height
        rw [if_neg (c2 _ (pb_oc (by decide))), if_neg c4, pv_a (c := 20) (n := 20) rfl, pb_gd (pb_ok rfl (by omega) (by decide)), pb_cl rfl (by omega)]
        rfl
      · refine pl_now g ?_ (fun c h1 h2 => by rw [pb_oc (by omega), pb_oc (by omega)]) (fun _ _ _ => rfl) (by rw [pb_oc (by omega), pb_oc (by omega)]) (by rw [pb_oc (by omega), pb_oc (by omega)]) (by rw [pb_oc (by omega), pb_oc (by omega)])
        refine ⟨R, C, P, N, hh, rl_dim_c d ?_ ?_ ?_ ?_ ?_ ?_, ?own, rl_soi_c so ?_ ?_ ?_ ?_ ?_ ?_ ?_ ?_, rl_dit_c di ?_ ?_, rl_hnd_c hn ?_ ?_, rl_pip_c pi ?_ ?_ ?_ ?_ ?_, rl_int_c it ?_ ?_, rl_acy_c ac ?_, ⟨by omega, rl_wat_c wa d36 d20 ?_ ?_ ?_ ?_ ?_ ?_ ?_ ?_ ?_ ?_ ?_⟩, rl_blk_c bl ?_ ?_, rl_rai_c ra ?_ ?_, rl_set_c mk ?_ ?_, rl_set_c si ?_ ?_⟩
        case own =>
          intro q hq
          have h := gn q hq
          by_cases e : q = p
          · subst e
            refine ⟨by rw [pb_i, show (1 : Nat) + 2 = 3 from rfl, pb_i2 (Or.inl (by decide))], by rw [pb_o (by omega), pb_o (by omega), pb_o (by omega), pb_o (by omega)]; exact h.2.1, by rw [pb_o (by omega), pb_o (by omega)]; exact h.2.2.1, x, hx2, pb_i⟩
          · have e1 : 20 + q ≠ 20 + p := by omega
            simp (disch := omega) only [pb_o]
            exact h
        all_goals (intros; first | rfl | (simp (disch := omega) only [pb_o, pb_rd2]; done))
theorem ok_soil : pl_soil pl_G := by
  intro k μ hk g a1 a2
  obtain ⟨R, C, P, N, hh, d, gn, so, di, hn, pi, it, ac, ⟨hk5, wa⟩, bl, ra, mk, si⟩ := id g.1
  obtain ⟨⟨d1, d2, d3, d4, dP, d5, d36, d20⟩, dR, dC, dN, cC, cP, cN⟩ := id d
  have dR : μ.1 143 0 = nI R := dR
  have dC : μ.1 143 1 = nI C := dC
  have dN : μ.1 143 13 = nI N := dN
  have cC : μ.1 2 0 = nI C := cC
  have cP : μ.1 2 1 = nI P := cP
  have cN : μ.1 11 1 = nI N := cN
  rcases pv_tri a1 (n := P) (by omega) with c | ⟨p, hp, rfl⟩
  · refine ⟨-1, μ, μ, ?_, ?_, pl_mono g⟩
    · unfold fX9_soil
      rw [if_pos (pv_hp0 cP c)]
    · unfold fX10_soil
      rw [if_pos (pv_ip0 dR dC dP d36 c)]
  · have c1 : ¬ fX1_hasPlace μ (nI p) = 0 := by rw [pv_hp1 cP d36 hp]; decide
    have c2 : ∀ ν : dw_M, ν.1 143 = μ.1 143 → ¬ fX10_isPlace ν (nI p) = 0 := fun ν e => by rw [pv_ip1 (by rw [e]; exact dR) (by rw [e]; exact dC) dP d36 hp]; decide
    rcases pv_rg a2 (l := 0) (h := 3) (lo := 0) (hi := 3) rfl rfl (by decide) (by decide) with c3 | ⟨c3, x, hx1, hx2, rfl⟩
    · refine ⟨-1, μ, μ, ?_, ?_, pl_mono g⟩
      · unfold fX9_soil
        rw [if_neg c1, pv_so, if_pos c3]
      · unfold fX10_soil
        rw [if_neg (c2 μ rfl), if_pos c3]
    · have c4 : ¬ fX10_in (nI x) 0 3 = 0 := by rw [c3]; decide
      refine ⟨1, dw_st μ 4 p (nI x), dw_st (dw_st μ 4 p (nI x)) 143 (60 + p) (nI x), ?_, ?_, ?_⟩
      · unfold fX9_soil
        rw [if_neg c1, pv_so, if_neg c4, pb_gd (pb_ok rfl (by omega) (by decide)), pb_cl rfl (by omega)]
        rfl
      · unfold fX10_soil
        rw [if_neg (c2 _ (pb_oc (by decide))), if_neg c4, pv_a (c := 60) (n := 60) rfl, pb_gd (pb_ok rfl (by omega) (by decide)), pb_cl rfl (by omega)]
        rfl
      · refine pl_now g ?_ (fun c h1 h2 => by rw [pb_oc (by omega), pb_oc (by omega)]) (fun _ _ _ => rfl) (by rw [pb_oc (by omega), pb_oc (by omega)]) (by rw [pb_oc (by omega), pb_oc (by omega)]) (by rw [pb_oc (by omega), pb_oc (by omega)])
        refine ⟨R, C, P, N, hh, rl_dim_c d ?_ ?_ ?_ ?_ ?_ ?_, ?own, rl_soi_c so ?_ ?_ ?_ ?_ ?_ ?_ ?_ ?_, rl_dit_c di ?_ ?_, rl_hnd_c hn ?_ ?_, rl_pip_c pi ?_ ?_ ?_ ?_ ?_, rl_int_c it ?_ ?_, rl_acy_c ac ?_, ⟨by omega, rl_wat_c wa d36 d20 ?_ ?_ ?_ ?_ ?_ ?_ ?_ ?_ ?_ ?_ ?_⟩, rl_blk_c bl ?_ ?_, rl_rai_c ra ?_ ?_, rl_set_c mk ?_ ?_, rl_set_c si ?_ ?_⟩
        case own =>
          intro q hq
          have h := gn q hq
          by_cases e : q = p
          · subst e
            refine ⟨by rw [pb_o (by omega), pb_o (by omega), pb_o (by omega), pb_o (by omega)]; exact h.1, by rw [pb_i, show (1 : Nat) + 3 = 4 from rfl, pb_i2 (Or.inl (by decide))], ⟨x, by omega, pb_i⟩, by rw [pb_o (by omega), pb_o (by omega)]; exact h.2.2.2⟩
          · have e1 : 60 + q ≠ 60 + p := by omega
            simp (disch := omega) only [pb_o]
            exact h
        all_goals (intros; first | rfl | (simp (disch := omega) only [pb_o, pb_rd2]; done))
theorem ok_ditch : pl_ditch pl_G := by
  intro k μ hk g a1 a2
  obtain ⟨R, C, P, N, hh, d, gn, so, di, hn, pi, it, ac, ⟨hk5, wa⟩, bl, ra, mk, si⟩ := id g.1
  obtain ⟨⟨d1, d2, d3, d4, dP, d5, d36, d20⟩, dR, dC, dN, cC, cP, cN⟩ := id d
  have dR : μ.1 143 0 = nI R := dR
  have dC : μ.1 143 1 = nI C := dC
  have dN : μ.1 143 13 = nI N := dN
  have cC : μ.1 2 0 = nI C := cC
  have cP : μ.1 2 1 = nI P := cP
  have cN : μ.1 11 1 = nI N := cN
  rcases pv_rg a1 (l := 0) (h := 3) (lo := 0) (hi := 3) rfl rfl (by decide) (by decide) with c | ⟨c, p, hp1, hp, rfl⟩
  · refine ⟨-1, μ, μ, ?_, ?_, pl_mono g⟩
    · unfold fX9_ditch
      rw [pv_di, if_pos c]
    · unfold fX10_ditch
      rw [if_pos c]
  · have c1 : ¬ fX10_in (nI p) 0 3 = 0 := by rw [c]; decide
    rcases pv_rg a2 (l := 0) (h := 2000) (lo := 0) (hi := 2000) rfl rfl (by decide) (by decide) with c3 | ⟨c3, x, hx1, hx2, rfl⟩
    · refine ⟨-1, μ, μ, ?_, ?_, pl_mono g⟩
      · unfold fX9_ditch
        rw [pv_di, if_neg c1, pv_w, if_pos c3]
      · unfold fX10_ditch
        rw [if_neg c1, if_pos c3]
    · have c4 : ¬ fX10_in (nI x) 0 2000 = 0 := by rw [c3]; decide
      refine ⟨1, dw_st μ 9 p (nI x), dw_st (dw_st μ 9 p (nI x)) 143 (320 + p) (nI x), ?_, ?_, ?_⟩
      · unfold fX9_ditch
        rw [pv_di, if_neg c1, pv_w, if_neg c4, pb_gd (pb_ok rfl (by omega) (by decide)), pb_cl rfl (by omega)]
        rfl
      · unfold fX10_ditch
        rw [if_neg c1, if_neg c4, pv_a (c := 320) (n := 320) rfl, pb_gd (pb_ok rfl (by omega) (by decide)), pb_cl rfl (by omega)]
        rfl
      · refine pl_now g ?_ (fun c h1 h2 => by rw [pb_oc (by omega), pb_oc (by omega)]) (fun _ _ _ => rfl) (by rw [pb_oc (by omega), pb_oc (by omega)]) (by rw [pb_oc (by omega), pb_oc (by omega)]) (by rw [pb_oc (by omega), pb_oc (by omega)])
        refine ⟨R, C, P, N, hh, rl_dim_c d ?_ ?_ ?_ ?_ ?_ ?_, rl_gnd_c gn ?_ ?_ ?_ ?_, rl_soi_c so ?_ ?_ ?_ ?_ ?_ ?_ ?_ ?_, ?own, rl_hnd_c hn ?_ ?_, rl_pip_c pi ?_ ?_ ?_ ?_ ?_, rl_int_c it ?_ ?_, rl_acy_c ac ?_, ⟨by omega, rl_wat_c wa d36 d20 ?_ ?_ ?_ ?_ ?_ ?_ ?_ ?_ ?_ ?_ ?_⟩, rl_blk_c bl ?_ ?_, rl_rai_c ra ?_ ?_, rl_set_c mk ?_ ?_, rl_set_c si ?_ ?_⟩
        case own =>
          intro q hq
          have h := di q hq
          by_cases e : q = p
          · subst e
            rw [pb_i, show (1 : Nat) + 8 = 9 from rfl, pb_i2 (Or.inl (by decide))]
          · have e1 : 320 + q ≠ 320 + p := by omega
            simp (disch := omega) only [pb_o]
            exact h
        all_goals (intros; first | rfl | (simp (disch := omega) only [pb_o, pb_rd2]; done))
set_option maxHeartbeats 2000000 in
theorem ok_soils : pl_soils pl_G := by
  intro k μ hk g a1 a2 a3 a4 a5
  obtain ⟨R, C, P, N, hh, d, gn, so, di, hn, pi, it, ac, ⟨hk5, wa⟩, bl, ra, mk, si⟩ := id g.1
  obtain ⟨⟨d1, d2, d3, d4, dP, d5, d36, d20⟩, dR, dC, dN, cC, cP, cN⟩ := id d
  have dR : μ.1 143 0 = nI R := dR
  have dC : μ.1 143 1 = nI C := dC
  have dN : μ.1 143 13 = nI N := dN
  have cC : μ.1 2 0 = nI C := cC
  have cP : μ.1 2 1 = nI P := cP
  have cN : μ.1 11 1 = nI N := cN
  rcases pv_rg a1 (l := 0) (h := 3) (lo := 0) (hi := 3) rfl rfl (by decide) (by decide) with c | ⟨c, p, hp1, hp, rfl⟩
  · refine ⟨-1, μ, μ, ?_, ?_, pl_mono g⟩
    · unfold fX9_soils
      rw [pv_so, if_pos c]
    · unfold fX10_soils
      rw [if_pos c]
  have c1 : ¬ fX10_in (nI p) 0 3 = 0 := by rw [c]; decide
  rcases pv_rg a2 (l := 0) (h := 200) (lo := 0) (hi := 200) rfl rfl (by decide) (by decide) with f2 | ⟨f2, x2, hx2, hy2, rfl⟩
  · refine ⟨-1, μ, μ, ?_, ?_, pl_mono g⟩
    · unfold fX9_soils
      rw [pv_so, if_neg c1, pv_w, if_pos f2]
    · unfold fX10_soils
      rw [if_neg c1, if_pos f2]
  have n2 : ¬ fX10_in (nI x2) 0 200 = 0 := by rw [f2]; decide
  rcases pv_rg a3 (l := 0) (h := 100) (lo := 0) (hi := 100) rfl rfl (by decide) (by decide) with f3 | ⟨f3, x3, hx3, hy3, rfl⟩
  · refine ⟨-1, μ, μ, ?_, ?_, pl_mono g⟩
    · unfold fX9_soils
      rw [pv_so, if_neg c1, pv_w, if_neg n2, pv_w, if_pos f3]
    · unfold fX10_soils
      rw [if_neg c1, if_neg n2, if_pos f3]
  have n3 : ¬ fX10_in (nI x3) 0 100 = 0 := by rw [f3]; decide
  rcases pv_rg a4 (l := 0) (h := 1000) (lo := 0) (hi := 1000) rfl rfl (by decide) (by decide) with f4 | ⟨f4, x4, hx4, hy4, rfl⟩
  · refine ⟨-1, μ, μ, ?_, ?_, pl_mono g⟩
    · unfold fX9_soils
      rw [pv_so, if_neg c1, pv_w, if_neg n2, pv_w, if_neg n3, pv_w, if_pos f4]
    · unfold fX10_soils
      rw [if_neg c1, if_neg n2, if_neg n3, if_pos f4]
  have n4 : ¬ fX10_in (nI x4) 0 1000 = 0 := by rw [f4]; decide
  rcases pv_rg a5 (l := 0) (h := 40) (lo := 0) (hi := 40) rfl rfl (by decide) (by decide) with f5 | ⟨f5, x5, hx5, hy5, rfl⟩
  · refine ⟨-1, μ, μ, ?_, ?_, pl_mono g⟩
    · unfold fX9_soils
      rw [pv_so, if_neg c1, pv_w, if_neg n2, pv_w, if_neg n3, pv_w, if_neg n4, pv_w, if_pos f5]
    · unfold fX10_soils
      rw [if_neg c1, if_neg n2, if_neg n3, if_neg n4, if_pos f5]
  have n5 : ¬ fX10_in (nI x5) 0 40 = 0 := by rw [f5]; decide
  refine ⟨1, dw_st (dw_st (dw_st (dw_st μ 5 p (nI x2)) 6 p (nI x3)) 7 p (nI x4)) 8 p (nI x5), dw_st (dw_st (dw_st (dw_st (dw_st (dw_st (dw_st (dw_st μ 5 p (nI x2)) 6 p (nI x3)) 7 p (nI x4)) 8 p (nI x5)) 143 (300 + 4 * p) (nI x2)) 143 (300 + 4 * p + 1) (nI x3)) 143 (300 + 4 * p + 2) (nI x4)) 143 (300 + 4 * p + 3) (nI x5), ?_, ?_, ?_⟩
  · unfold fX9_soils
    rw [pv_so, if_neg c1, pv_w, if_neg n2, pv_w, if_neg n3, pv_w, if_neg n4, pv_w, if_neg n5, pb_gd (pb_ok rfl (by omega) (by decide)), pb_cl rfl (by omega)]
    rfl
  · unfold fX10_soils
    have e0 : (300 : Int32) + 4 * nI p = nI (300 + 4 * p) := by rw [show (4 : Int32) = nI 4 from rfl, pk_mul, pv_a (c := 300) (n := 300) rfl]
    have e1 : nI (300 + 4 * p) + (1 : Int32) = nI (300 + 4 * p + 1) := nI_add _ 1
    have e2 : nI (300 + 4 * p) + (2 : Int32) = nI (300 + 4 * p + 2) := nI_add _ 2
    have e3 : nI (300 + 4 * p) + (3 : Int32) = nI (300 + 4 * p + 3) := nI_add _ 3
    rw [if_neg c1, if_neg n2, if_neg n3, if_neg n4, if_neg n5, e0, e1, e2, e3, pb_gd (pb_ok rfl (by omega) (by decide)), pb_cl rfl (by omega), pb_cl rfl (by omega), pb_cl rfl (by omega), pb_cl rfl (by omega)]
    simp only [dw_nm]
    rw [pb_gd (pb_ok rfl (by omega) (by decide)), pb_gd (pb_ok rfl (by omega) (by decide)), pb_gd (pb_ok rfl (by omega) (by decide))]
  · refine pl_now g ?_ (fun c h1 h2 => by simp (disch := omega) only [pb_oc]) (fun _ _ _ => rfl) (by simp (disch := omega) only [pb_oc]) (by simp (disch := omega) only [pb_oc]) (by simp (disch := omega) only [pb_oc])
    refine ⟨R, C, P, N, hh, rl_dim_c d ?_ ?_ ?_ ?_ ?_ ?_, rl_gnd_c gn ?_ ?_ ?_ ?_, ?own, rl_dit_c di ?_ ?_, rl_hnd_c hn ?_ ?_, rl_pip_c pi ?_ ?_ ?_ ?_ ?_, rl_int_c it ?_ ?_, rl_acy_c ac ?_, ⟨by omega, rl_wat_c wa d36 d20 ?_ ?_ ?_ ?_ ?_ ?_ ?_ ?_ ?_ ?_ ?_⟩, rl_blk_c bl ?_ ?_, rl_rai_c ra ?_ ?_, rl_set_c mk ?_ ?_, rl_set_c si ?_ ?_⟩
    case own =>
      intro q hq
      have h := so q hq
      by_cases e : q = p
      · subst e
        simp (disch := omega) only [pb_o, pb_i]
        exact ⟨trivial, trivial, trivial, trivial, ⟨x2, hy2, rfl⟩, ⟨x3, hy3, rfl⟩, ⟨x4, hy4, rfl⟩⟩
      · simp (disch := omega) only [pb_o]
        exact h
    all_goals (intros; first | rfl | (simp (disch := omega) only [pb_o, pb_rd2]; done))
theorem ok_mark : pl_mark pl_G := by
  intro k μ hk g a1 a2 ha2
  obtain ⟨R, C, P, N, hh, d, gn, so, di, hn, pi, it, ac, ⟨hk5, wa⟩, bl, ra, mk, si⟩ := id g.1
  obtain ⟨⟨d1, d2, d3, d4, dP, d5, d36, d20⟩, dR, dC, dN, cC, cP, cN⟩ := id d
  have dR : μ.1 143 0 = nI R := dR
  have dC : μ.1 143 1 = nI C := dC
  have dN : μ.1 143 13 = nI N := dN
  have cC : μ.1 2 0 = nI C := cC
  have cP : μ.1 2 1 = nI P := cP
  have cN : μ.1 11 1 = nI N := cN
  rcases pv_tri a1 (n := P) (by omega) with c | ⟨p, hp, rfl⟩
  · refine ⟨-1, μ, μ, ?_, ?_, pl_mono g⟩
    · unfold fX9_mark
      rw [if_pos (pv_hp0 cP c)]
    · unfold fX10_mark fX10_set
      rw [if_pos (pv_ip0 dR dC dP d36 c)]
      rfl
  · have c1 : ¬ fX1_hasPlace μ (nI p) = 0 := by rw [pv_hp1 cP d36 hp]; decide
    obtain ⟨b, hb⟩ : ∃ b : Bool, a2 = if b then 1 else 0 := by
      rcases ha2 with e | e
      · exact ⟨false, by rw [e]; rfl⟩
      · exact ⟨true, by rw [e]; rfl⟩
    have hput := pg_put μ 62 (x := nI p) rfl (by omega : p < 64) hb
    have hA : μ.1 143 (220 + p) = if pg_b (μ.2 62) p then 1 else 0 := mk.1 p hp
    refine ⟨if pg_b (μ.2 62) p = b then 0 else 1, dw_sl μ 62 (pg_s (μ.2 62) p b), dw_st (dw_sl μ 62 (pg_s (μ.2 62) p b)) 143 (220 + p) a2, ?_, ?_, ?_⟩
    · unfold fX9_mark
      rw [if_neg c1, hput]
      rfl
    · unfold fX10_mark fX10_set
      have c2 : ¬ fX10_isPlace (dw_sl μ 62 (pg_s (μ.2 62) p b)) (nI p) = 0 := by rw [pv_ip1 (μ := dw_sl μ 62 (pg_s (μ.2 62) p b)) dR dC dP d36 hp]; decide
      rw [if_neg c2, pv_a (c := 220) (n := 220) rfl, pb_gd (pb_ok rfl (by omega) (by decide)), pb_cl rfl (by omega), pb_sl1, hA]
      cases b <;> cases hpb : pg_b (μ.2 62) p <;> subst hb <;> rfl
    · refine pl_now g ?_ (fun c h1 h2 => by rw [pb_oc (by omega)]; rfl) (fun c h1 h2 => by rw [pb_rd2, pb_sl2, if_neg (by omega)]) (by rw [pb_oc (by omega)]; rfl) (by rw [pb_oc (by omega)]; rfl) (by rw [pb_oc (by omega)]; rfl)
      refine ⟨R, C, P, N, hh, rl_dim_c d ?_ ?_ ?_ ?_ ?_ ?_, rl_gnd_c gn ?_ ?_ ?_ ?_, rl_soi_c so ?_ ?_ ?_ ?_ ?_ ?_ ?_ ?_, rl_dit_c di ?_ ?_, rl_hnd_c hn ?_ ?_, rl_pip_c pi ?_ ?_ ?_ ?_ ?_, rl_int_c it ?_ ?_, rl_acy_c ac ?_, ⟨by omega, rl_wat_c wa d36 d20 ?_ ?_ ?_ ?_ ?_ ?_ ?_ ?_ ?_ ?_ ?_⟩, rl_blk_c bl ?_ ?_, rl_rai_c ra ?_ ?_, ?own, rl_set_c si ?_ ?_⟩
      case own =>
        refine ⟨fun q hq => ?_, fun q h1 h2 => ?_⟩
        · rw [pb_rd2, pb_sl2, if_pos rfl, pg_s_b _ (by omega) b q (by omega)]
          by_cases e : q = p
          · subst e
            rw [pb_i, if_pos rfl]
            exact hb
          · rw [pb_o (by omega), if_neg e]
            exact mk.1 q hq
        · rw [pb_rd2, pb_sl2, if_pos rfl, pg_s_b _ (by omega) b q h2, if_neg (by omega)]
          exact mk.2 q h1 h2
      all_goals (intros; first | rfl | (simp (disch := omega) only [pb_o, pb_rd2, pb_sl1, pb_sl2, if_neg]; done))
theorem ok_sight : pl_sight pl_G := by
  intro k μ hk g a1 a2 ha2
  obtain ⟨R, C, P, N, hh, d, gn, so, di, hn, pi, it, ac, ⟨hk5, wa⟩, bl, ra, mk, si⟩ := id g.1
  obtain ⟨⟨d1, d2, d3, d4, dP, d5, d36, d20⟩, dR, dC, dN, cC, cP, cN⟩ := id d
  have dR : μ.1 143 0 = nI R := dR
  have dC : μ.1 143 1 = nI C := dC
  have dN : μ.1 143 13 = nI N := dN
  have cC : μ.1 2 0 = nI C := cC
  have cP : μ.1 2 1 = nI P := cP
  have cN : μ.1 11 1 = nI N := cN
  rcases pv_tri a1 (n := P) (by omega) with c | ⟨p, hp, rfl⟩
  · refine ⟨-1, μ, μ, ?_, ?_, pl_mono g⟩
    · unfold fX9_sight
      rw [if_pos (pv_hp0 cP c)]
    · unfold fX10_sight fX10_set
      rw [if_pos (pv_ip0 dR dC dP d36 c)]
      rfl
  · have c1 : ¬ fX1_hasPlace μ (nI p) = 0 := by rw [pv_hp1 cP d36 hp]; decide
    obtain ⟨b, hb⟩ : ∃ b : Bool, a2 = if b then 1 else 0 := by
      rcases ha2 with e | e
      · exact ⟨false, by rw [e]; rfl⟩
      · exact ⟨true, by rw [e]; rfl⟩
    have hput := pg_put μ 63 (x := nI p) rfl (by omega : p < 64) hb
    have hA : μ.1 143 (260 + p) = if pg_b (μ.2 63) p then 1 else 0 := si.1 p hp
    refine ⟨if pg_b (μ.2 63) p = b then 0 else 1, dw_sl μ 63 (pg_s (μ.2 63) p b), dw_st (dw_sl μ 63 (pg_s (μ.2 63) p b)) 143 (260 + p) a2, ?_, ?_, ?_⟩
    · unfold fX9_sight
      rw [if_neg c1, hput]
      rfl
    · unfold fX10_sight fX10_set
      have c2 : ¬ fX10_isPlace (dw_sl μ 63 (pg_s (μ.2 63) p b)) (nI p) = 0 := by rw [pv_ip1 (μ := dw_sl μ 63 (pg_s (μ.2 63) p b)) dR dC dP d36 hp]; decide
      rw [if_neg c2, pv_a (c := 260) (n := 260) rfl, pb_gd (pb_ok rfl (by omega) (by decide)), pb_cl rfl (by omega), pb_sl1, hA]
      cases b <;> cases hpb : pg_b (μ.2 63) p <;> subst hb <;> rfl
    · refine pl_now g ?_ (fun c h1 h2 => by rw [pb_oc (by omega)]; rfl) (fun c h1 h2 => by rw [pb_rd2, pb_sl2, if_neg (by omega)]) (by rw [pb_oc (by omega)]; rfl) (by rw [pb_oc (by omega)]; rfl) (by rw [pb_oc (by omega)]; rfl)
      refine ⟨R, C, P, N, hh, rl_dim_c d ?_ ?_ ?_ ?_ ?_ ?_, rl_gnd_c gn ?_ ?_ ?_ ?_, rl_soi_c so ?_ ?_ ?_ ?_ ?_ ?_ ?_ ?_, rl_dit_c di ?_ ?_, rl_hnd_c hn ?_ ?_, rl_pip_c pi ?_ ?_ ?_ ?_ ?_, rl_int_c it ?_ ?_, rl_acy_c ac ?_, ⟨by omega, rl_wat_c wa d36 d20 ?_ ?_ ?_ ?_ ?_ ?_ ?_ ?_ ?_ ?_ ?_⟩, rl_blk_c bl ?_ ?_, rl_rai_c ra ?_ ?_, rl_set_c mk ?_ ?_, ?own⟩
      case own =>
        refine ⟨fun q hq => ?_, fun q h1 h2 => ?_⟩
        · rw [pb_rd2, pb_sl2, if_pos rfl, pg_s_b _ (by omega) b q (by omega)]
          by_cases e : q = p
          · subst e
            rw [pb_i, if_pos rfl]
            exact hb
          · rw [pb_o (by omega), if_neg e]
            exact si.1 q hq
        · rw [pb_rd2, pb_sl2, if_pos rfl, pg_s_b _ (by omega) b q h2, if_neg (by omega)]
          exact si.2 q h1 h2
      all_goals (intros; first | rfl | (simp (disch := omega) only [pb_o, pb_rd2, pb_sl1, pb_sl2, if_neg]; done))
