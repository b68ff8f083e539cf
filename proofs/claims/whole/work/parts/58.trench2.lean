theorem cl_tr {μ : dw_M} {C P : Nat} (cC : μ.1 2 0 = nI C) (cP : μ.1 2 1 = nI P) (h1 : 1 ≤ C) (h6 : C ≤ 6) (h36 : P ≤ 36) {a b : Nat} (ha : a < P) (hb : b < P) (ne : a ≠ b) (hin : a / C = b / C ∨ a % C = b % C) {a3 a4 : Int32} (c3 : ¬ fX10_in a3 0 2000 = 0) (c4 : ¬ fX10_in a4 1 50 = 0) : fX9_trench μ (nI a) (nI b) a3 a4 = some (nI (ge_m C a b), fX3_set μ 10 (nI a) (rl_sr (nI C) (nI a) (nI b)) (nI (ge_m C a b)) a3 a4) := by
  have e1 : ¬ fX1_hasPlace μ (nI a) = 0 := by rw [pv_hp1 cP h36 ha]; decide
  have e2 : ¬ fX1_hasPlace μ (nI b) = 0 := by rw [pv_hp1 cP h36 hb]; decide
  have e3 : ¬ nI a = nI b := fun e => ne ((nI_eq (by omega) (by omega)).mp e)
  have hr := pv_ra9 cC h1 h6 (a := a) (b := b) (by omega) (by omega)
  have hc := pv_ca9 cC h1 h6 (a := a) (b := b) (by omega) (by omega)
  have q1 := Nat.div_le_self a C
  have q2 := Nat.div_le_self b C
  have q3 := Nat.mod_le a C
  have q4 := Nat.mod_le b C
  have er : nI (nd (a / C) (b / C)) = 0 ↔ a / C = b / C := nd_0 (by omega) (by omega)
  have ec : nI (nd (a % C) (b % C)) = 0 ↔ a % C = b % C := nd_0 (by omega) (by omega)
  have hl : fX1_areInLine μ (nI a) (nI b) = some 1 := by
    unfold fX1_areInLine
    rw [pb_bd hr]
    by_cases c : a / C = b / C
    · rw [if_pos (er.mpr c)]
    · rw [if_neg (fun z => c (er.mp z)), pb_bd hc, if_pos (ec.mpr (hin.resolve_left c))]
  unfold fX9_trench
  rw [if_neg e1, if_neg e2, if_neg e3, pb_bd hl, if_neg (by decide), pv_w, if_neg c3, pv_w, if_neg c4, pb_bd hr, pb_bd hc]
  have ex : (1 : Int32) + nI (nd (a / C) (b / C)) + nI (nd (a % C) (b % C)) = nI (ge_m C a b) := by
    rw [show (1 : Int32) = nI 1 from rfl, nI_add, nI_add]
    congr 1
    unfold ge_m
    omega
  simp only [dw_nm, ex, pb_bd hr, dw_jm, cC]
  rw [rl_sr_n h1 h6 (by omega) (by omega)]
  have el : (nI b ≤ nI a) ↔ b ≤ a := nI_leI (by omega) (by omega)
  unfold ge_s
  by_cases c : a / C = b / C
  · rw [if_pos (er.mpr c), if_pos c]
    by_cases c5 : b ≤ a
    · rw [if_pos (el.mpr c5), if_pos c5]; rfl
    · rw [if_neg (fun z => c5 (el.mp z)), if_neg c5]; rfl
  · rw [if_neg (fun z => c (er.mp z)), if_neg c]
    by_cases c5 : b ≤ a
    · rw [if_pos (el.mpr c5), if_pos c5]
    · rw [if_neg (fun z => c5 (el.mp z)), if_neg c5]
theorem cl_tr0 {μ : dw_M} {C P : Nat} (cC : μ.1 2 0 = nI C) (cP : μ.1 2 1 = nI P) (h1 : 1 ≤ C) (h6 : C ≤ 6) (h36 : P ≤ 36) {a b : Nat} (ha : a < P) (hb : b < P) {a3 a4 : Int32} (h : a = b ∨ (a ≠ b ∧ (¬ (a / C = b / C ∨ a % C = b % C) ∨ ((a / C = b / C ∨ a % C = b % C) ∧ (fX10_in a3 0 2000 = 0 ∨ fX10_in a4 1 50 = 0))))) : fX9_trench μ (nI a) (nI b) a3 a4 = some (-1, μ) := by
  have e1 : ¬ fX1_hasPlace μ (nI a) = 0 := by rw [pv_hp1 cP h36 ha]; decide
  have e2 : ¬ fX1_hasPlace μ (nI b) = 0 := by rw [pv_hp1 cP h36 hb]; decide
  have hr := pv_ra9 cC h1 h6 (a := a) (b := b) (by omega) (by omega)
  have hc := pv_ca9 cC h1 h6 (a := a) (b := b) (by omega) (by omega)
  have q1 := Nat.div_le_self a C
  have q2 := Nat.div_le_self b C
  have q3 := Nat.mod_le a C
  have q4 := Nat.mod_le b C
  have er : nI (nd (a / C) (b / C)) = 0 ↔ a / C = b / C := nd_0 (by omega) (by omega)
  have ec : nI (nd (a % C) (b % C)) = 0 ↔ a % C = b % C := nd_0 (by omega) (by omega)
  unfold fX9_trench
  rw [if_neg e1, if_neg e2]
  rcases h with h | ⟨ne, h⟩
  · rw [if_pos (by rw [h])]
  have e3 : ¬ nI a = nI b := fun e => ne ((nI_eq (by omega) (by omega)).mp e)
  rw [if_neg e3]
  rcases h with h | ⟨hin, h⟩
  · have hl : fX1_areInLine μ (nI a) (nI b) = some 0 := by
      unfold fX1_areInLine
      rw [pb_bd hr, if_neg (fun z => h (Or.inl (er.mp z))), pb_bd hc, if_neg (fun z => h (Or.inr (ec.mp z)))]
    rw [pb_bd hl, if_pos rfl]
  · have hl : fX1_areInLine μ (nI a) (nI b) = some 1 := by
      unfold fX1_areInLine
      rw [pb_bd hr]
      by_cases c : a / C = b / C
      · rw [if_pos (er.mpr c)]
      · rw [if_neg (fun z => c (er.mp z)), pb_bd hc, if_pos (ec.mpr (hin.resolve_left c))]
    rw [pb_bd hl, if_neg (by decide), pv_w, pv_w]
    by_cases c3 : fX10_in a3 0 2000 = 0
    · rw [if_pos c3]
    · rw [if_neg c3, if_pos (h.resolve_left c3)]
def md_trm (μ : dw_M) (st a b a3 a4 : Int32) : dw_M := dw_st (dw_st (dw_st (dw_st (dw_st μ 143 2 st) 143 3 a) 143 4 b) 143 5 a3) 143 6 a4
theorem md_tr {μ : dw_M} {R C P : Nat} (dR : μ.1 143 0 = nI R) (dC : μ.1 143 1 = nI C) (dP : P = R * C) (h1 : 1 ≤ C) (h6 : C ≤ 6) (h36 : P ≤ 36) {a b : Nat} (ha : a < P) (hb : b < P) {a3 a4 : Int32} : fX10_trench μ (nI a) (nI b) a3 a4 = if a = b ∨ (a ≠ b ∧ (¬ (a / C = b / C ∨ a % C = b % C) ∨ ((a / C = b / C ∨ a % C = b % C) ∧ (fX10_in a3 0 2000 = 0 ∨ fX10_in a4 1 50 = 0)))) then some (-1, μ) else some (nI (ge_m C a b), md_trm μ (nI (ge_m C a b)) (nI a) (nI b) a3 a4) := by
  have e1 : ¬ fX10_isPlace μ (nI a) = 0 := by rw [pv_ip1 dR dC dP h36 ha]; decide
  have e2 : ¬ fX10_isPlace μ (nI b) = 0 := by rw [pv_ip1 dR dC dP h36 hb]; decide
  have hra := pv_row10 dC h1 h6 (a := a) (by omega)
  have hrb := pv_row10 dC h1 h6 (a := b) (by omega)
  have hca := pv_col10 dC h1 h6 (a := a) (by omega)
  have hcb := pv_col10 dC h1 h6 (a := b) (by omega)
  have q1 := Nat.div_le_self a C
  have q2 := Nat.div_le_self b C
  have q3 := Nat.mod_le a C
  have q4 := Nat.mod_le b C
  have er : nI (a / C) = nI (b / C) ↔ a / C = b / C := nI_eq (by omega) (by omega)
  have ec : nI (a % C) = nI (b % C) ↔ a % C = b % C := nI_eq (by omega) (by omega)
  have ex : fX10_size (nI (a / C) - nI (b / C)) + fX10_size (nI (a % C) - nI (b % C)) + (1 : Int32) = nI (ge_m C a b) := by
    rw [nd_size (by omega) (by omega), nd_size (by omega) (by omega), nI_add, show (1 : Int32) = nI 1 from rfl, nI_add]
    rfl
  unfold fX10_trench
  rw [if_neg e1, if_neg e2]
  by_cases h : a = b
  · rw [if_pos (by rw [h]), if_pos (Or.inl h)]
  rw [if_neg (fun e => h ((nI_eq (by omega) (by omega)).mp e)), pb_bd hra, pb_bd hrb]
  simp only [dw_jm, pb_bd hra, pb_bd hrb, pb_bd hca, pb_bd hcb, er, ec, ex, dw_nm, pv_c2, pv_c3, pv_c4, pv_c5, pv_c6]
  by_cases h2 : a / C = b / C
  · rw [if_pos h2]
    by_cases h3 : fX10_in a3 0 2000 = 0
    · simp [h, h2, h3]
    · by_cases h4 : fX10_in a4 1 50 = 0
      · simp [h, h2, h3, h4]
      · simp [h, h2, h3, h4, md_trm]
  · rw [if_neg h2]
    by_cases h5 : a % C = b % C
    · by_cases h3 : fX10_in a3 0 2000 = 0
      · simp [h, h2, h3, h5]
      · by_cases h4 : fX10_in a4 1 50 = 0
        · simp [h, h2, h3, h4, h5]
        · simp [h, h2, h3, h4, h5, md_trm]
    · simp [h, h2, h5]
theorem ok_trench : pl_trench pl_G := by
  intro k μ hk g a1 a2 a3 a4
  obtain ⟨R, C, P, N, hh, d, gn, so, di, hn, pi, it, ac, ⟨hk5, wa⟩, bl, ra, mk, si⟩ := id g.1
  obtain ⟨⟨d1, d2, d3, d4, dP, d5, d36, d20⟩, dR, dC, dN, cC, cP, cN⟩ := id d
  have dR : μ.1 143 0 = nI R := dR
  have dC : μ.1 143 1 = nI C := dC
  have dN : μ.1 143 13 = nI N := dN
  have cC : μ.1 2 0 = nI C := cC
  have cP : μ.1 2 1 = nI P := cP
  have cN : μ.1 11 1 = nI N := cN
  rcases pv_tri a1 (n := P) (by omega) with c | ⟨a, ha, rfl⟩
  · refine ⟨-1, μ, μ, ?_, ?_, pl_mono g⟩
    · unfold fX9_trench
      rw [if_pos (pv_hp0 cP c)]
    · unfold fX10_trench
      rw [if_pos (pv_ip0 dR dC dP d36 c)]
  have e1 : ¬ fX1_hasPlace μ (nI a) = 0 := by rw [pv_hp1 cP d36 ha]; decide
  have e2 : ¬ fX10_isPlace μ (nI a) = 0 := by rw [pv_ip1 dR dC dP d36 ha]; decide
  rcases pv_tri a2 (n := P) (by omega) with c | ⟨b, hb, rfl⟩
  · refine ⟨-1, μ, μ, ?_, ?_, pl_mono g⟩
    · unfold fX9_trench
      rw [if_neg e1, if_pos (pv_hp0 cP c)]
    · unfold fX10_trench
      rw [if_neg e2, if_pos (pv_ip0 dR dC dP d36 c)]
  by_cases h : a = b ∨ (a ≠ b ∧ (¬ (a / C = b / C ∨ a % C = b % C) ∨ ((a / C = b / C ∨ a % C = b % C) ∧ (fX10_in a3 0 2000 = 0 ∨ fX10_in a4 1 50 = 0))))
  · refine ⟨-1, μ, μ, cl_tr0 cC cP d3 d4 d36 ha hb h, ?_, pl_mono g⟩
    rw [md_tr dR dC dP d3 d4 d36 ha hb, if_pos h]
  have ne : a ≠ b := fun z => h (Or.inl z)
  have hin : a / C = b / C ∨ a % C = b % C := Decidable.byContradiction fun z => h (Or.inr ⟨ne, Or.inl z⟩)
  have c3 : ¬ fX10_in a3 0 2000 = 0 := fun z => h (Or.inr ⟨ne, Or.inr ⟨hin, Or.inl z⟩⟩)
  have c4 : ¬ fX10_in a4 1 50 = 0 := fun z => h (Or.inr ⟨ne, Or.inr ⟨hin, Or.inr z⟩⟩)
  rcases pv_rg a4 (l := 1) (h := 50) (lo := 1) (hi := 50) rfl rfl (by decide) (by decide) with f4 | ⟨f4, y, hy1, hy2, rfl⟩
  · exact absurd f4 c4
  generalize hν : fX3_set μ 10 (nI a) (rl_sr (nI C) (nI a) (nI b)) (nI (ge_m C a b)) a3 (nI y) = ν
  refine ⟨_, ν, md_trm ν (nI (ge_m C a b)) (nI a) (nI b) a3 (nI y), hν ▸ cl_tr cC cP d3 d4 d36 ha hb ne hin c3 c4, ?_, ?_⟩
  · have eA : ν.1 143 = μ.1 143 := by
      rw [← hν]
      unfold fX3_set
      simp only [dw_nm]
      simp (disch := omega) only [pb_oc]
    rw [md_tr (by rw [eA]; exact dR) (by rw [eA]; exact dC) dP d3 d4 d36 ha hb, if_neg h]
  · subst hν
    unfold md_trm fX3_set
    simp only [dw_nm]
    refine pl_now g ?_ (fun c h1 h2 => by simp (disch := omega) only [pb_oc]) (fun _ _ _ => rfl) (by simp (disch := omega) only [pb_oc]) (by simp (disch := omega) only [pb_oc]) (by simp (disch := omega) only [pb_oc])
    refine ⟨R, C, P, N, hh, rl_dim_c d ?_ ?_ ?_ ?_ ?_ ?_, rl_gnd_c gn ?_ ?_ ?_ ?_, rl_soi_c so ?_ ?_ ?_ ?_ ?_ ?_ ?_ ?_, rl_dit_c di ?_ ?_, ?own, rl_pip_c pi ?_ ?_ ?_ ?_ ?_, rl_int_c it ?_ ?_, rl_acy_c ac ?_, ⟨by omega, rl_wat_c wa d36 d20 ?_ ?_ ?_ ?_ ?_ ?_ ?_ ?_ ?_ ?_ ?_⟩, rl_blk_c bl ?_ ?_, rl_rai_c ra ?_ ?_, rl_set_c mk ?_ ?_, rl_set_c si ?_ ?_⟩
    case own =>
      obtain ⟨m, hm1, hm2, hm3, pl, hm4, hm5⟩ := ge_ln (R := R) (C := C) (a := a) (b := b) d3 d4 d2 (by omega) (by omega) (by omega) hin ne
      refine ⟨?_, Or.inr ⟨?_, ?_, ?_, ?_, ?_, ⟨m, hm1, hm2, ?_, pl, fun k hk => ?_, hm5⟩, y, hy1, hy2, ?_⟩⟩
      all_goals simp (disch := omega) only [pb_o, pb_i]
      · exact hm3
      · rw [dP]
        exact hm4 k hk
    all_goals (intros; first | rfl | (simp (disch := omega) only [pb_o, pb_rd2]; done))
