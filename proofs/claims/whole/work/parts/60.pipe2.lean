def cl_layc (μ : dw_M) (N : Nat) (a1 a2 lf : Int32) : dw_M := dw_st (dw_st (fX5_lay μ (12 + 1 + 2 * N) 10 a1 a2) 57 N lf) 11 1 (nI (N + 1))
def md_layc (μ : dw_M) (N : Nat) (a1 a2 lf st : Int32) : dw_M := dw_st (dw_st (dw_st (dw_st (dw_st (dw_st (dw_st (dw_st (dw_st (dw_st (dw_st (dw_st (dw_st μ 143 13 (nI (N + 1))) 143 (400 + 20 * N) a1) 143 (400 + 20 * N + 1) (μ.1 143 3)) 143 (400 + 20 * N + 2) (μ.1 143 4)) 143 (400 + 20 * N + 3) (μ.1 143 5)) 143 (400 + 20 * N + 4) (μ.1 143 6)) 143 (400 + 20 * N + 5) a2) 143 (400 + 20 * N + 6) lf) 143 (400 + 20 * N + 7) (-1)) 143 (400 + 20 * N + 8) 0) 143 (400 + 20 * N + 9) 0) 143 (400 + 20 * N + 10) 0) 143 (400 + 20 * N + 11) st
theorem md_pipe_a {μ : dw_M} {N : Nat} (hN : N < 20) (dN : μ.1 143 13 = nI N) (a1 a2 a3 x3 : Int32) : (dw_nm (μ.1 143 (13 : Int32).toNatClampNeg) (fun x15 =>
  dw_nm (dw_st μ 143 (13 : Int32).toNatClampNeg ((μ.1 143 (13 : Int32).toNatClampNeg) + (1 : Int32))) (fun μ16 =>
  dw_bd (fX10_setPipe μ16 x15 (0 : Int32) a1) (fun μ18 =>
  dw_bd (fX10_setPipe μ18 x15 (1 : Int32) (μ18.1 143 (3 : Int32).toNatClampNeg)) (fun μ20 =>
  dw_bd (fX10_setPipe μ20 x15 (2 : Int32) (μ20.1 143 (4 : Int32).toNatClampNeg)) (fun μ22 =>
  dw_bd (fX10_setPipe μ22 x15 (3 : Int32) (μ22.1 143 (5 : Int32).toNatClampNeg)) (fun μ24 =>
  dw_bd (fX10_setPipe μ24 x15 (4 : Int32) (μ24.1 143 (6 : Int32).toNatClampNeg)) (fun μ26 =>
  dw_bd (fX10_setPipe μ26 x15 (5 : Int32) a2) (fun μ28 =>
  dw_jm (fun (x29 : Int32) =>
  dw_bd (fX10_setPipe μ28 x15 (6 : Int32) x29) (fun μ31 =>
  dw_bd (fX10_setPipe μ31 x15 (7 : Int32) (-1 : Int32)) (fun μ33 =>
  dw_bd (fX10_setPipe μ33 x15 (8 : Int32) (0 : Int32)) (fun μ35 =>
  dw_bd (fX10_setPipe μ35 x15 (9 : Int32) (0 : Int32)) (fun μ37 =>
  dw_bd (fX10_setPipe μ37 x15 (10 : Int32) (0 : Int32)) (fun μ39 =>
  dw_bd (fX10_setPipe μ39 x15 (11 : Int32) x3) (fun μ41 =>
  some (x15, μ41)))))))) (fun k250 =>
  if a1 = (2 : Int32) then (
  k250 a3)
  else (
  k250 (0 : Int32))))))))))) : Option (Int32 × dw_M)) = some (nI N, md_layc μ N a1 a2 (if a1 = 2 then a3 else 0) x3) := by
  rw [pv_c13, dN, pv_c3, pv_c4, pv_c5, pv_c6]
  simp only [dw_nm, dw_jm, nI_1]
  rw [pb_bd (md_sp _ (x := nI N) (y := 0) (q := N) (w := 0) rfl rfl hN (by decide)), Nat.add_zero]
  rw [pb_bd (md_sp _ (x := nI N) (y := 1) (q := N) (w := 1) rfl rfl hN (by decide)), pb_o (by omega), pb_o (by omega)]
  rw [pb_bd (md_sp _ (x := nI N) (y := 2) (q := N) (w := 2) rfl rfl hN (by decide)), pb_o (by omega), pb_o (by omega), pb_o (by omega)]
  rw [pb_bd (md_sp _ (x := nI N) (y := 3) (q := N) (w := 3) rfl rfl hN (by decide)), pb_o (by omega), pb_o (by omega), pb_o (by omega), pb_o (by omega)]
  rw [pb_bd (md_sp _ (x := nI N) (y := 4) (q := N) (w := 4) rfl rfl hN (by decide)), pb_o (by omega), pb_o (by omega), pb_o (by omega), pb_o (by omega), pb_o (by omega)]
  rw [pb_bd (md_sp _ (x := nI N) (y := 5) (q := N) (w := 5) rfl rfl hN (by decide))]
  have key : ∀ (ρ : dw_M) (lf : Int32), (dw_bd (fX10_setPipe ρ (nI N) (6 : Int32) lf) (fun μ31 =>
  dw_bd (fX10_setPipe μ31 (nI N) (7 : Int32) (-1 : Int32)) (fun μ33 =>
  dw_bd (fX10_setPipe μ33 (nI N) (8 : Int32) (0 : Int32)) (fun μ35 =>
  dw_bd (fX10_setPipe μ35 (nI N) (9 : Int32) (0 : Int32)) (fun μ37 =>
  dw_bd (fX10_setPipe μ37 (nI N) (10 : Int32) (0 : Int32)) (fun μ39 =>
  dw_bd (fX10_setPipe μ39 (nI N) (11 : Int32) x3) (fun μ41 =>
  some (nI N, μ41))))))) : Option (Int32 × dw_M)) = some (nI N, dw_st (dw_st (dw_st (dw_st (dw_st (dw_st ρ 143 (400 + 20 * N + 6) lf) 143 (400 + 20 * N + 7) (-1)) 143 (400 + 20 * N + 8) 0) 143 (400 + 20 * N + 9) 0) 143 (400 + 20 * N + 10) 0) 143 (400 + 20 * N + 11) x3) := by
    intro ρ lf
    rw [pb_bd (md_sp _ (x := nI N) (y := 6) (q := N) (w := 6) rfl rfl hN (by decide)), pb_bd (md_sp _ (x := nI N) (y := 7) (q := N) (w := 7) rfl rfl hN (by decide)), pb_bd (md_sp _ (x := nI N) (y := 8) (q := N) (w := 8) rfl rfl hN (by decide)), pb_bd (md_sp _ (x := nI N) (y := 9) (q := N) (w := 9) rfl rfl hN (by decide)), pb_bd (md_sp _ (x := nI N) (y := 10) (q := N) (w := 10) rfl rfl hN (by decide)), pb_bd (md_sp _ (x := nI N) (y := 11) (q := N) (w := 11) rfl rfl hN (by decide))]
  by_cases c : a1 = 2
  · rw [if_pos c, if_pos c, key]
    rfl
  · rw [if_neg c, if_neg c, key]
    rfl
theorem cl_lay_a {μ : dw_M} {N : Nat} (hN : N < 20) (cN : μ.1 11 1 = nI N) (a1 a2 a3 : Int32) : (dw_nm (μ.1 11 1) (fun x8 =>
  dw_gd (dw_ok x8 20) (
  dw_nm (fX5_lay μ (12 + 1 + 2 * x8.toNatClampNeg) 10 a1 a2) (fun μ10 =>
  if a1 = (2 : Int32) then (
  dw_nm (dw_st μ10 57 x8.toNatClampNeg a3) (fun μ14 =>
  dw_nm (dw_st μ14 11 1 (x8 + (1 : Int32))) (fun μ15 =>
  some (x8, μ15))))
  else (
  dw_nm (dw_st μ10 57 x8.toNatClampNeg (0 : Int32)) (fun μ12 =>
  dw_nm (dw_st μ12 11 1 (x8 + (1 : Int32))) (fun μ13 =>
  some (x8, μ13))))))) : Option (Int32 × dw_M)) = some (nI N, cl_layc μ N a1 a2 (if a1 = 2 then a3 else 0)) := by
  rw [cN]
  simp only [dw_nm]
  rw [pb_gd (pb_ok rfl hN (by decide)), pb_cl rfl (by omega), nI_1]
  by_cases c : a1 = 2
  · rw [if_pos c, if_pos c]
    rfl
  · rw [if_neg c, if_neg c]
    rfl
theorem pipe_end {k : Nat} {μ : dw_M} {R C P N hh : Nat} (g : pl_G k μ) (ga : rl_all R C P N hh k 1 143 μ) (hN : N < 20) {kd wd lf m : Nat} (hkd : kd ≤ 3) (hw1 : 1 ≤ wd) (hw2 : wd ≤ 4) (hlf : lf ≤ 100) (hl : rl_ln P (nI C) (μ.1 10) (μ.1 143 3) (μ.1 143 4) (μ.1 143 5) (μ.1 143 6) (μ.1 143 2)) (hst : μ.1 143 2 = nI m) (hm : m ≤ 6) : pl_G (k + 1) (md_layc (cl_layc μ N (nI kd) (nI wd) (nI lf)) N (nI kd) (nI wd) (nI lf) (nI m)) := by
  have eo : ∀ c, c ≠ 13 + 2 * N → c ≠ 14 + 2 * N → c ≠ 57 → c ≠ 11 → (cl_layc μ N (nI kd) (nI wd) (nI lf)).1 c = μ.1 c := by
    intro c h1 h2 h3 h4
    unfold cl_layc fX5_lay fX3_copyFrom fX3_set
    simp only [dw_nm]
    simp (disch := omega) only [pb_oc]
  have eN : (cl_layc μ N (nI kd) (nI wd) (nI lf)).1 11 1 = nI (N + 1) := by
    unfold cl_layc
    rw [pb_i]
  have e57 : ∀ j, (cl_layc μ N (nI kd) (nI wd) (nI lf)).1 57 j = if j = N then nI lf else μ.1 57 j := by
    intro j
    unfold cl_layc fX5_lay fX3_copyFrom fX3_set
    simp only [dw_nm]
    rw [pb_o (by omega), pb_rd, if_pos rfl]
    by_cases c : j = N
    · rw [if_pos c, if_pos c]
    · rw [if_neg c, if_neg c]
      simp (disch := omega) only [pb_o]
  have eL : ∀ j, j < 5 → (cl_layc μ N (nI kd) (nI wd) (nI lf)).1 (14 + 2 * N) j = μ.1 10 j := by
    intro j hj
    unfold cl_layc fX5_lay fX3_copyFrom fX3_set
    simp only [dw_nm]
    rw [show 14 + 2 * N = 12 + 1 + 2 * N + 1 by omega]
    simp (disch := omega) only [pb_o]
    rcases (by omega : j = 0 ∨ j = 1 ∨ j = 2 ∨ j = 3 ∨ j = 4) with rfl | rfl | rfl | rfl | rfl <;> simp (disch := omega) only [pb_o, pb_i]
  have e1 : (cl_layc μ N (nI kd) (nI wd) (nI lf)).1 (13 + 2 * N) 1 = nI kd := by
    unfold cl_layc fX5_lay fX3_copyFrom fX3_set
    simp only [dw_nm]
    rw [show 13 + 2 * N = 12 + 1 + 2 * N by omega]
    simp (disch := omega) only [pb_o, pb_i]
  have e2 : (cl_layc μ N (nI kd) (nI wd) (nI lf)).1 (13 + 2 * N) 2 = nI wd := by
    unfold cl_layc fX5_lay fX3_copyFrom fX3_set
    simp only [dw_nm]
    rw [show 13 + 2 * N = 12 + 1 + 2 * N by omega]
    simp (disch := omega) only [pb_o, pb_i]
  have e3 : (cl_layc μ N (nI kd) (nI wd) (nI lf)).1 (13 + 2 * N) 3 = nI wd * nI wd * (μ.1 10 4 + 5) := by
    unfold cl_layc fX5_lay fX3_copyFrom fX3_set
    simp only [dw_nm]
    rw [show 13 + 2 * N = 12 + 1 + 2 * N by omega]
    simp (disch := omega) only [pb_o, pb_i]
  have e4 : (cl_layc μ N (nI kd) (nI wd) (nI lf)).1 (13 + 2 * N) 4 = 40 * nI wd * μ.1 10 2 := by
    unfold cl_layc fX5_lay fX3_copyFrom fX3_set
    simp only [dw_nm]
    rw [show 13 + 2 * N = 12 + 1 + 2 * N by omega]
    simp (disch := omega) only [pb_o, pb_i]
  have e5 : (cl_layc μ N (nI kd) (nI wd) (nI lf)).1 (13 + 2 * N) 5 = -1 := by
    unfold cl_layc
    rw [show 13 + 2 * N = 12 + 1 + 2 * N by omega]
    unfold fX5_lay
    simp only [dw_nm]
    simp (disch := omega) only [pb_o, pb_i]
  have em : ∀ c, (cl_layc μ N (nI kd) (nI wd) (nI lf)).2 c = μ.2 c := fun c => rfl
  generalize cl_layc μ N (nI kd) (nI wd) (nI lf) = ν at *
  have eA := eo 143 (by omega) (by omega) (by omega) (by omega)
  have xo : ∀ c, c ≠ 143 → (md_layc ν N (nI kd) (nI wd) (nI lf) (nI m)).1 c = ν.1 c := by
    intro c h
    unfold md_layc
    simp (disch := omega) only [pb_oc]
  have xa : ∀ j, j ≠ 13 → (j < 400 + 20 * N ∨ 400 + 20 * N + 12 ≤ j) → (md_layc ν N (nI kd) (nI wd) (nI lf) (nI m)).1 143 j = μ.1 143 j := by
    intro j h1 h2
    rw [← eA]
    unfold md_layc
    simp (disch := omega) only [pb_o]
  have x13 : (md_layc ν N (nI kd) (nI wd) (nI lf) (nI m)).1 143 13 = nI (N + 1) := by
    unfold md_layc
    simp (disch := omega) only [pb_o, pb_i]
  have y0 : (md_layc ν N (nI kd) (nI wd) (nI lf) (nI m)).1 143 (400 + 20 * N) = nI kd := by
    unfold md_layc
    simp (disch := omega) only [pb_o, pb_i]
  have y1 : (md_layc ν N (nI kd) (nI wd) (nI lf) (nI m)).1 143 (400 + 20 * N + 1) = μ.1 143 3 := by
    unfold md_layc
    simp (disch := omega) only [pb_o, pb_i, eA]
  have y2 : (md_layc ν N (nI kd) (nI wd) (nI lf) (nI m)).1 143 (400 + 20 * N + 2) = μ.1 143 4 := by
    unfold md_layc
    simp (disch := omega) only [pb_o, pb_i, eA]
  have y3 : (md_layc ν N (nI kd) (nI wd) (nI lf) (nI m)).1 143 (400 + 20 * N + 3) = μ.1 143 5 := by
    unfold md_layc
    simp (disch := omega) only [pb_o, pb_i, eA]
  have y4 : (md_layc ν N (nI kd) (nI wd) (nI lf) (nI m)).1 143 (400 + 20 * N + 4) = μ.1 143 6 := by
    unfold md_layc
    simp (disch := omega) only [pb_o, pb_i, eA]
  have y5 : (md_layc ν N (nI kd) (nI wd) (nI lf) (nI m)).1 143 (400 + 20 * N + 5) = nI wd := by
    unfold md_layc
    simp (disch := omega) only [pb_o, pb_i]
  have y6 : (md_layc ν N (nI kd) (nI wd) (nI lf) (nI m)).1 143 (400 + 20 * N + 6) = nI lf := by
    unfold md_layc
    simp (disch := omega) only [pb_o, pb_i]
  have y7 : (md_layc ν N (nI kd) (nI wd) (nI lf) (nI m)).1 143 (400 + 20 * N + 7) = -1 := by
    unfold md_layc
    simp (disch := omega) only [pb_o, pb_i]
  have y8 : (md_layc ν N (nI kd) (nI wd) (nI lf) (nI m)).1 143 (400 + 20 * N + 8) = 0 := by
    unfold md_layc
    simp (disch := omega) only [pb_o, pb_i]
  have y9 : (md_layc ν N (nI kd) (nI wd) (nI lf) (nI m)).1 143 (400 + 20 * N + 9) = 0 := by
    unfold md_layc
    simp (disch := omega) only [pb_o, pb_i]
  have y10 : (md_layc ν N (nI kd) (nI wd) (nI lf) (nI m)).1 143 (400 + 20 * N + 10) = 0 := by
    unfold md_layc
    simp (disch := omega) only [pb_o, pb_i]
  have y11 : (md_layc ν N (nI kd) (nI wd) (nI lf) (nI m)).1 143 (400 + 20 * N + 11) = nI m := by
    unfold md_layc
    simp (disch := omega) only [pb_o, pb_i]
  have xm : ∀ c, (md_layc ν N (nI kd) (nI wd) (nI lf) (nI m)).2 c = μ.2 c := fun c => em c
  generalize md_layc ν N (nI kd) (nI wd) (nI lf) (nI m) = ξ at *
  obtain ⟨d, gn, so, di, hn, pi, it, ac, ⟨hk5, wa⟩, bl, ra, mk, si⟩ := ga
  obtain ⟨⟨d1, d2, d3, d4, dP, d5, d36, d20⟩, dR, dC, dN, cC, cP, cN⟩ := id d
  refine pl_now g ?_ (fun c h1 h2 => by rw [xo c (by omega), eo c (by omega) (by omega) (by omega) (by omega)]) (fun c h1 h2 => xm c) (by rw [xo 144 (by omega), eo 144 (by omega) (by omega) (by omega) (by omega)]) (by rw [xo 0 (by omega), eo 0 (by omega) (by omega) (by omega) (by omega)]) (by rw [xo 142 (by omega), eo 142 (by omega) (by omega) (by omega) (by omega)])
  have xc : ∀ c, c ≠ 143 → c ≠ 13 + 2 * N → c ≠ 14 + 2 * N → c ≠ 57 → c ≠ 11 → ξ.1 c = μ.1 c := fun c h h1 h2 h3 h4 => by rw [xo c h, eo c h1 h2 h3 h4]
  refine ⟨R, C, P, N + 1, hh, ⟨⟨d1, d2, d3, d4, dP, d5, d36, by omega⟩, ?_, ?_, ?_, ?_, ?_, ?_⟩, rl_gnd_c gn ?_ ?_ ?_ ?_, rl_soi_c so ?_ ?_ ?_ ?_ ?_ ?_ ?_ ?_, rl_dit_c di ?_ ?_, rl_hnd_c hn ?_ ?_, ?_, ?_, ?_, ⟨by omega, ?_⟩, ?_, rl_rai_c ra ?_ ?_, rl_set_c mk ?_ ?_, rl_set_c si ?_ ?_⟩
  · rw [xa 0 (by omega) (by omega)]; exact dR
  · rw [xa 1 (by omega) (by omega)]; exact dC
  · exact x13
  · rw [xc _ (by omega) (by omega) (by omega) (by omega) (by omega)]; exact cC
  · rw [xc _ (by omega) (by omega) (by omega) (by omega) (by omega)]; exact cP
  · rw [xo _ (by omega)]; exact eN
  · intro p hp; rw [xc _ (by omega) (by omega) (by omega) (by omega) (by omega)]
  · intro p hp; rw [xc _ (by omega) (by omega) (by omega) (by omega) (by omega)]
  · intro p hp; rw [xa _ (by omega) (by omega)]
  · intro p hp; rw [xa _ (by omega) (by omega)]
  · intro p hp; rw [xc _ (by omega) (by omega) (by omega) (by omega) (by omega)]
  · intro p hp; rw [xc _ (by omega) (by omega) (by omega) (by omega) (by omega)]
  · intro p hp; rw [xc _ (by omega) (by omega) (by omega) (by omega) (by omega)]
  · intro p hp; rw [xc _ (by omega) (by omega) (by omega) (by omega) (by omega)]
  · intro p hp; rw [xa _ (by omega) (by omega)]
  · intro p hp; rw [xa _ (by omega) (by omega)]
  · intro p hp; rw [xa _ (by omega) (by omega)]
  · intro p hp; rw [xa _ (by omega) (by omega)]
  · intro p hp; rw [xc _ (by omega) (by omega) (by omega) (by omega) (by omega)]
  · intro p hp; rw [xa _ (by omega) (by omega)]
  · intro p hp; rw [xc _ (by omega) (by omega) (by omega) (by omega) (by omega)]
  · intro p hp hp2; rw [xa _ (by omega) (by omega)]
  · intro p hp
    by_cases e : p = N
    · subst e
      unfold rl_pp
      rw [show 1 + (12 + 2 * p) = 13 + 2 * p by omega, show 1 + (13 + 2 * p) = 14 + 2 * p by omega, xo (13 + 2 * p) (by omega), xo (14 + 2 * p) (by omega), y0, y1, y2, y3, y4, y5, y11, e1, e2, e3, e4, ← hst]
      refine ⟨rfl, ⟨kd, by omega, rfl⟩, rfl, ⟨wd, hw1, hw2, rfl⟩, ?_, ?_, rl_ln_c hl (eL 0 (by omega)) (eL 1 (by omega)) (eL 2 (by omega)) (eL 3 (by omega)) (eL 4 (by omega))⟩
      · rw [hl.2.2.2.2.1]
      · rw [hl.2.2.1]
    · refine rl_pp_c (pi p (by omega)) ?_ ?_ ?_ ?_ ?_
      · intro j h1 h2; rw [xc _ (by omega) (by omega) (by omega) (by omega) (by omega)]
      · intro j h1; rw [xc _ (by omega) (by omega) (by omega) (by omega) (by omega)]
      · rw [xa _ (by omega) (by omega)]
      · intro j h1 h2; rw [xa _ (by omega) (by omega)]
      · rw [xa _ (by omega) (by omega)]
  · intro p hp
    by_cases e : p = N
    · subst e
      rw [show 1 + (12 + 2 * p) = 13 + 2 * p by omega, xo _ (by omega), y7, e5]
      exact ⟨rfl, Or.inl rfl⟩
    · rw [xc _ (by omega) (by omega) (by omega) (by omega) (by omega), xa _ (by omega) (by omega)]
      obtain ⟨i1, i2⟩ := it p (by omega)
      refine ⟨i1, ?_⟩
      rcases i2 with h | ⟨q, hq, h⟩ | h
      · exact Or.inl h
      · exact Or.inr (Or.inl ⟨q, by omega, h⟩)
      · exact Or.inr (Or.inr h)
  · obtain ⟨rk, hrk⟩ := ac
    refine ⟨rk, fun p q hp hq e => ?_⟩
    have hne : ∀ z, z < 1000 → nI z ≠ -1 := by
      intro z hz h
      have h2 := congrArg Int32.toInt h
      rw [nI_toInt (by omega)] at h2
      have h3 : (-1 : Int32).toInt = -1 := by decide
      omega
    by_cases e2 : p = N
    · subst e2
      rw [y7] at e
      exact absurd e.symm (hne q (by omega))
    · rw [xa _ (by omega) (by omega)] at e
      have hp' : p < N := by omega
      by_cases e3 : q = N
      · rcases (it p hp').2 with h | ⟨q2, hq2, h⟩ | ⟨d, hd, h⟩
        · rw [h] at e
          exact absurd e.symm (hne q (by omega))
        · rw [h] at e
          have := (nI_eq (by omega) (by omega)).mp e
          omega
        · rw [h] at e
          have := (nI_eq (by omega) (by omega)).mp e
          omega
      · exact hrk p q hp' (by omega) e
  · obtain ⟨w1, w2, w3, w4, w5, w6, w7, w8⟩ := wa
    refine ⟨fun p hp => ?_, fun p h1 h2 => ?_, fun q hq => ?_, fun q h1 h2 => ?_, fun d hd => ?_, ?_, ?_, ?_⟩
    · rw [xc (1 + 52 + 1) (by omega) (by omega) (by omega) (by omega) (by omega), xc (1 + 52 + 2) (by omega) (by omega) (by omega) (by omega) (by omega), xa _ (by omega) (by omega), xa _ (by omega) (by omega)]
      exact w1 p hp
    · rw [xc (1 + 52 + 1) (by omega) (by omega) (by omega) (by omega) (by omega), xc (1 + 52 + 2) (by omega) (by omega) (by omega) (by omega) (by omega)]
      exact w2 p h1 h2
    · by_cases e : q = N
      · subst e
        have w4q := w4 q (by omega) hN
        rw [xc (1 + 52 + 3) (by omega) (by omega) (by omega) (by omega) (by omega), xc (1 + 52 + 5) (by omega) (by omega) (by omega) (by omega) (by omega), y9, y6, y10, show 1 + 52 + 4 = 57 from rfl, xo 57 (by omega), e57, if_pos rfl]
        refine ⟨w4q.1, rfl, w4q.2.2, ⟨0, 40 * wd * m, by omega, ?_, rfl, ?_⟩, lf, hlf, rfl⟩
        · have h1 : 40 * wd ≤ 160 := by omega
          have h2 := Nat.mul_le_mul h1 hm
          omega
        · show ξ.1 (1 + (12 + 2 * q)) 4 = _
          rw [show 1 + (12 + 2 * q) = 13 + 2 * q by omega, xo _ (by omega), e4, hl.2.2.1, hst, show (40 : Int32) = nI 40 from rfl, pk_mul, pk_mul]
      · have w3q := w3 q (by omega)
        rw [xc (1 + 52 + 3) (by omega) (by omega) (by omega) (by omega) (by omega), xc (1 + 52 + 5) (by omega) (by omega) (by omega) (by omega) (by omega), xa _ (by omega) (by omega), xa _ (by omega) (by omega), xa _ (by omega) (by omega), show 1 + 52 + 4 = 57 from rfl, xo 57 (by omega), e57, if_neg e]
        show _ ∧ _ ∧ _ ∧ (∃ x y, x ≤ y ∧ y ≤ 960 ∧ _ ∧ ξ.1 (1 + (12 + 2 * q)) 4 = _) ∧ _
        rw [xc _ (by omega) (by omega) (by omega) (by omega) (by omega)]
        exact w3q
    · have w4q := w4 q (by omega) h2
      rw [xc (1 + 52 + 3) (by omega) (by omega) (by omega) (by omega) (by omega), xc (1 + 52 + 5) (by omega) (by omega) (by omega) (by omega) (by omega), show 1 + 52 + 4 = 57 from rfl, xo 57 (by omega), e57, if_neg (by omega)]
      exact w4q
    · rw [xc (1 + 52 + 6) (by omega) (by omega) (by omega) (by omega) (by omega), xa _ (by omega) (by omega)]
      exact w5 d hd
    · rw [xc (1 + 52) (by omega) (by omega) (by omega) (by omega) (by omega), xa _ (by omega) (by omega)]
      exact w6
    · rw [xc (1 + 52) (by omega) (by omega) (by omega) (by omega) (by omega), xa _ (by omega) (by omega)]
      exact w7
    · rw [xa _ (by omega) (by omega)]
      exact w8
  · refine ⟨fun q hq => ?_, fun q h1 h2 => ?_⟩
    · rw [xm]
      by_cases e : q = N
      · subst e
        rw [y8, bl.2 q (by omega) (by omega)]
        rfl
      · rw [xa _ (by omega) (by omega)]
        exact bl.1 q (by omega)
    · rw [xm]
      exact bl.2 q (by omega) h2
  · intro p hp; rw [xc _ (by omega) (by omega) (by omega) (by omega) (by omega)]
  · intro p hp; rw [xa _ (by omega) (by omega)]
  · exact xm _
  · intro p hp; rw [xa _ (by omega) (by omega)]
  · exact xm _
  · intro p hp; rw [xa _ (by omega) (by omega)]
theorem ok_pipe : pl_pipe pl_G := by
  intro k μ hk g a1 a2 a3
  obtain ⟨R, C, P, N, hh, d, gn, so, di, hn, pi, it, ac, ⟨hk5, wa⟩, bl, ra, mk, si⟩ := id g.1
  obtain ⟨⟨d1, d2, d3, d4, dP, d5, d36, d20⟩, dR, dC, dN, cC, cP, cN⟩ := id d
  have dR : μ.1 143 0 = nI R := dR
  have dC : μ.1 143 1 = nI C := dC
  have dN : μ.1 143 13 = nI N := dN
  have cC : μ.1 2 0 = nI C := cC
  have cP : μ.1 2 1 = nI P := cP
  have cN : μ.1 11 1 = nI N := cN
  rcases pv_rg a1 (l := 0) (h := 3) (lo := 0) (hi := 3) rfl rfl (by decide) (by decide) with c | ⟨c, kd, hkd1, hkd2, rfl⟩
  · refine ⟨-1, μ, μ, ?_, ?_, pl_mono g⟩
    · unfold fX9_pipe
      rw [pv_w, if_pos c]
    · unfold fX10_pipe
      rw [if_pos c]
  have n1 : ¬ fX10_in (nI kd) 0 3 = 0 := by rw [c]; decide
  rcases pv_rg a2 (l := 1) (h := 4) (lo := 1) (hi := 4) rfl rfl (by decide) (by decide) with c2 | ⟨c2, wd, hw1, hw2, rfl⟩
  · refine ⟨-1, μ, μ, ?_, ?_, pl_mono g⟩
    · unfold fX9_pipe
      rw [pv_w, if_neg n1, pv_w, if_pos c2]
    · unfold fX10_pipe
      rw [if_neg n1, if_pos c2]
  have n2 : ¬ fX10_in (nI wd) 1 4 = 0 := by rw [c2]; decide
  by_cases c3 : nI kd = 2 ∧ fX10_in a3 1 100 = 0
  · refine ⟨-1, μ, μ, ?_, ?_, pl_mono g⟩
    · unfold fX9_pipe
      rw [pv_w, if_neg n1, pv_w, if_neg n2]
      simp only [dw_jm]
      rw [if_pos c3.1, pv_w, if_pos c3.2]
    · unfold fX10_pipe
      rw [if_neg n1, if_neg n2]
      simp only [dw_jm]
      rw [if_pos c3.1, if_pos c3.2]
  -- past the guards
  have key9 : fX9_pipe μ (nI kd) (nI wd) a3 = (if (μ.1 10 2) = 0 then some ((-6 : Int32), μ) else dw_bd (fX1_firstBareStep μ 10) (fun r5 => if r5 < 0 then (if (μ.1 11 1) < (20 : Int32) then dw_nm (μ.1 11 1) (fun x8 =>
      dw_gd (dw_ok x8 20) (
      dw_nm (fX5_lay μ (12 + 1 + 2 * x8.toNatClampNeg) 10 (nI kd) (nI wd)) (fun μ10 =>
      if nI kd = (2 : Int32) then (
      dw_nm (dw_st μ10 57 x8.toNatClampNeg a3) (fun μ14 =>
      dw_nm (dw_st μ14 11 1 (x8 + (1 : Int32))) (fun μ15 =>
      some (x8, μ15))))
      else (
      dw_nm (dw_st μ10 57 x8.toNatClampNeg (0 : Int32)) (fun μ12 =>
      dw_nm (dw_st μ12 11 1 (x8 + (1 : Int32))) (fun μ13 =>
      some (x8, μ13))))))) else some ((-2 : Int32), μ)) else some (((-100 : Int32) - r5), μ))) := by
    unfold fX9_pipe
    rw [pv_w, if_neg n1, pv_w, if_neg n2]
    simp only [dw_jm]
    by_cases c4 : nI kd = 2
    · rw [if_pos c4, pv_w, if_neg (fun z => c3 ⟨c4, z⟩)]
    · rw [if_neg c4]
  have hn1 : μ.1 10 2 = μ.1 143 2 := hn.1
  have hhs : ∀ p, p < P → μ.1 143 (20 + p) = μ.1 3 p := fun p hp => (gn p hp).1.symm
  by_cases c5 : μ.1 143 2 = 0
  · refine ⟨-6, μ, μ, ?_, ?_, pl_mono g⟩
    · rw [key9, hn1, if_pos c5]
    · unfold fX10_pipe
      rw [if_neg n1, if_neg n2]
      simp only [dw_jm, dw_nm, pv_c2]
      rw [if_pos c5]
      by_cases c4 : nI kd = 2
      · rw [if_pos c4, if_neg (fun z => c3 ⟨c4, z⟩)]
      · rw [if_neg c4]
  have hl := hn.2.resolve_left c5
  obtain ⟨m, hm1, hm2, hst, hcs, pl, hpl, hinj⟩ := ln_pl (m := 0) hl
  have hcs : μ.1 10 2 = nI m := hcs
  have hpl : ∀ k, k < m → pl k < P ∧ fX3_placeAt μ 10 (nI k) = nI (pl k) ∧ μ.1 143 3 + nI k * rl_sr (nI C) (μ.1 143 3) (μ.1 143 4) = nI (pl k) ∧ fX3_levelAt μ 10 (nI k) = μ.1 143 5 - nI k * μ.1 143 6 := hpl
  obtain ⟨b1, b2⟩ := cl_bare (i := 10) (lv := μ.1 143 5) (fa := μ.1 143 6) hcs hm2 d36 (fun k hk => ⟨(hpl k hk).1, (hpl k hk).2.1, (hpl k hk).2.2.2⟩)
  have key10 : ∀ (ρ : dw_M), ρ.1 143 = μ.1 143 → ∀ (r : Unit ⊕ (Int32 × dw_M)), dw_wh (fun v => sX10_pipe_54 ρ (nI m) v) 1000 (0 : Int32) = some r → fX10_pipe ρ (nI kd) (nI wd) a3 = Sum.elim (fun _ => if N = 20 then some ((-2 : Int32), ρ) else some (nI N, md_layc ρ N (nI kd) (nI wd) (if nI kd = 2 then a3 else 0) (nI m))) (fun r => some r) r := by
    intro ρ er r hr
    unfold fX10_pipe
    rw [if_neg n1, if_neg n2]
    have e2 : ρ.1 143 2 = nI m := by rw [er, hst]
    have eN : ρ.1 143 13 = nI N := by rw [er, dN]
    have inner : (dw_nm (ρ.1 143 (2 : Int32).toNatClampNeg) (fun x3 => if x3 = 0 then some ((-6 : Int32), ρ) else dw_bd (dw_wh (fun v => sX10_pipe_54 ρ x3 v) 1000 (0 : Int32)) (Sum.elim (fun _ => if (ρ.1 143 (13 : Int32).toNatClampNeg) = (20 : Int32) then (
        some ((-2 : Int32), ρ))
        else (
        dw_nm (ρ.1 143 (13 : Int32).toNatClampNeg) (fun x15 =>
        dw_nm (dw_st ρ 143 (13 : Int32).toNatClampNeg ((ρ.1 143 (13 : Int32).toNatClampNeg) + (1 : Int32))) (fun μ16 =>
        dw_bd (fX10_setPipe μ16 x15 (0 : Int32) (nI kd)) (fun μ18 =>
        dw_bd (fX10_setPipe μ18 x15 (1 : Int32) (μ18.1 143 (3 : Int32).toNatClampNeg)) (fun μ20 =>
        dw_bd (fX10_setPipe μ20 x15 (2 : Int32) (μ20.1 143 (4 : Int32).toNatClampNeg)) (fun μ22 =>
        dw_bd (fX10_setPipe μ22 x15 (3 : Int32) (μ22.1 143 (5 : Int32).toNatClampNeg)) (fun μ24 =>
        dw_bd (fX10_setPipe μ24 x15 (4 : Int32) (μ24.1 143 (6 : Int32).toNatClampNeg)) (fun μ26 =>
        dw_bd (fX10_setPipe μ26 x15 (5 : Int32) (nI wd)) (fun μ28 =>
        dw_jm (fun (x29 : Int32) =>
        dw_bd (fX10_setPipe μ28 x15 (6 : Int32) x29) (fun μ31 =>
        dw_bd (fX10_setPipe μ31 x15 (7 : Int32) (-1 : Int32)) (fun μ33 =>
        dw_bd (fX10_setPipe μ33 x15 (8 : Int32) (0 : Int32)) (fun μ35 =>
        dw_bd (fX10_setPipe μ35 x15 (9 : Int32) (0 : Int32)) (fun μ37 =>
        dw_bd (fX10_setPipe μ37 x15 (10 : Int32) (0 : Int32)) (fun μ39 =>
        dw_bd (fX10_setPipe μ39 x15 (11 : Int32) x3) (fun μ41 =>
        some (x15, μ41)))))))) (fun k250 =>
        if nI kd = (2 : Int32) then (
        k250 a3)
        else (
        k250 (0 : Int32))))))))))))) (fun r => some r))) : Option (Int32 × dw_M)) = Sum.elim (fun _ => if N = 20 then some ((-2 : Int32), ρ) else some (nI N, md_layc ρ N (nI kd) (nI wd) (if nI kd = 2 then a3 else 0) (nI m))) (fun r => some r) r := by
      rw [pv_c2, e2]
      show (if nI m = 0 then _ else _) = _
      rw [if_neg (nI_ne0 (by omega) (by omega)), pb_bd hr]
      rcases r with r | r
      · show (if ρ.1 143 (13 : Int32).toNatClampNeg = 20 then _ else _) = (if N = 20 then _ else _)
        by_cases c6 : N = 20
        · rw [if_pos (by rw [pv_c13, eN, c6]; rfl), if_pos c6]
        · rw [if_neg (by rw [pv_c13, eN]; exact fun z => c6 ((nI_eq (by omega) (by decide)).mp z)), if_neg c6]
          exact md_pipe_a (by omega) eN _ _ _ _
      · rfl
    show dw_jm _ _ = _
    simp only [dw_jm] at inner ⊢
    rw [inner]
    by_cases c4 : nI kd = 2
    · rw [if_pos c4, if_neg (fun z => c3 ⟨c4, z⟩)]
    · rw [if_neg c4]
  by_cases hb : ∃ k, k < m ∧ bare μ (μ.1 143 5) (μ.1 143 6) pl k
  · haveI : DecidablePred (fun k => bare μ (μ.1 143 5) (μ.1 143 6) pl k) := fun k => by unfold bare; infer_instance
    obtain ⟨k0, hk0, hb0, hb1⟩ := fb_first hb
    refine ⟨-100 - nI k0, μ, μ, ?_, ?_, pl_mono g⟩
    · rw [key9, hcs, if_neg (nI_ne0 (by omega) (by omega)), pb_bd (b1 k0 hk0 hb1 hb0), if_neg (nI_pos (by omega))]
    · rw [key10 μ rfl _ ((md_bare dC d3 d4 hm2 d36 (fun k hk => ⟨(hpl k hk).1, (hpl k hk).2.2.1⟩) hhs).1 k0 hk0 hb1 hb0)]
      rfl
  · have hb' : ∀ j, j < m → ¬ bare μ (μ.1 143 5) (μ.1 143 6) pl j := fun j hj z => hb ⟨j, hj, z⟩
    have f9 := b2 hb'
    by_cases c6 : N = 20
    · refine ⟨-2, μ, μ, ?_, ?_, pl_mono g⟩
      · rw [key9, hcs, if_neg (nI_ne0 (by omega) (by omega)), pb_bd f9, if_pos (by decide), cN, if_neg (by rw [c6]; decide)]
      · rw [key10 μ rfl _ ((md_bare dC d3 d4 hm2 d36 (fun k hk => ⟨(hpl k hk).1, (hpl k hk).2.2.1⟩) hhs).2 hb')]
        show (if N = 20 then _ else _) = _
        rw [if_pos c6]
    · have hN : N < 20 := by omega
      obtain ⟨lf, hlf1, hlf2⟩ : ∃ x, x ≤ 100 ∧ (if nI kd = 2 then a3 else 0) = nI x := by
        by_cases c4 : nI kd = 2
        · rw [if_pos c4]
          rcases pv_rg a3 (l := 1) (h := 100) (lo := 1) (hi := 100) rfl rfl (by decide) (by decide) with c7 | ⟨c7, x, hx1, hx2, rfl⟩
          · exact absurd ⟨c4, c7⟩ c3
          · exact ⟨x, hx2, rfl⟩
        · rw [if_neg c4]
          exact ⟨0, by decide, rfl⟩
      refine ⟨nI N, cl_layc μ N (nI kd) (nI wd) (nI lf), md_layc (cl_layc μ N (nI kd) (nI wd) (nI lf)) N (nI kd) (nI wd) (nI lf) (nI m), ?_, ?_, ?_⟩
      · rw [key9, hcs, if_neg (nI_ne0 (by omega) (by omega)), pb_bd f9, if_pos (by decide), if_pos (show μ.1 11 1 < 20 by rw [cN]; exact nI_lt (b := 20) hN (by decide)), cl_lay_a hN cN, hlf2]
      · have eo : ∀ c, c ≠ 13 + 2 * N → c ≠ 14 + 2 * N → c ≠ 57 → c ≠ 11 → (cl_layc μ N (nI kd) (nI wd) (nI lf)).1 c = μ.1 c := by
          intro c h1 h2 h3 h4
          unfold cl_layc fX5_lay fX3_copyFrom fX3_set
          simp only [dw_nm]
          simp (disch := omega) only [pb_oc]
        have eA := eo 143 (by omega) (by omega) (by omega) (by omega)
        have e3 := eo 3 (by omega) (by omega) (by omega) (by omega)
        have h := (md_bare (μ := cl_layc μ N (nI kd) (nI wd) (nI lf)) (pl := pl) (C := C) (m := m) (P := P) (by rw [eA]; exact dC) d3 d4 hm2 d36 (fun k hk => by rw [eA]; exact ⟨(hpl k hk).1, (hpl k hk).2.2.1⟩) (fun p hp => by rw [eA, e3]; exact hhs p hp)).2 (fun j hj => by rw [eA]; unfold bare; rw [e3]; exact hb' j hj)
        rw [key10 _ eA _ h]
        show (if N = 20 then _ else _) = _
        rw [if_neg c6, hlf2]
      · exact pipe_end g ⟨d, gn, so, di, hn, pi, it, ac, ⟨hk5, wa⟩, bl, ra, mk, si⟩ hN hkd2 hw1 hw2 hlf1 hl hst hm2
