theorem pb_swh {σ ρ : Type} {step step' : σ → Option (σ ⊕ ρ)} (I : σ → Prop) (h : ∀ x, I x → step x = step' x) (hp : ∀ x y, I x → step x = some (.inl y) → I y) : ∀ (n : Nat) (x : σ), I x → dw_wh step n x = dw_wh step' n x
  | 0, _, _ => rfl
  | n + 1, x, hx => by
    unfold dw_wh
    rw [← h x hx]
    cases hs : step x with
    | none => rfl
    | some r =>
      rcases r with y | r
      · exact pb_swh I h hp n y (hp x y hx hs)
      · rfl
theorem md_sum {R C P : Nat} {μ : dw_M} (dR : μ.1 143 0 = nI R) (dC : μ.1 143 1 = nI C) (dP : P = R * C) (hP : P ≤ 36) {x : Int32} {b : Nat} (hx : x = nI b) (hb : b ≤ 700) : fX10_sum μ x = some (pb_sm (fun k => μ.1 143 (b + k)) P) := by
  subst hx
  unfold fX10_sum
  have h := pb_det (step := fun v => sX10_sum_4 μ (nI b) v.1 v.2) (fun j => (pb_sm (fun k => μ.1 143 (b + k)) j, nI j)) P (x := ((0 : Int32), (0 : Int32))) rfl (r := pb_sm (fun k => μ.1 143 (b + k)) P) (fun j hj => ?_) ?_ (fuel := 1000) (by omega)
  · rw [pb_bd h]
  · show sX10_sum_4 μ (nI b) _ (nI j) = _
    unfold sX10_sum_4
    rw [pv_pl dR dC dP, if_neg (nI_ge hj (by omega)), nI_add, pb_gd (pb_ok rfl (by omega) (by decide)), pb_cl rfl (by omega), nI_1]
    rfl
  · show sX10_sum_4 μ (nI b) _ (nI P) = _
    unfold sX10_sum_4
    rw [pv_pl dR dC dP, if_pos (nI_le (Nat.le_refl _) (by omega))]
theorem md_sop {N : Nat} {μ : dw_M} (dN : μ.1 143 13 = nI N) (hN : N ≤ 20) {x : Int32} {w : Nat} (hx : x = nI w) (hw : w < 20) : fX10_sumOfPipes μ x = some (pb_sm (fun q => μ.1 143 (400 + 20 * q + w)) N) := by
  subst hx
  unfold fX10_sumOfPipes
  have h := pb_det (step := fun v => sX10_sumOfPipes_4 μ (nI w) v.1 v.2) (fun j => (pb_sm (fun q => μ.1 143 (400 + 20 * q + w)) j, nI j)) N (x := ((0 : Int32), (0 : Int32))) rfl (r := pb_sm (fun q => μ.1 143 (400 + 20 * q + w)) N) (fun j hj => ?_) ?_ (fuel := 1000) (by omega)
  · rw [pb_bd h]
  · show sX10_sumOfPipes_4 μ (nI w) _ (nI j) = _
    unfold sX10_sumOfPipes_4
    rw [pv_c13, dN, if_neg (nI_ge hj (by omega)), pb_bd (md_po μ (x := nI j) (y := nI w) rfl rfl (by omega) hw), nI_1]
    rfl
  · show sX10_sumOfPipes_4 μ (nI w) _ (nI N) = _
    unfold sX10_sumOfPipes_4
    rw [pv_c13, dN, if_pos (nI_le (Nat.le_refl _) (by omega))]
theorem pb_sm_ct (p : Nat → Bool) : ∀ n, pb_sm (fun k => if p k then 1 else 0) n = nI (fb_ct p n)
  | 0 => rfl
  | n + 1 => by
    show pb_sm (fun k => if p k then 1 else 0) n + (if p n then 1 else 0) = nI (fb_ct p n + (if p n then 1 else 0))
    rw [pb_sm_ct p n]
    cases p n
    · exact Int32.add_zero _
    · exact nI_1 _
theorem ct_tail {p : Nat → Bool} {n m : Nat} (h : ∀ k, n ≤ k → k < m → p k = false) (hm : n ≤ m) : fb_ct p m = fb_ct p n := by
  have e := fb_ct_split p n (m - n)
  rw [show n + (m - n) = m by omega] at e
  rw [e, fb_ct_zero.mpr (fun k hk => h (n + k) (by omega) (by omega)), Nat.add_zero]
theorem ok_at : pl_at pl_G := by
  intro k μ hk g a1 a2
  obtain ⟨R, C, P, N, hh, d, gn, so, di, hn, pi, it, ac, ⟨hk5, wa⟩, bl, ra, mk, si⟩ := id g.1
  obtain ⟨⟨d1, d2, d3, d4, dP, d5, d36, d20⟩, dR, dC, dN, cC, cP, cN⟩ := id d
  have dR : μ.1 143 0 = nI R := dR
  have dC : μ.1 143 1 = nI C := dC
  have dN : μ.1 143 13 = nI N := dN
  have cC : μ.1 2 0 = nI C := cC
  have cP : μ.1 2 1 = nI P := cP
  have cN : μ.1 11 1 = nI N := cN
  rcases pv_tri a1 (n := P) (by omega) with c | ⟨p, hp, rfl⟩
  · refine ⟨-1, ?_, ?_, pl_mono g⟩
    · unfold fX9_at
      rw [if_pos (pv_hp0 cP c)]
    · unfold fX10_at
      rw [if_pos (pv_ip0 dR dC dP d36 c)]
  have c1 : ¬ fX1_hasPlace μ (nI p) = 0 := by rw [pv_hp1 cP d36 hp]; decide
  have c2 : ¬ fX10_isPlace μ (nI p) = 0 := by rw [pv_ip1 dR dC dP d36 hp]; decide
  unfold fX9_at fX10_at
  rw [if_neg c1, if_neg c2, pb_bd (cl_rch cC cN d3 d4 d36 d20 gn pi hp), pb_bd (md_rch dC dN d3 d4 d36 d20 gn so pi hp)]
  simp only [pb_gd (pb_ok (x := nI p) (n := 36) rfl (by omega) (by decide)), pb_cl (x := nI p) rfl (by omega), pv_a (c := 20) (n := 20) (p := p) rfl, pv_a (c := 60) (n := 60) (p := p) rfl, pv_a (c := 100) (n := 100) (p := p) rfl, pv_a (c := 140) (n := 140) (p := p) rfl, pv_a (c := 180) (n := 180) (p := p) rfl]
  simp only [pb_gd (pb_ok (x := nI (20 + p)) (n := 800) rfl (by omega) (by decide)), pb_gd (pb_ok (x := nI (60 + p)) (n := 800) rfl (by omega) (by decide)), pb_gd (pb_ok (x := nI (100 + p)) (n := 800) rfl (by omega) (by decide)), pb_gd (pb_ok (x := nI (140 + p)) (n := 800) rfl (by omega) (by decide)), pb_gd (pb_ok (x := nI (180 + p)) (n := 800) rfl (by omega) (by decide)), pb_cl (x := nI (20 + p)) rfl (by omega), pb_cl (x := nI (60 + p)) rfl (by omega), pb_cl (x := nI (100 + p)) rfl (by omega), pb_cl (x := nI (140 + p)) rfl (by omega), pb_cl (x := nI (180 + p)) rfl (by omega)]
  rw [show μ.1 3 p = μ.1 143 (20 + p) from (gn p hp).1, show μ.1 4 p = μ.1 143 (60 + p) from (gn p hp).2.1, show μ.1 54 p = μ.1 143 (100 + p) from (wa.1 p hp).1, show μ.1 55 p = μ.1 143 (140 + p) from (wa.1 p hp).2.1, show μ.1 61 p = μ.1 143 (180 + p) from (ra p hp).1]
  refine ex_opt rfl ?_ (pl_mono g)
  repeat' (first | exact ⟨_, rfl⟩ | apply ex_ite)
theorem ok_all : pl_all pl_G := by
  intro k μ hk g a1
  obtain ⟨R, C, P, N, hh, d, gn, so, di, hn, pi, it, ac, ⟨hk5, wa⟩, bl, ra, mk, si⟩ := id g.1
  obtain ⟨⟨d1, d2, d3, d4, dP, d5, d36, d20⟩, dR, dC, dN, cC, cP, cN⟩ := id d
  have dR : μ.1 143 0 = nI R := dR
  have dC : μ.1 143 1 = nI C := dC
  have dN : μ.1 143 13 = nI N := dN
  have cC : μ.1 2 0 = nI C := cC
  have cP : μ.1 2 1 = nI P := cP
  have cN : μ.1 11 1 = nI N := cN
  obtain ⟨w1, w2, w3, w4, w5, w6, w7, w8⟩ := wa
  have s0 : pb_sm (μ.1 54) 36 = pb_sm (fun k => μ.1 143 (100 + k)) P := by
    have h := pb_sm_tail (f := μ.1 54) (n := P) (m := 36 - P) (fun k h1 h2 => (w2 k h1 (by omega)).1)
    rw [show P + (36 - P) = 36 by omega] at h
    rw [h]
    exact pb_sm_cong (fun k hk => (w1 k hk).1)
  have s1 : pb_sm (μ.1 55) 36 = pb_sm (fun k => μ.1 143 (140 + k)) P := by
    have h := pb_sm_tail (f := μ.1 55) (n := P) (m := 36 - P) (fun k h1 h2 => (w2 k h1 (by omega)).2)
    rw [show P + (36 - P) = 36 by omega] at h
    rw [h]
    exact pb_sm_cong (fun k hk => (w1 k hk).2.1)
  have s2 : pb_sm (μ.1 56) 20 = pb_sm (fun k => μ.1 143 (400 + 20 * k + 9)) N := by
    have h := pb_sm_tail (f := μ.1 56) (n := N) (m := 20 - N) (fun k h1 h2 => (w4 k h1 (by omega)).1)
    rw [show N + (20 - N) = 20 by omega] at h
    rw [h]
    exact pb_sm_cong (fun k hk => (w3 k hk).1)
  unfold fX9_all fX10_all
  rw [pb_bd (pb_sum μ 54 36 dw_lc54 (by decide)), pb_bd (pb_sum μ 55 36 dw_lc55 (by decide)), pb_bd (pb_sum μ 56 20 dw_lc56 (by decide)), pb_bd (md_sum dR dC dP d36 (x := 100) (b := 100) rfl (by decide)), pb_bd (md_sum dR dC dP d36 (x := 140) (b := 140) rfl (by decide)), pb_bd (md_sop dN d20 (x := 9) (w := 9) rfl (by decide)), s0, s1, s2, pv_c8, show μ.1 53 7 = μ.1 143 8 from w6]
  by_cases e0 : a1 = 0
  · rw [if_pos e0, if_pos e0]; exact ⟨_, rfl, rfl, pl_mono g⟩
  rw [if_neg e0, if_neg e0]
  by_cases e1 : a1 = 1
  · rw [if_pos e1, if_pos e1]; exact ⟨_, rfl, rfl, pl_mono g⟩
  rw [if_neg e1, if_neg e1]
  by_cases e2 : a1 = 2
  · rw [if_pos e2, if_pos e2]; exact ⟨_, rfl, rfl, pl_mono g⟩
  rw [if_neg e2, if_neg e2]
  by_cases e3 : a1 = 3
  · subst e3
    exact ⟨_, rfl, congrArg some (w5 0 (by decide)).symm, pl_mono g⟩
  rw [if_neg e3, if_neg e3]
  by_cases e4 : a1 = 4
  · subst e4
    exact ⟨_, rfl, congrArg some (w5 1 (by decide)).symm, pl_mono g⟩
  rw [if_neg e4, if_neg e4]
  by_cases e5 : a1 = 5
  · subst e5
    exact ⟨_, rfl, congrArg some (w5 2 (by decide)).symm, pl_mono g⟩
  rw [if_neg e5, if_neg e5]
  by_cases e6 : a1 = 6
  · subst e6
    exact ⟨_, rfl, congrArg some (w5 3 (by decide)).symm, pl_mono g⟩
  rw [if_neg e6, if_neg e6]
  by_cases e7 : a1 = 7
  · rw [if_pos e7]; exact ⟨_, rfl, rfl, pl_mono g⟩
  · rw [if_neg e7]; exact ⟨_, rfl, rfl, pl_mono g⟩
theorem ok_many : pl_many pl_G := by
  intro k μ hk g a1
  obtain ⟨R, C, P, N, hh, d, gn, so, di, hn, pi, it, ac, ⟨hk5, wa⟩, bl, ra, mk, si⟩ := id g.1
  obtain ⟨⟨d1, d2, d3, d4, dP, d5, d36, d20⟩, dR, dC, dN, cC, cP, cN⟩ := id d
  have dR : μ.1 143 0 = nI R := dR
  have dC : μ.1 143 1 = nI C := dC
  have dN : μ.1 143 13 = nI N := dN
  have cC : μ.1 2 0 = nI C := cC
  have cP : μ.1 2 1 = nI P := cP
  have cN : μ.1 11 1 = nI N := cN
  have hd : ∃ r, fX6_countUnreached μ = some r ∧ fX10_dryMany μ = some r := by
    have st : ∀ j, j < P → ∀ x, sX6_countUnreached_4 μ x (nI j) = some (.inl (if rch μ C N j then x else x + 1, nI (j + 1))) := by
      intro j hj x
      unfold sX6_countUnreached_4
      rw [cP, if_neg (nI_ge hj (by omega)), pb_bd (cl_rch cC cN d3 d4 d36 d20 gn pi hj), nI_1]
      cases rch μ C N j <;> rfl
    have st2 : ∀ j, j < P → ∀ x, sX10_dryMany_4 μ x (nI j) = some (.inl (if rch μ C N j then x else x + 1, nI (j + 1))) := by
      intro j hj x
      unfold sX10_dryMany_4
      rw [pv_pl dR dC dP, if_neg (nI_ge hj (by omega)), pb_bd (md_rch dC dN d3 d4 d36 d20 gn so pi hj), nI_1]
      simp only [dw_nm, Int32.add_zero]
      cases rch μ C N j <;> rfl
    let S : Nat → Int32 := fun j => Nat.rec (0 : Int32) (fun j x => if rch μ C N j then x else x + 1) j
    refine ⟨S P, ?_, ?_⟩
    · unfold fX6_countUnreached
      have h := pb_det (step := fun v => sX6_countUnreached_4 μ v.1 v.2) (fun j => (S j, nI j)) P (x := ((0 : Int32), (0 : Int32))) rfl (r := S P) (fun j hj => st j hj _) ?_ (fuel := 1000) (by omega)
      · rw [pb_bd h]
      · show sX6_countUnreached_4 μ _ (nI P) = _
        unfold sX6_countUnreached_4
        rw [cP, if_pos (nI_le (Nat.le_refl _) (by omega))]
    · unfold fX10_dryMany
      have h := pb_det (step := fun v => sX10_dryMany_4 μ v.1 v.2) (fun j => (S j, nI j)) P (x := ((0 : Int32), (0 : Int32))) rfl (r := S P) (fun j hj => st2 j hj _) ?_ (fuel := 1000) (by omega)
      · rw [pb_bd h]
      · show sX10_dryMany_4 μ _ (nI P) = _
        unfold sX10_dryMany_4
        rw [pv_pl dR dC dP, if_pos (nI_le (Nat.le_refl _) (by omega))]
  obtain ⟨r3, h3, h3'⟩ := hd
  have b4 : fX2_size μ 62 = pb_sm (fun k => μ.1 143 (220 + k)) P := by
    unfold fX2_size
    rw [pg_count, ct_tail mk.2 (by omega), ← pb_sm_ct]
    exact pb_sm_cong (fun k hk => (mk.1 k hk).symm)
  have b5 : fX2_size μ 63 = pb_sm (fun k => μ.1 143 (260 + k)) P := by
    unfold fX2_size
    rw [pg_count, ct_tail si.2 (by omega), ← pb_sm_ct]
    exact pb_sm_cong (fun k hk => (si.1 k hk).symm)
  have b6 : fX2_size μ 60 = pb_sm (fun k => μ.1 143 (400 + 20 * k + 8)) N := by
    unfold fX2_size
    rw [pg_count, ct_tail bl.2 (by omega), ← pb_sm_ct]
    exact pb_sm_cong (fun k hk => (bl.1 k hk).symm)
  unfold fX9_many fX10_many
  rw [pb_bd h3, pb_bd h3', pb_bd (md_sum dR dC dP d36 (x := 220) (b := 220) rfl (by decide)), pb_bd (md_sum dR dC dP d36 (x := 260) (b := 260) rfl (by decide)), pb_bd (md_sop dN d20 (x := 8) (w := 8) rfl (by decide)), b4, b5, b6, pv_pl dR dC dP, cP, pv_c13, dN, cN, pv_c7, show μ.1 53 8 = μ.1 143 7 from wa.2.2.2.2.2.2.1]
  refine ex_opt rfl ?_ (pl_mono g)
  repeat' (first | exact ⟨_, rfl⟩ | apply ex_ite)
theorem ok_dry : pl_dry pl_G := by
  intro k μ hk g a1
  obtain ⟨R, C, P, N, hh, d, gn, so, di, hn, pi, it, ac, ⟨hk5, wa⟩, bl, ra, mk, si⟩ := id g.1
  obtain ⟨⟨d1, d2, d3, d4, dP, d5, d36, d20⟩, dR, dC, dN, cC, cP, cN⟩ := id d
  have dR : μ.1 143 0 = nI R := dR
  have dC : μ.1 143 1 = nI C := dC
  have dN : μ.1 143 13 = nI N := dN
  have cC : μ.1 2 0 = nI C := cC
  have cP : μ.1 2 1 = nI P := cP
  have cN : μ.1 11 1 = nI N := cN
  have st : ∀ j, j < P → ∀ x, sX9_dry_4 μ x (nI j) = if rch μ C N j then some (.inl (x, nI (j + 1))) else if x = 0 then some (.inr (.inr (nI j))) else some (.inl (x + (-1), nI (j + 1))) := by
    intro j hj x
    unfold sX9_dry_4
    rw [cP, if_neg (nI_ge hj (by omega)), pb_bd (cl_rch cC cN d3 d4 d36 d20 gn pi hj), nI_1]
    cases rch μ C N j <;> rfl
  have st2 : ∀ j, j < P → ∀ x, sX10_dry_4 μ x (nI j) = if rch μ C N j then some (.inl (x, nI (j + 1))) else if x = 0 then some (.inr (.inr (nI j))) else some (.inl (x + (-1), nI (j + 1))) := by
    intro j hj x
    unfold sX10_dry_4
    rw [pv_pl dR dC dP, if_neg (nI_ge hj (by omega)), pb_bd (md_rch dC dN d3 d4 d36 d20 gn so pi hj), nI_1]
    cases rch μ C N j <;> rfl
  have e9 : ∀ x, sX9_dry_4 μ x (nI P) = some (.inr (.inl ())) := by
    intro x
    unfold sX9_dry_4
    rw [cP, if_pos (nI_le (Nat.le_refl _) (by omega))]
  have e10 : ∀ x, sX10_dry_4 μ x (nI P) = some (.inr (.inl ())) := by
    intro x
    unfold sX10_dry_4
    rw [pv_pl dR dC dP, if_pos (nI_le (Nat.le_refl _) (by omega))]
  obtain ⟨r, h1, -⟩ := pb_inv (step := fun v : Int32 × Int32 => sX9_dry_4 μ v.1 v.2) (fun j x => x.2 = nI j) P (fun _ => True) (fun j x hj hx => by
    obtain ⟨x1, x2⟩ := x
    have hx : x2 = nI j := hx
    subst hx
    show (∃ y, sX9_dry_4 μ x1 (nI j) = some (.inl y) ∧ _) ∨ ∃ r, sX9_dry_4 μ x1 (nI j) = some (.inr r) ∧ _
    rw [st j hj x1]
    by_cases c : rch μ C N j = true
    · rw [if_pos c]
      exact Or.inl ⟨_, rfl, rfl⟩
    · rw [if_neg c]
      by_cases c2 : x1 = 0
      · rw [if_pos c2]
        exact Or.inr ⟨_, rfl, trivial⟩
      · rw [if_neg c2]
        exact Or.inl ⟨_, rfl, rfl⟩) (fun x hx => by
    obtain ⟨x1, x2⟩ := x
    have hx : x2 = nI P := hx
    subst hx
    exact ⟨_, e9 x1, trivial⟩) (fuel := 1000) (by omega) (x := (a1, (0 : Int32))) rfl
  have h2 := pb_swh (step := fun v : Int32 × Int32 => sX9_dry_4 μ v.1 v.2) (step' := fun v : Int32 × Int32 => sX10_dry_4 μ v.1 v.2) (fun x => ∃ j, j ≤ P ∧ x.2 = nI j) (fun x hx => by
    obtain ⟨x1, x2⟩ := x
    obtain ⟨j, hj, hx⟩ := hx
    have hx : x2 = nI j := hx
    subst hx
    show sX9_dry_4 μ x1 (nI j) = sX10_dry_4 μ x1 (nI j)
    by_cases e : j = P
    · subst e
      rw [e9, e10]
    · rw [st j (by omega), st2 j (by omega)]) (fun x y hx hs => by
    obtain ⟨x1, x2⟩ := x
    obtain ⟨j, hj, hx⟩ := hx
    have hx : x2 = nI j := hx
    subst hx
    have hs : sX9_dry_4 μ x1 (nI j) = some (.inl y) := hs
    by_cases e : j = P
    · subst e
      rw [e9] at hs
      cases hs
    · rw [st j (by omega)] at hs
      refine ⟨j + 1, by omega, ?_⟩
      by_cases c : rch μ C N j = true
      · rw [if_pos c] at hs
        have hs := Sum.inl.inj (Option.some.inj hs)
        rw [← hs]
      · rw [if_neg c] at hs
        by_cases c2 : x1 = 0
        · rw [if_pos c2] at hs
          cases hs
        · rw [if_neg c2] at hs
          have hs := Sum.inl.inj (Option.some.inj hs)
          rw [← hs]) 1000 (a1, (0 : Int32)) ⟨0, by omega, rfl⟩
  unfold fX9_dry fX10_dry
  rw [← h2, pb_bd h1]
  refine ex_opt rfl ?_ (pl_mono g)
  rcases r with r | r
  · exact ⟨_, rfl⟩
  · exact ⟨_, rfl⟩
