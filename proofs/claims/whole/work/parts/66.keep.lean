/-! see, keep, back -/
theorem dw_sl_sl (μ : dw_M) (i : Nat) (x y : Int64) : dw_sl (dw_sl μ i x) i y = dw_sl μ i y := by
  apply pb_ext
  · intro c j; rfl
  · intro c
    rw [pb_sl2, pb_sl2, pb_sl2]
    by_cases h : c = i
    · rw [if_pos h, if_pos h]
    · rw [if_neg h, if_neg h, if_neg h]
def stB (f : Nat → Int32) (q : Nat) : Bool := !decide (f q ≤ 0)
theorem cl_see (μ : dw_M) : ∃ w, fX8_putStanding μ = some (dw_sl μ 63 w) ∧ ∀ q, q < 64 → pg_b w q = if q < 36 then stB (μ.1 54) q else pg_b (μ.2 63) q := by
  unfold fX8_putStanding
  obtain ⟨r, h1, w, h2, h3⟩ := pb_inv (step := fun v : Int32 × dw_M => sX8_putStanding_2 v.1 v.2) (fun j x => ∃ w, x = (nI j, dw_sl μ 63 w) ∧ ∀ q, q < 64 → pg_b w q = if q < j then stB (μ.1 54) q else pg_b (μ.2 63) q) 36 (fun r => ∃ w, r = dw_sl μ 63 w ∧ ∀ q, q < 64 → pg_b w q = if q < 36 then stB (μ.1 54) q else pg_b (μ.2 63) q) (fun j x hj hx => by
    obtain ⟨w, rfl, hw⟩ := hx
    left
    refine ⟨(nI (j + 1), dw_sl μ 63 (pg_s w j (stB (μ.1 54) j))), ?_, pg_s w j (stB (μ.1 54) j), rfl, fun q hq => ?_⟩
    · show sX8_putStanding_2 (nI j) (dw_sl μ 63 w) = _
      unfold sX8_putStanding_2
      rw [if_neg (n_36 hj), pb_gd (pb_ok rfl hj (by decide)), pb_cl rfl (by omega), pb_sl1]
      have hp : ∀ (v : Int32) (b : Bool), v = (if b then 1 else 0) → fX2_put (dw_sl μ 63 w) 63 (nI j) v = (if pg_b w j = b then 0 else 1, dw_sl μ 63 (pg_s w j b)) := by
        intro v b hv
        have h := pg_put (dw_sl μ 63 w) 63 (x := nI j) rfl (by omega) hv
        rw [pb_sl2, if_pos rfl, dw_sl_sl] at h
        exact h
      unfold stB
      by_cases c : μ.1 54 j ≤ 0
      · rw [if_pos c, hp 0 false rfl, decide_eq_true c]
        show some (Sum.inl (nI j + 1, _)) = _
        rw [nI_1]
        rfl
      · rw [if_neg c, hp 1 true rfl, decide_eq_false c]
        show some (Sum.inl (nI j + 1, _)) = _
        rw [nI_1]
        rfl
    · rw [pg_s_b w (by omega) _ q hq, hw q hq]
      by_cases e : q = j
      · rw [if_pos e, if_pos (by omega), e]
      · rw [if_neg e]
        by_cases e2 : q < j
        · rw [if_pos e2, if_pos (by omega)]
        · rw [if_neg e2, if_neg (by omega)]) (fun x hx => by
    obtain ⟨w, rfl, hw⟩ := hx
    refine ⟨dw_sl μ 63 w, ?_, w, rfl, hw⟩
    show sX8_putStanding_2 (nI 36) (dw_sl μ 63 w) = _
    unfold sX8_putStanding_2
    rw [if_pos (by decide)]) (fuel := 1000) (by omega) (x := ((0 : Int32), μ)) ⟨μ.2 63, by rw [pg_sl_id]; rfl, fun q hq => by rw [if_neg (by omega)]⟩
  refine ⟨w, ?_, h3⟩
  rw [pb_bd h1, h2]
def md_sf (A : Nat → Int32) (j : Nat) : Nat → Int32 := fun i => if 260 ≤ i ∧ i < 260 + j then b2i (stB (fun p => A (100 + p)) (i - 260)) else A i
theorem md_see {R C P : Nat} {μ : dw_M} (dR : μ.1 143 0 = nI R) (dC : μ.1 143 1 = nI C) (dP : P = R * C) (hP : P ≤ 36) : fX10_see μ = some (pb_sm (fun k => b2i (stB (fun p => μ.1 143 (100 + p)) k)) P, pb_c μ 143 (md_sf (μ.1 143) P)) := by
  have hpl : ∀ j, fX10_places (pb_c μ 143 (md_sf (μ.1 143) j)) = nI P := by
    intro j
    apply pv_pl (R := R) (C := C) _ _ dP
    · rw [pb_c1]; unfold md_sf; rw [if_neg (by omega)]; exact dR
    · rw [pb_c1]; unfold md_sf; rw [if_neg (by omega)]; exact dC
  unfold fX10_see
  have h := pb_det (step := fun v : Int32 × Int32 × dw_M => sX10_see_4 v.1 v.2.1 v.2.2) (fun j => (pb_sm (fun k => b2i (stB (fun p => μ.1 143 (100 + p)) k)) j, nI j, pb_c μ 143 (md_sf (μ.1 143) j))) P (x := ((0 : Int32), (0 : Int32), μ)) ?_ (r := (pb_sm (fun k => b2i (stB (fun p => μ.1 143 (100 + p)) k)) P, pb_c μ 143 (md_sf (μ.1 143) P))) (fun j hj => ?_) ?_ (fuel := 1000) (by omega)
  · rw [pb_bd h]
  · have e : md_sf (μ.1 143) 0 = μ.1 143 := by
      funext i
      unfold md_sf
      rw [if_neg (by omega)]
    show ((0 : Int32), nI 0, pb_c μ 143 (md_sf (μ.1 143) 0)) = _
    rw [e, pb_ci]
    rfl
  · show sX10_see_4 (pb_sm (fun k => b2i (stB (fun p => μ.1 143 (100 + p)) k)) j) (nI j) (pb_c μ 143 (md_sf (μ.1 143) j)) = some (.inl (pb_sm (fun k => b2i (stB (fun p => μ.1 143 (100 + p)) k)) j + b2i (stB (fun p => μ.1 143 (100 + p)) j), nI (j + 1), pb_c μ 143 (md_sf (μ.1 143) (j + 1))))
    have key : upd (md_sf (μ.1 143) j) (260 + j) (b2i (stB (fun p => μ.1 143 (100 + p)) j)) = md_sf (μ.1 143) (j + 1) := by
      funext i
      unfold upd md_sf
      by_cases e : i = 260 + j
      · subst e
        rw [if_pos rfl, if_pos (by omega), show 260 + j - 260 = j by omega]
      · rw [if_neg e]
        by_cases c : 260 ≤ i ∧ i < 260 + j
        · rw [if_pos c, if_pos (by omega)]
        · rw [if_neg c, if_neg (by omega)]
    have k1 : md_sf (μ.1 143) j (100 + j) = μ.1 143 (100 + j) := by
      unfold md_sf
      rw [if_neg (by omega)]
    unfold sX10_see_4
    rw [hpl, if_neg (nI_ge hj (by omega)), pv_a (c := 100) (n := 100) rfl, pv_a (c := 260) (n := 260) rfl, pb_gd (pb_ok rfl (by omega) (by decide)), pb_cl (x := nI (100 + j)) rfl (by omega), pb_cl (x := nI (260 + j)) rfl (by omega), pb_c1, k1]
    simp only [dw_jm, dw_nm, nI_1, pb_cs, pb_c1, pk_us]
    rw [pb_gd (pb_ok rfl (by omega) (by decide)), pb_gd (pb_ok rfl (by omega) (by decide)), ← key]
    unfold stB
    by_cases c : μ.1 143 (100 + j) ≤ 0
    · rw [if_pos c, decide_eq_true c]; rfl
    · rw [if_neg c, decide_eq_false c]; rfl
  · show sX10_see_4 _ (nI P) (pb_c μ 143 (md_sf (μ.1 143) P)) = _
    unfold sX10_see_4
    rw [hpl, if_pos (nI_le (Nat.le_refl _) (by omega))]
theorem ok_see : pl_see pl_G := by
  intro k μ hk g
  obtain ⟨R, C, P, N, hh, d, gn, so, di, hn, pi, it, ac, ⟨hk5, wa⟩, bl, ra, mk, si⟩ := id g.1
  obtain ⟨⟨d1, d2, d3, d4, dP, d5, d36, d20⟩, dR, dC, dN, cC, cP, cN⟩ := id d
  have dR : μ.1 143 0 = nI R := dR
  have dC : μ.1 143 1 = nI C := dC
  have dN : μ.1 143 13 = nI N := dN
  have cC : μ.1 2 0 = nI C := cC
  have cP : μ.1 2 1 = nI P := cP
  have cN : μ.1 11 1 = nI N := cN
  obtain ⟨w, hw1, hw2⟩ := cl_see μ
  have est : ∀ q, q < P → stB (μ.1 54) q = stB (fun p => μ.1 143 (100 + p)) q := by
    intro q hq
    unfold stB
    rw [show μ.1 54 q = μ.1 143 (100 + q) from (wa.1 q hq).1]
  have eb : ∀ q, q < P → pg_b w q = stB (fun p => μ.1 143 (100 + p)) q := by
    intro q hq
    rw [hw2 q (by omega), if_pos (by omega), est q hq]
  have ez : ∀ q, P ≤ q → q < 64 → pg_b w q = false := by
    intro q h1 h2
    rw [hw2 q h2]
    by_cases c : q < 36
    · rw [if_pos c]
      unfold stB
      rw [show μ.1 54 q = 0 from (wa.2.1 q h1 c).1]
      rfl
    · rw [if_neg c]
      exact si.2 q h1 h2
  have hA : (dw_sl μ 63 w).1 = μ.1 := rfl
  refine ⟨pb_sm (fun k => b2i (stB (fun p => μ.1 143 (100 + p)) k)) P, dw_sl μ 63 w, pb_c (dw_sl μ 63 w) 143 (md_sf (μ.1 143) P), ?_, ?_, ?_⟩
  · unfold fX9_see
    rw [pb_bd hw1]
    congr 2
    unfold fX2_size
    rw [pb_sl2, if_pos rfl, pg_count, ct_tail ez (by omega)]
    show _ = pb_sm (fun k => if stB (fun p => μ.1 143 (100 + p)) k then 1 else 0) P
    rw [pb_sm_ct]
    congr 1
    exact fb_ct_cong eb
  · have h := md_see (μ := dw_sl μ 63 w) (R := R) (C := C) (P := P) dR dC dP d36
    rw [hA] at h
    exact h
  · refine pl_now g ?_ (fun c h1 h2 => by rw [pb_cn _ _ _ (by omega)]; rfl) (fun c h1 h2 => by rw [pb_c2, pb_sl2, if_neg (by omega)]) (by rw [pb_cn _ _ _ (by omega)]; rfl) (by rw [pb_cn _ _ _ (by omega)]; rfl) (by rw [pb_cn _ _ _ (by omega)]; rfl)
    have mo : ∀ {i : Nat}, (i < 260 ∨ 260 + P ≤ i) → md_sf (μ.1 143) P i = μ.1 143 i := by
      intro i h
      unfold md_sf
      rw [if_neg (by omega)]
    refine ⟨R, C, P, N, hh, rl_dim_c d ?_ ?_ ?_ ?_ ?_ ?_, rl_gnd_c gn ?_ ?_ ?_ ?_, rl_soi_c so ?_ ?_ ?_ ?_ ?_ ?_ ?_ ?_, rl_dit_c di ?_ ?_, rl_hnd_c hn ?_ ?_, rl_pip_c pi ?_ ?_ ?_ ?_ ?_, rl_int_c it ?_ ?_, rl_acy_c ac ?_, ⟨by omega, rl_wat_c wa d36 d20 ?_ ?_ ?_ ?_ ?_ ?_ ?_ ?_ ?_ ?_ ?_⟩, rl_blk_c bl ?_ ?_, rl_rai_c ra ?_ ?_, rl_set_c mk ?_ ?_, ?own⟩
    case own =>
      refine ⟨fun q hq => ?_, fun q h1 h2 => ?_⟩
      · rw [pb_c2, pb_sl2, if_pos rfl, pb_c1, eb q hq]
        unfold md_sf
        rw [if_pos (by omega), show 260 + q - 260 = q by omega]
        rfl
      · rw [pb_c2, pb_sl2, if_pos rfl]
        exact ez q h1 h2
    all_goals (intros; first | rfl | (simp (disch := omega) only [pb_co, pb_c1, mo, pb_c2, pb_sl1, pb_sl2, if_neg]; done))
