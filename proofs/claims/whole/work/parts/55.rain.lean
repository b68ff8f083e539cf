def md_rf (A : Nat → Int32) (a1 a2 : Int32) (j : Nat) : Nat → Int32 := fun i => if 180 ≤ i ∧ i < 180 + j ∧ (a1 = -1 ∨ a1 = nI (i - 180)) then a2 else A i
theorem md_rain (μ : dw_M) {R C P : Nat} (e0 : μ.1 143 0 = nI R) (e1 : μ.1 143 1 = nI C) (hP : P = R * C) (h36 : P ≤ 36) (a1 a2 : Int32) : dw_wh (fun v => sX10_rain_28 a1 a2 v.1 v.2) 1000 ((0 : Int32), μ) = some (pb_c μ 143 (md_rf (μ.1 143) a1 a2 P)) := by
  refine pb_det (fun j => (nI j, pb_c μ 143 (md_rf (μ.1 143) a1 a2 j))) P ?_ ?_ ?_ (by omega)
  · show (nI 0, pb_c μ 143 (md_rf (μ.1 143) a1 a2 0)) = _
    have e : md_rf (μ.1 143) a1 a2 0 = μ.1 143 := by
      funext i
      unfold md_rf
      rw [if_neg (by omega)]
    rw [e, pb_ci]
    rfl
  · intro j hj
    show sX10_rain_28 a1 a2 (nI j) (pb_c μ 143 (md_rf (μ.1 143) a1 a2 j)) = _
    have hp : fX10_places (pb_c μ 143 (md_rf (μ.1 143) a1 a2 j)) = nI P := by
      apply pv_pl (R := R) (C := C) _ _ hP
      · rw [pb_c1]; unfold md_rf; rw [if_neg (by omega)]; exact e0
      · rw [pb_c1]; unfold md_rf; rw [if_neg (by omega)]; exact e1
    unfold sX10_rain_28
    rw [hp, if_neg (nI_ge hj (by omega)), pv_a (c := 180) (n := 180) rfl, pb_gd (pb_ok rfl (by omega) (by decide)), pb_cl rfl (by omega)]
    simp only [dw_nm]
    rw [pb_cs, pb_cs, pb_c1, nI_1]
    have key : ∀ x : Int32, ((a1 = -1 ∨ a1 = nI j) → x = a2) → (¬ (a1 = -1 ∨ a1 = nI j) → x = md_rf (μ.1 143) a1 a2 j (180 + j)) → upd (md_rf (μ.1 143) a1 a2 j) (180 + j) x = md_rf (μ.1 143) a1 a2 (j + 1) := by
      intro x h1 h2
      funext i
      unfold upd
      by_cases e : i = 180 + j
      · subst e
        rw [if_pos rfl]
        by_cases c : a1 = -1 ∨ a1 = nI j
        · rw [h1 c]
          unfold md_rf
          rw [if_pos ⟨by omega, by omega, by rw [show 180 + j - 180 = j by omega]; exact c⟩]
        · rw [h2 c]
          unfold md_rf
          rw [if_neg (by omega), if_neg (by rw [show 180 + j - 180 = j by omega]; exact fun z => c z.2.2)]
      · rw [if_neg e]
        unfold md_rf
        by_cases c : 180 ≤ i ∧ i < 180 + j ∧ (a1 = -1 ∨ a1 = nI (i - 180))
        · rw [if_pos c, if_pos ⟨c.1, by omega, c.2.2⟩]
        · rw [if_neg c, if_neg (fun z => c ⟨z.1, by omega, z.2.2⟩)]
    by_cases c1 : a1 = -1
    · rw [if_pos c1, key a2 (fun _ => rfl) (fun z => absurd (Or.inl c1) z)]
    · rw [if_neg c1]
      by_cases c2 : a1 = nI j
      · rw [if_pos c2, key a2 (fun _ => rfl) (fun z => absurd (Or.inr c2) z)]
      · rw [if_neg c2, key _ (fun z => absurd z (fun q => q.elim c1 c2)) (fun _ => rfl), pb_gd (pb_ok rfl (by omega) (by decide))]
  · show sX10_rain_28 a1 a2 (nI P) (pb_c μ 143 (md_rf (μ.1 143) a1 a2 P)) = _
    have hp : fX10_places (pb_c μ 143 (md_rf (μ.1 143) a1 a2 P)) = nI P := by
      apply pv_pl (R := R) (C := C) _ _ hP
      · rw [pb_c1]; unfold md_rf; rw [if_neg (by omega)]; exact e0
      · rw [pb_c1]; unfold md_rf; rw [if_neg (by omega)]; exact e1
    unfold sX10_rain_28
    rw [hp, if_pos (nI_le (Nat.le_refl _) (by omega))]
theorem pb_co {μ : dw_M} {i : Nat} {f : Nat → Int32} {c j : Nat} (h : c ≠ i) : (pb_c μ i f).1 c j = μ.1 c j := by rw [pb_cn _ _ _ h]
theorem md_rfo {A : Nat → Int32} {a1 a2 : Int32} {j i : Nat} (h : i < 180 ∨ 180 + j ≤ i) : md_rf A a1 a2 j i = A i := by
  unfold md_rf
  rw [if_neg (by omega)]
theorem ok_rain : pl_rain pl_G := by
  intro k μ hk g a1 a2
  obtain ⟨R, C, P, N, hh, d, gn, so, di, hn, pi, it, ac, ⟨hk5, wa⟩, bl, ra, mk, si⟩ := id g.1
  obtain ⟨⟨d1, d2, d3, d4, dP, d5, d36, d20⟩, dR, dC, dN, cC, cP, cN⟩ := id d
  have dR : μ.1 143 0 = nI R := dR
  have dC : μ.1 143 1 = nI C := dC
  have dN : μ.1 143 13 = nI N := dN
  have cC : μ.1 2 0 = nI C := cC
  have cP : μ.1 2 1 = nI P := cP
  have cN : μ.1 11 1 = nI N := cN
  -- a place, or all
  rcases (show (a1 ≠ -1 ∧ (a1 < 0 ∨ nI P ≤ a1)) ∨ (a1 = -1 ∨ ∃ p, p < P ∧ a1 = nI p) by
    by_cases c : a1 = -1
    · exact Or.inr (Or.inl c)
    · rcases pv_tri a1 (n := P) (by omega) with h | h
      · exact Or.inl ⟨c, h⟩
      · exact Or.inr (Or.inr h)) with ⟨c0, c⟩ | c
  · refine ⟨-1, μ, μ, ?_, ?_, pl_mono g⟩
    · unfold fX9_rain
      simp only [dw_jm]
      rw [if_neg c0, if_pos (pv_hp0 cP c)]
    · unfold fX10_rain
      simp only [dw_jm]
      rw [if_neg c0, if_pos (pv_ip0 dR dC dP d36 c)]
  · have key9 : fX9_rain μ a1 a2 = (if (fX9_isWithin a2 (0 : Int32) (300 : Int32)) = 0 then some ((-1 : Int32), μ) else if a1 = (-1 : Int32) then dw_bd (fX9_fill μ 61 a2) (fun μ6 => some ((1 : Int32), μ6)) else dw_gd (dw_ok a1 36) (dw_nm (dw_st μ 61 a1.toNatClampNeg a2) (fun μ4 => some ((1 : Int32), μ4)))) := by
      unfold fX9_rain
      simp only [dw_jm]
      by_cases c1 : a1 = -1
      · rw [if_pos c1]
      · rw [if_neg c1]
        obtain ⟨p, hp, rfl⟩ := c.resolve_left c1
        rw [pv_hp1 cP d36 hp, if_neg (by decide)]
    have key10 : ∀ ν : dw_M, ν.1 143 = μ.1 143 → fX10_rain ν a1 a2 = (if (fX10_in a2 (0 : Int32) (300 : Int32)) = 0 then some ((-1 : Int32), ν) else dw_bd (dw_wh (fun v => sX10_rain_28 a1 a2 v.1 v.2) 1000 ((0 : Int32), ν)) (fun μ16 => some ((1 : Int32), μ16))) := by
      intro ν e
      unfold fX10_rain
      simp only [dw_jm]
      by_cases c1 : a1 = -1
      · rw [if_pos c1]
      · rw [if_neg c1]
        obtain ⟨p, hp, rfl⟩ := c.resolve_left c1
        rw [pv_ip1 (by rw [e]; exact dR) (by rw [e]; exact dC) dP d36 hp, if_neg (by decide)]
    rcases pv_rg a2 (l := 0) (h := 300) (lo := 0) (hi := 300) rfl rfl (by decide) (by decide) with c3 | ⟨c3, x, hx1, hx2, rfl⟩
    · refine ⟨-1, μ, μ, ?_, ?_, pl_mono g⟩
      · rw [key9, pv_w, if_pos c3]
      · rw [key10 μ rfl, if_pos c3]
    · have c4 : ¬ fX10_in (nI x) 0 300 = 0 := by rw [c3]; decide
      -- the class's row of rain behind it
      obtain ⟨f, h9, hf⟩ : ∃ f : Nat → Int32, fX9_rain μ a1 (nI x) = some (1, pb_c μ 61 f) ∧ ∀ p, p < P → f p = if a1 = -1 ∨ a1 = nI p then nI x else μ.1 61 p := by
        by_cases c1 : a1 = -1
        · refine ⟨pb_fl (μ.1 61) 36 (nI x), ?_, fun p hp => ?_⟩
          · rw [key9, pv_w, if_neg c4, if_pos c1, pb_bd (pb_fill μ 61 (nI x) (by rw [dw_lc61]; decide)), dw_lc61]
          · unfold pb_fl
            rw [if_pos (by omega), if_pos (Or.inl c1)]
        · obtain ⟨q, hq, rfl⟩ := c.resolve_left c1
          refine ⟨upd (μ.1 61) q (nI x), ?_, fun p hp => ?_⟩
          · rw [key9, pv_w, if_neg c4, if_neg c1, pb_gd (pb_ok rfl (by omega) (by decide)), pb_cl rfl (by omega), pb_st]
            rfl
          · unfold upd
            by_cases e : p = q
            · subst e
              rw [if_pos rfl, if_pos (Or.inr rfl)]
            · rw [if_neg e, if_neg (fun z => z.elim c1 (fun z => e ((nI_eq (by omega) (by omega)).mp z).symm))]
      refine ⟨1, pb_c μ 61 f, pb_c (pb_c μ 61 f) 143 (md_rf (μ.1 143) a1 (nI x) P), h9, ?_, ?_⟩
      · rw [key10 _ (pb_cn _ _ _ (by decide)), if_neg c4]
        have h := md_rain (pb_c μ 61 f) (R := R) (C := C) (by rw [pb_cn _ _ _ (by decide)]; exact dR) (by rw [pb_cn _ _ _ (by decide)]; exact dC) dP d36 a1 (nI x)
        rw [pb_cn μ 61 f (c := 143) (by decide)] at h
        rw [pb_bd h]
      · refine pl_now g ?_ (fun c h1 h2 => by rw [pb_cn _ _ _ (by omega), pb_cn _ _ _ (by omega)]) (fun _ _ _ => rfl) (by rw [pb_cn _ _ _ (by omega), pb_cn _ _ _ (by omega)]) (by rw [pb_cn _ _ _ (by omega), pb_cn _ _ _ (by omega)]) (by rw [pb_cn _ _ _ (by omega), pb_cn _ _ _ (by omega)])
        refine ⟨R, C, P, N, hh, rl_dim_c d ?_ ?_ ?_ ?_ ?_ ?_, rl_gnd_c gn ?_ ?_ ?_ ?_, rl_soi_c so ?_ ?_ ?_ ?_ ?_ ?_ ?_ ?_, rl_dit_c di ?_ ?_, rl_hnd_c hn ?_ ?_, rl_pip_c pi ?_ ?_ ?_ ?_ ?_, rl_int_c it ?_ ?_, rl_acy_c ac ?_, ⟨by omega, rl_wat_c wa d36 d20 ?_ ?_ ?_ ?_ ?_ ?_ ?_ ?_ ?_ ?_ ?_⟩, rl_blk_c bl ?_ ?_, ?own, rl_set_c mk ?_ ?_, rl_set_c si ?_ ?_⟩
        case own =>
          intro q hq
          have h := ra q hq
          rw [pb_c1]
          rw [show (1 : Nat) + 60 = 61 from rfl, pb_co (by decide), pb_c1, hf q hq]
          unfold md_rf
          by_cases e : a1 = -1 ∨ a1 = nI q
          · rw [if_pos e, if_pos ⟨by omega, by omega, by rw [show 180 + q - 180 = q by omega]; exact e⟩]
            exact ⟨rfl, x, hx2, rfl⟩
          · rw [if_neg e, if_neg (by rw [show 180 + q - 180 = q by omega]; exact fun z => e z.2.2)]
            exact h
        all_goals (intros; first | rfl | (simp (disch := omega) only [pb_co, pb_c1, md_rfo, pb_c2]; done))
