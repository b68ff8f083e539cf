/-! the class's hour: passing on -/
section
variable {R C P N : Nat} {T μ : dw_M} {i : Nat}
/-- where a pipe leads, in three cases -/
theorem st_in (h : stt R C P N T) {q : Nat} (hq : q < N) : (ch_in T q < 0 ∧ a_ip T q = false ∧ a_id T q = false ∧ ch_end (ch_in T q)) ∨ (∃ d, d < 4 ∧ ch_in T q = nI (100 + d) ∧ a_ip T q = false ∧ a_id T q = true ∧ ch_end (ch_in T q)) ∨ ∃ q2, q2 < N ∧ q2 ≠ q ∧ ch_in T q = nI q2 ∧ a_ip T q = true ∧ a_id T q = false := by
  obtain ⟨hN, hP, hC1, hC6⟩ := st_20 h
  obtain ⟨d, gn, so, di, pi, it, ac, ra⟩ := h
  rcases (it q hq).2 with e | ⟨q2, hq2, e⟩ | ⟨d, hd, e⟩
  · have e : ch_in T q = -1 := e
    left
    unfold a_ip a_id
    rw [e]
    exact ⟨by decide, by decide, by decide, Or.inl rfl⟩
  · have e : ch_in T q = nI q2 := e
    right; right
    refine ⟨q2, hq2, ?_, e, ?_, ?_⟩
    · rintro rfl
      obtain ⟨rk, hrk⟩ := ac
      have := hrk q2 q2 hq hq e
      omega
    · unfold a_ip
      rw [e]
      exact decide_eq_true ⟨nI_pos (by omega), n_100 (by omega)⟩
    · unfold a_id
      rw [e]
      exact decide_eq_false (n_100 (by omega))
  · have e : ch_in T q = nI (100 + d) := e
    right; left
    refine ⟨d, hd, e, ?_, ?_, Or.inr ⟨d, hd, e⟩⟩
    · unfold a_ip
      rw [e]
      exact decide_eq_false (fun z => z.2 (nI_le (a := 100) (by omega) (by omega)))
    · unfold a_id
      rw [e]
      exact decide_eq_true (nI_le (a := 100) (by omega) (by omega))
theorem dit_1 {d : Nat} (hd : d < 4) : fX9_isDitch (nI d) = 1 := by
  rcases (by omega : d = 0 ∨ d = 1 ∨ d = 2 ∨ d = 3) with rfl | rfl | rfl | rfl <;> decide
theorem dit_0 {v : Int32} (h : v < 0) (h2 : ch_end v) : fX9_isDitch (v - 100) = 0 := by
  rcases h2 with e | ⟨d, hd, e⟩
  · rw [e]; decide
  · rw [e] at h
    exact absurd h (nI_pos (by omega))
theorem cl_pass (h : stt R C P N T) (a : ag T μ) (hi : i = 53 ∨ i = 127) {q : Nat} (hq : q < N) {bk : Nat → Bool} (hb : ∀ q, q < N → bk q = pg_b (μ.2 (i + 7)) q) {n : Nat → Nat} {g : Nat → Int32} (hB : ∀ q, q < N → n q ≤ a_ho T q) (en : ∀ q, q < N → μ.1 (i + 3) q = nI (n q)) (eg : ∀ d, d < 4 → μ.1 (i + 6) d = g d) : ∃ ν, fX0_passOn μ i (nI q) = some ν ∧ (∀ k, k < N → ν.1 (i + 3) k = nI (a_n1 T bk n q k)) ∧ (∀ k, ν.1 (i + 5) k = if k = q then nI (a_am T bk n q) else μ.1 (i + 5) k) ∧ (∀ d, d < 4 → ν.1 (i + 6) d = a_g1 T bk n g q d) ∧ (∀ c k, c ≠ i + 6 → c ≠ i + 5 → (c ≠ i + 3 ∨ N ≤ k) → ν.1 c k = μ.1 c k) ∧ ν.2 = μ.2 := by
  obtain ⟨hN, hP, hC1, hC6⟩ := st_20 h
  obtain ⟨p1, p2, p3, p4, p5⟩ := st_pi h hq
  have c5 : ∀ ν : dw_M, (∀ k, ν.1 (12 + 1 + 2 * q) k = μ.1 (12 + 1 + 2 * q) k) → ν.1 (12 + 1 + 2 * q) 5 = ch_in T q := fun ν e => by rw [e, a.1 _ _ (by omega), p5]
  have c3 : μ.1 (12 + 1 + 2 * q) 3 = nI (a_be T q) := by rw [a.1 _ _ (by omega), p3]
  have cN : μ.1 11 1 = nI N := by rw [a.1 _ _ (by omega)]; exact (st_dim h).2.2.2.2.2
  have hn := hB q hq
  have ham := (a_am_le (T := T) (bk := bk) (n := n) (q := q)).1
  have ihas : fX2_has μ (i + 7) (nI q) = b2i (bk q) := by rw [pg_has μ (i + 7) (x := nI q) rfl (by omega), ← hb q hq]; rfl
  -- the most that it takes
  have most : ∃ y, y < 1000 ∧ (bk q = false → fX0_mostInto μ i (12 + 1 + 2 * q) = some (nI y)) ∧ (bk q = false → a_am T bk n q = min y (min (a_be T q) (n q))) := by
    rcases st_in h hq with ⟨e1, e2, e3, e4⟩ | ⟨d, hd, e1, e2, e3, e4⟩ | ⟨q2, hq2, hne, e1, e2, e3⟩
    · refine ⟨0, by omega, fun _ => ?_, fun hbk => ?_⟩
      · unfold fX0_mostInto
        simp only [dw_nm, dw_jm]
        rw [c5 μ (fun _ => rfl), hq_end hN cN e4, if_pos rfl, dit_0 e1 e4, if_pos rfl]
        rfl
      · unfold a_am
        rw [hbk, if_neg (by decide), if_pos e1]
        omega
    · have hl : fX3_levelAt μ (12 + 1 + 2 * q + 1) (μ.1 (12 + 1 + 2 * q + 1) 2 - 1) = fX3_levelAt T (12 + 1 + 2 * q + 1) (T.1 (12 + 1 + 2 * q + 1) 2 - 1) := by
        unfold fX3_levelAt
        rw [a.1 _ _ (by omega), a.1 _ _ (by omega), a.1 _ _ (by omega)]
      have hdn : nI (100 + d) - 100 = nI d := by
        rw [show (100 : Int32) = nI 100 from rfl, pk_sub (by omega), show 100 + d - 100 = d by omega]
      have hnt : nt (ch_in T q) - 100 = d := by rw [e1, nt_n (by omega)]; omega
      refine ⟨if a_op T q = true then a_be T q else 0, by split <;> omega, fun _ => ?_, fun hbk => ?_⟩
      · unfold fX0_mostInto
        simp only [dw_nm, dw_jm]
        rw [c5 μ (fun _ => rfl), hq_end hN cN e4, if_pos rfl, hl, e1, hdn, dit_1 hd, if_neg (show ¬ (1 : Int32) = 0 by decide), pb_gd (pb_ok rfl hd (by decide)), pb_cl rfl (by omega), a.1 9 _ (by omega), c3]
        unfold a_op
        rw [hnt]
        by_cases c : T.1 9 d ≤ fX3_levelAt T (12 + 1 + 2 * q + 1) (T.1 (12 + 1 + 2 * q + 1) 2 - 1)
        · rw [if_pos c, if_pos (decide_eq_true c)]; rfl
        · rw [if_neg c, if_neg (by decide : ¬ (1 : Int32) = 0), decide_eq_false c]; rfl
      · unfold a_am
        have c1 : ¬ ch_in T q < 0 := by rw [e1]; exact nI_pos (by omega)
        rw [hbk, if_neg (by decide), if_neg c1, if_pos (of_decide_eq_true e3)]
        split <;> omega
    · have hn2 := hB q2 hq2
      have hho2 := (st_pi h hq2).2.1
      refine ⟨a_ho T q2 - n q2, by omega, fun _ => ?_, fun hbk => ?_⟩
      · unfold fX0_mostInto
        simp only [dw_nm, dw_jm]
        rw [c5 μ (fun _ => rfl), e1, pv_hq1 cN (by omega) hq2, if_neg (show ¬ (1 : Int32) = 0 by decide), pb_gd (pb_ok rfl (by omega) (by decide)), pb_cl rfl (by omega), en q2 hq2, a.1 _ _ (by omega), (st_pi h hq2).1, pk_sub hn2]
      · unfold a_am
        have c1 := of_decide_eq_true e2
        rw [hbk, if_neg (by decide), if_neg c1.1, if_neg c1.2, e1, nt_n (by omega)]
  obtain ⟨y, hy, m1, m2⟩ := most
  -- the rest
  have go : fX0_passOn μ i (nI q) = (if fX4_hasPipe (dw_st (dw_st μ (i + 5) q (nI (a_am T bk n q))) (i + 3) q (nI (n q - a_am T bk n q))) (ch_in T q) = 0 then (if fX9_isDitch (ch_in T q - 100) = 0 then some (dw_st (dw_st μ (i + 5) q (nI (a_am T bk n q))) (i + 3) q (nI (n q - a_am T bk n q))) else dw_gd (dw_ok (ch_in T q - 100) 4) (some (dw_st (dw_st (dw_st μ (i + 5) q (nI (a_am T bk n q))) (i + 3) q (nI (n q - a_am T bk n q))) (i + 6) (ch_in T q - 100).toNatClampNeg (μ.1 (i + 6) (ch_in T q - 100).toNatClampNeg + nI (a_am T bk n q))))) else dw_gd (dw_ok (ch_in T q) 20) (some (dw_st (dw_st (dw_st μ (i + 5) q (nI (a_am T bk n q))) (i + 3) q (nI (n q - a_am T bk n q))) (i + 3) (ch_in T q).toNatClampNeg ((dw_st (dw_st μ (i + 5) q (nI (a_am T bk n q))) (i + 3) q (nI (n q - a_am T bk n q))).1 (i + 3) (ch_in T q).toNatClampNeg + nI (a_am T bk n q))))) := by
    have hmn : ∀ z : Nat, z < 1000 → dw_mn (nI z) (dw_mn (nI (a_be T q)) (nI (n q))) = nI (min z (min (a_be T q) (n q))) := fun z hz => by rw [mn_n (by omega) (by omega), mn_n (by omega) (by omega)]
    unfold fX0_passOn
    rw [pb_gd (pb_ok rfl (by omega) (by decide)), pb_cl (x := nI q) rfl (by omega)]
    simp only [dw_jm, dw_nm]
    rw [ihas]
    cases hbk : bk q with
    | true =>
      have e0 : a_am T bk n q = min 0 (min (a_be T q) (n q)) := by
        unfold a_am
        rw [hbk, if_pos rfl]
        omega
      rw [if_neg (by decide), c3, en q hq, show (0 : Int32) = nI 0 from rfl, hmn 0 (by omega), ← e0, pb_o (c := i + 3) (by omega), en q hq, pk_sub ham, c5 _ (fun k => by rw [pb_oc (by omega), pb_oc (by omega)]), pb_o (c := i + 6) (by omega), pb_o (c := i + 6) (by omega)]
    | false =>
      rw [if_pos (by decide), pb_bd (m1 hbk), c3, en q hq, hmn y hy, ← m2 hbk, pb_o (c := i + 3) (by omega), en q hq, pk_sub ham, c5 _ (fun k => by rw [pb_oc (by omega), pb_oc (by omega)]), pb_o (c := i + 6) (by omega), pb_o (c := i + 6) (by omega)]
  rw [go]
  have e5 : (dw_st (dw_st μ (i + 5) q (nI (a_am T bk n q))) (i + 3) q (nI (n q - a_am T bk n q))).1 11 1 = nI N := by rw [pb_oc (by omega), pb_oc (by omega)]; exact cN
  rcases st_in h hq with ⟨e1, e2, e3, e4⟩ | ⟨d, hd, e1, e2, e3, e4⟩ | ⟨q2, hq2, hne, e1, e2, e3⟩
  · rw [hq_end hN e5 e4, if_pos rfl, dit_0 e1 e4, if_pos rfl]
    refine ⟨_, rfl, fun k hk => ?_, fun k => ?_, fun d hd => ?_, fun c k h1 h2 h3 => ?_, rfl⟩
    · unfold a_n1
      rw [e2, if_neg (by decide)]
      by_cases e : k = q
      · rw [e, pb_i, uN_i]
      · rw [pb_o (by omega), pb_o (by omega), uN_o e, en k hk]
    · rw [pb_o (by omega)]
      by_cases e : k = q
      · rw [e, pb_i, if_pos rfl]
      · rw [pb_o (by omega), if_neg e]
    · unfold a_g1
      rw [e3, if_neg (by decide), pb_o (by omega), pb_o (by omega), eg d hd]
    · rw [pb_o (by omega), pb_o (by omega)]
  · have hdn : nI (100 + d) - 100 = nI d := by
      rw [show (100 : Int32) = nI 100 from rfl, pk_sub (by omega), show 100 + d - 100 = d by omega]
    have hnt : nt (ch_in T q) - 100 = d := by rw [e1, nt_n (by omega)]; omega
    rw [hq_end hN e5 e4, if_pos rfl, e1, hdn, dit_1 hd, if_neg (show ¬ (1 : Int32) = 0 by decide), pb_gd (pb_ok rfl hd (by decide)), pb_cl rfl (by omega)]
    refine ⟨_, rfl, fun k hk => ?_, fun k => ?_, fun d' hd' => ?_, fun c k h1 h2 h3 => ?_, rfl⟩
    · unfold a_n1
      rw [e2, if_neg (by decide), pb_o (by omega)]
      by_cases e : k = q
      · rw [e, pb_i, uN_i]
      · rw [pb_o (by omega), pb_o (by omega), uN_o e, en k hk]
    · rw [pb_o (by omega), pb_o (by omega)]
      by_cases e : k = q
      · rw [e, pb_i, if_pos rfl]
      · rw [pb_o (by omega), if_neg e]
    · unfold a_g1
      rw [e3, if_pos rfl, hnt]
      by_cases e : d' = d
      · rw [e, pb_i, pk_us, eg d hd]
      · rw [pb_o (by omega), pb_o (by omega), pb_o (by omega), pk_un e, eg d' hd']
    · rw [pb_o (by omega), pb_o (by omega), pb_o (by omega)]
  · have hnt : nt (ch_in T q) = q2 := by rw [e1, nt_n (by omega)]
    rw [e1, pv_hq1 e5 (by omega) hq2, if_neg (show ¬ (1 : Int32) = 0 by decide), pb_gd (pb_ok rfl (by omega) (by decide)), pb_cl rfl (by omega), pb_o (c := i + 3) (j := q2) (by omega), pb_o (c := i + 3) (j := q2) (by omega), en q2 hq2, nI_add]
    refine ⟨_, rfl, fun k hk => ?_, fun k => ?_, fun d' hd' => ?_, fun c k h1 h2 h3 => ?_, rfl⟩
    · unfold a_n1
      rw [e2, if_pos rfl, hnt]
      by_cases e' : k = q2
      · rw [e', pb_i, uN_i]
      · rw [pb_o (by omega), uN_o e']
        by_cases e : k = q
        · rw [e, pb_i, uN_i]
        · rw [pb_o (by omega), pb_o (by omega), uN_o e, en k hk]
    · rw [pb_o (by omega), pb_o (by omega)]
      by_cases e : k = q
      · rw [e, pb_i, if_pos rfl]
      · rw [pb_o (by omega), if_neg e]
    · unfold a_g1
      rw [e3, if_neg (by decide), pb_o (by omega), pb_o (by omega), pb_o (by omega), eg d' hd']
    · rw [pb_o (by omega), pb_o (by omega), pb_o (by omega)]
end
