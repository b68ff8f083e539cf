/-! the reference's hour: passing on -/
theorem sm_upd {g : Nat → Int32} {d : Nat} {v : Int32} : ∀ {n : Nat}, d < n → pb_sm (upd g d (g d + v)) n = pb_sm g n + v
  | 0, h => absurd h (by omega)
  | n + 1, h => by
    show pb_sm (upd g d (g d + v)) n + upd g d (g d + v) n = pb_sm g n + g n + v
    by_cases e : n = d
    · subst e
      rw [pk_us, pb_sm_cong (f := upd g n (g n + v)) (g := g) (fun k hk => pk_un (by omega)), Int32.add_assoc]
    · rw [pk_un e, sm_upd (by omega), Int32.add_assoc, Int32.add_assoc, Int32.add_comm v]
section
variable {R C P N : Nat} {T μ : dw_M}
theorem md_pass (h : stt R C P N T) (a : ag T μ) {q : Nat} (hq : q < N) {bk : Nat → Bool} (hb : ∀ q, q < N → μ.1 143 (400 + 20 * q + 8) = b2i (bk q)) {n : Nat → Nat} {g : Nat → Int32} (hB : ∀ q, q < N → n q ≤ a_ho T q) (en : ∀ q, q < N → μ.1 143 (400 + 20 * q + 9) = nI (n q)) (eg : ∀ d, d < 4 → μ.1 143 (9 + d) = g d) : ∃ ν x, fX10_pass μ (nI q) = some (x, ν) ∧ (∀ k, k < N → ν.1 143 (400 + 20 * k + 9) = nI (a_n1 T bk n q k)) ∧ (∀ k, k < N → ν.1 143 (400 + 20 * k + 10) = if k = q then nI (a_am T bk n q) else μ.1 143 (400 + 20 * k + 10)) ∧ (∀ d, d < 4 → ν.1 143 (9 + d) = a_g1 T bk n g q d) ∧ pb_sm (a_g1 T bk n g q) 4 = pb_sm g 4 + x ∧ (∀ c j, (c ≠ 143 ∨ ((j < 9 ∨ 13 ≤ j) ∧ (j < 400 ∨ ((j - 400) % 20 ≠ 9 ∧ (j - 400) % 20 ≠ 10)))) → ν.1 c j = μ.1 c j) ∧ ν.2 = μ.2 := by
  obtain ⟨hN, hP, hC1, hC6⟩ := st_20 h
  obtain ⟨p1, p2, p3, p4, p5⟩ := st_pi h hq
  have hn := hB q hq
  have ham := (a_am_le (T := T) (bk := bk) (n := n) (q := q)).1
  obtain ⟨m5, hm5⟩ : ∃ m5, m5 = dw_st μ 143 (400 + 20 * q + 10) 0 := ⟨_, rfl⟩
  have m5o : ∀ c j, (c ≠ 143 ∨ j ≠ 400 + 20 * q + 10) → m5.1 c j = μ.1 c j := fun c j hc => by rw [hm5, pb_o hc]
  have m52 : m5.2 = μ.2 := by rw [hm5]; rfl
  have m5i : m5.1 143 (400 + 20 * q + 10) = 0 := by rw [hm5, pb_i]
  have a5 : ag T m5 := ⟨fun c k hc => by rw [m5o _ _ (by omega)]; exact a.1 c k hc, fun j hj hm => by
    have hm' := hm
    unfold msl at hm'
    rw [m5o _ _ (by omega)]
    exact a.2 j hj hm⟩
  have hs5 := stt_ag h a5
  have sp5 : fX10_setPipe μ (nI q) 10 0 = some m5 := by rw [hm5]; exact md_sp μ (q := q) (w := 10) (x := nI q) (y := 10) rfl rfl (by omega) (by decide)
  have e8 : m5.1 143 (400 + 20 * q + 8) = b2i (bk q) := by rw [m5o _ _ (by omega)]; exact hb q hq
  have e9 : ∀ k, k < N → m5.1 143 (400 + 20 * k + 9) = nI (n k) := fun k hk => by rw [m5o _ _ (by omega)]; exact en k hk
  have ebe : fX10_bears m5 (nI q) = some (nI (a_be T q)) := by rw [md_bears (hs5.2.2.2.2.1 q hq) (by omega), a5.1 _ _ (by omega), p3]
  -- nothing goes
  have none_goes : a_am T bk n q = 0 → (∀ k, k < N → m5.1 143 (400 + 20 * k + 9) = nI (a_n1 T bk n q k)) ∧ (∀ k, k < N → m5.1 143 (400 + 20 * k + 10) = if k = q then nI (a_am T bk n q) else μ.1 143 (400 + 20 * k + 10)) ∧ (∀ d, d < 4 → m5.1 143 (9 + d) = a_g1 T bk n g q d) ∧ pb_sm (a_g1 T bk n g q) 4 = pb_sm g 4 + 0 ∧ (∀ c j, (c ≠ 143 ∨ ((j < 9 ∨ 13 ≤ j) ∧ (j < 400 ∨ ((j - 400) % 20 ≠ 9 ∧ (j - 400) % 20 ≠ 10)))) → m5.1 c j = μ.1 c j) ∧ m5.2 = μ.2 := by
    intro z
    have hn1 : ∀ k, a_n1 T bk n q k = n k := by
      intro k
      unfold a_n1
      rw [z, Nat.sub_zero, Nat.add_zero]
      split
      · by_cases e : k = nt (ch_in T q)
        · rw [e, uN_i]
        · rw [uN_o e]
          by_cases e2 : k = q
          · rw [e2, uN_i]
          · rw [uN_o e2]
      · by_cases e2 : k = q
        · rw [e2, uN_i]
        · rw [uN_o e2]
    have hg1 : a_g1 T bk n g q = g := by
      unfold a_g1
      rw [z]
      split
      · rw [show nI 0 = (0 : Int32) from rfl, Int32.add_zero]
        exact fa_upd_same rfl
      · rfl
    refine ⟨fun k hk => by rw [hn1 k]; exact e9 k hk, fun k hk => ?_, fun d hd => by rw [hg1, m5o _ _ (by omega)]; exact eg d hd, by rw [hg1, Int32.add_zero], fun c j hc => m5o c j (by omega), m52⟩
    by_cases e : k = q
    · rw [e, m5i, if_pos rfl, z]
      rfl
    · rw [if_neg e]
      exact m5o _ _ (by omega)
  have lt100 : ∀ y, y < 100 → nI y < 100 := fun y hy => nI_lt (b := 100) hy (by decide)
  have lvl : ∀ y : Int32, fX10_levelAt μ (nI q) y = some (T.1 (12 + 1 + 2 * q + 1) 3 - y * T.1 (12 + 1 + 2 * q + 1) 4) := fun y => by
    obtain ⟨-, -, -, -, -, l0, l1, l2, l3, l4, -⟩ := pp_f (h.2.2.2.2.1 q hq)
    rw [md_lvl (by omega), a.2 _ (by omega) (msl_p (by omega) (by omega)), a.2 _ (by omega) (msl_p (by omega) (by omega)), l3, l4]
  have stp : μ.1 143 (400 + 20 * q + 11) = T.1 (12 + 1 + 2 * q + 1) 2 := by
    obtain ⟨-, -, -, -, -, l0, l1, l2, l3, l4, -⟩ := pp_f (h.2.2.2.2.1 q hq)
    rw [a.2 _ (by omega) (msl_p (by omega) (by omega)), l2]
  have ei : μ.1 143 (400 + 20 * q + 7) = ch_in T q := ag_in a (by omega)
  rcases st_in h hq with ⟨e1, e2, e3, e4⟩ | ⟨d, hd, e1, e2, e3, e4⟩ | ⟨q2, hq2, hne, e1, e2, e3⟩
  · -- into nothing
    have z : a_am T bk n q = 0 := by
      unfold a_am
      by_cases c : bk q = true
      · rw [if_pos c]
      · rw [if_neg c, if_pos e1]
    refine ⟨m5, 0, ?_, none_goes z⟩
    have l100 : ch_in T q < 100 := by
      rw [fa_lt] at e1 ⊢
      have : (0 : Int32).toInt = 0 := rfl
      have : (100 : Int32).toInt = 100 := rfl
      omega
    unfold fX10_pass
    rw [pb_bd (md_p7 μ (by omega)), ei]
    simp only [dw_jm, dw_nm]
    rw [if_pos l100, pb_bd sp5, pb_bd (md_p8 m5 (by omega)), e8, if_pos e1]
    cases bk q <;> rfl
  · -- into a ditch
    have hdn : ∀ y : Nat, nI y + nI (100 + d) - 100 = nI (y + d) := fun y => by
      rw [nI_add, show (100 : Int32) = nI 100 from rfl, pk_sub (by omega), show y + (100 + d) - 100 = y + d by omega]
    have hnt : nt (ch_in T q) - 100 = d := by rw [e1, nt_n (by omega)]; omega
    have hdit : μ.1 143 (320 + d) = T.1 9 d := by
      rw [a.2 _ (by omega) (msl_l (by omega) (by omega) (by omega))]
      exact (h.2.2.2.1 d hd).symm
    have hop : a_op T q = decide (T.1 9 d ≤ T.1 (12 + 1 + 2 * q + 1) 3 - (T.1 (12 + 1 + 2 * q + 1) 2 - 1) * T.1 (12 + 1 + 2 * q + 1) 4) := by
      unfold a_op
      rw [hnt]
      rfl
    have c0 : ¬ ch_in T q < 0 := by rw [e1]; exact nI_pos (by omega)
    have head : ∀ K : Int32 → Option (Int32 × dw_M), dw_jm K (fun k49 => dw_jm (k49 (0 : Int32)) (fun k48 => if ch_in T q < (100 : Int32) then k48 else dw_gd (dw_ok (((320 : Int32) + ch_in T q) - (100 : Int32)) 800) (dw_bd (fX10_pipeOf μ (nI q) (11 : Int32)) (fun r40 => dw_bd (fX10_levelAt μ (nI q) (r40 - (1 : Int32))) (fun r42 => if (μ.1 143 (((320 : Int32) + ch_in T q) - (100 : Int32)).toNatClampNeg) ≤ r42 then k48 else k49 (1 : Int32)))))) = K (b2i (!a_op T q)) := by
      intro K
      show (if ch_in T q < 100 then K 0 else dw_gd (dw_ok ((320 + ch_in T q) - 100) 800) (dw_bd (fX10_pipeOf μ (nI q) 11) (fun r40 => dw_bd (fX10_levelAt μ (nI q) (r40 - 1)) (fun r42 => if μ.1 143 ((320 + ch_in T q) - 100).toNatClampNeg ≤ r42 then K 0 else K 1)))) = _
      rw [e1, if_neg (show ¬ nI (100 + d) < 100 from nI_nlt (b := 100) (by omega) (by omega)), show (320 : Int32) = nI 320 from rfl, hdn 320, pb_gd (pb_ok rfl (by omega) (by decide)), pb_cl rfl (by omega), pb_bd (md_p11 μ (by omega)), stp, pb_bd (lvl _), hdit, hop]
      by_cases c : T.1 9 d ≤ T.1 (12 + 1 + 2 * q + 1) 3 - (T.1 (12 + 1 + 2 * q + 1) 2 - 1) * T.1 (12 + 1 + 2 * q + 1) 4
      · rw [if_pos c, decide_eq_true c]; rfl
      · rw [if_neg c, decide_eq_false c]; rfl
    by_cases cz : bk q = false ∧ a_op T q = true
    · obtain ⟨cb, co⟩ := cz
      have eam : a_am T bk n q = min (a_be T q) (n q) := by
        unfold a_am
        rw [cb, if_neg (by decide), if_neg c0, if_pos (of_decide_eq_true e3), co, if_pos rfl]
      refine ⟨dw_st (dw_st (dw_st m5 143 (9 + d) (g d + nI (a_am T bk n q))) 143 (400 + 20 * q + 9) (nI (n q - a_am T bk n q))) 143 (400 + 20 * q + 10) (nI (a_am T bk n q)), nI (a_am T bk n q), ?_, fun k hk => ?_, fun k hk => ?_, fun k hk => ?_, ?_, fun c j hc => ?_, m52⟩
      · unfold fX10_pass
        rw [pb_bd (md_p7 μ (by omega)), ei]
        refine (head _).trans ?_
        simp only [dw_jm, dw_nm]
        rw [pb_bd sp5, pb_bd (md_p8 m5 (by omega)), e8, cb, co, if_neg (by decide), if_neg c0, if_pos (by decide), pb_bd (md_p9 m5 (by omega)), e9 q hq, pb_bd ebe, ls_n (by omega) (by omega), Nat.min_comm, ← eam, if_pos (of_decide_eq_true e3), e1, show (9 : Int32) + nI (100 + d) - 100 = nI (9 + d) from hdn 9, pb_gd (pb_ok rfl (by omega) (by decide)), pb_cl (x := nI (9 + d)) rfl (by omega), m5o 143 (9 + d) (by omega), eg d hd, pb_bd (md_p9 _ (by omega)), pb_o (by omega), e9 q hq, pk_sub ham, pb_bd (md_sp _ (q := q) (w := 9) (x := nI q) (y := 9) rfl rfl (by omega) (by decide)), pb_bd (md_sp _ (q := q) (w := 10) (x := nI q) (y := 10) rfl rfl (by omega) (by decide)), if_pos (show (100 : Int32) ≤ nI (100 + d) from nI_le (a := 100) (by omega) (by omega))]
      · rw [pb_o (by omega)]
        unfold a_n1
        rw [e2, if_neg (by decide)]
        by_cases e : k = q
        · rw [e, pb_i, uN_i]
        · rw [pb_o (by omega), pb_o (by omega), uN_o e, e9 k hk]
      · by_cases e : k = q
        · rw [e, pb_i, if_pos rfl]
        · rw [pb_o (by omega), pb_o (by omega), pb_o (by omega), if_neg e, m5o _ _ (by omega)]
      · rw [pb_o (by omega), pb_o (by omega)]
        unfold a_g1
        rw [e3, if_pos rfl, hnt]
        by_cases e : k = d
        · rw [e, pb_i, pk_us]
        · rw [pb_o (by omega), pk_un e, m5o _ _ (by omega), eg k hk]
      · unfold a_g1
        rw [e3, if_pos rfl, hnt]
        exact sm_upd hd
      · rw [pb_o (by omega), pb_o (by omega), pb_o (by omega), m5o _ _ (by omega)]
    · have z : a_am T bk n q = 0 := by
        unfold a_am
        by_cases c : bk q = true
        · rw [if_pos c]
        · have cb : bk q = false := by simpa using c
          rw [if_neg c, if_neg c0, if_pos (of_decide_eq_true e3), if_neg (fun co => cz ⟨cb, co⟩)]
      refine ⟨m5, 0, ?_, none_goes z⟩
      unfold fX10_pass
      rw [pb_bd (md_p7 μ (by omega)), ei]
      refine (head _).trans ?_
      simp only [dw_jm, dw_nm]
      rw [pb_bd sp5, pb_bd (md_p8 m5 (by omega)), e8]
      cases cb : bk q with
      | true => rw [if_pos (by decide)]
      | false =>
        have co : a_op T q = false := by
          cases co : a_op T q with
          | false => rfl
          | true => exact absurd ⟨cb, co⟩ cz
        rw [co, if_neg (by decide), if_neg c0, if_neg (by decide)]
  · -- into a pipe
    have hnt : nt (ch_in T q) = q2 := by rw [e1, nt_n (by omega)]
    have c0 : ¬ ch_in T q < 0 := by rw [e1]; exact nI_pos (by omega)
    have c1 : ¬ (100 : Int32) ≤ ch_in T q := by rw [e1]; exact n_100 (by omega)
    have hn2 := hB q2 hq2
    obtain ⟨r1, r2, -⟩ := st_pi h hq2
    have eho : fX10_holds m5 (nI q2) = some (nI (a_ho T q2)) := by rw [md_holds (hs5.2.2.2.2.1 q2 hq2) (by omega), a5.1 _ _ (by omega), r1]
    by_cases cb : bk q = true
    · have z : a_am T bk n q = 0 := by
        unfold a_am
        rw [if_pos cb]
      refine ⟨m5, 0, ?_, none_goes z⟩
      unfold fX10_pass
      rw [pb_bd (md_p7 μ (by omega)), ei]
      simp only [dw_jm, dw_nm]
      rw [if_pos (by rw [e1]; exact lt100 q2 (by omega)), pb_bd sp5, pb_bd (md_p8 m5 (by omega)), e8, cb, if_pos (by decide)]
    · have cb : bk q = false := by simpa using cb
      have eam : a_am T bk n q = min (min (n q) (a_be T q)) (a_ho T q2 - n q2) := by
        unfold a_am
        rw [cb, if_neg (by decide), if_neg c0, if_neg c1, hnt]
        omega
      have ga : a_g1 T bk n g q = g := by
        unfold a_g1
        rw [e3, if_neg (by decide)]
      refine ⟨dw_st (dw_st (dw_st m5 143 (400 + 20 * q2 + 9) (nI (n q2 + a_am T bk n q))) 143 (400 + 20 * q + 9) (nI (n q - a_am T bk n q))) 143 (400 + 20 * q + 10) (nI (a_am T bk n q)), 0, ?_, fun k hk => ?_, fun k hk => ?_, fun k hk => ?_, ?_, fun c j hc => ?_, m52⟩
      · unfold fX10_pass
        rw [pb_bd (md_p7 μ (by omega)), ei]
        simp only [dw_jm, dw_nm]
        rw [if_pos (by rw [e1]; exact lt100 q2 (by omega)), pb_bd sp5, pb_bd (md_p8 m5 (by omega)), e8, cb, if_neg (by decide), if_neg c0, if_pos True.intro, pb_bd (md_p9 m5 (by omega)), e9 q hq, pb_bd ebe, if_neg c1, e1, pb_bd eho, pb_bd (md_p9 m5 (by omega)), e9 q2 hq2, pk_sub hn2, ls_n (by omega) (by omega), ls_n (by omega) (by omega), ← eam, pb_bd (md_p9 m5 (by omega)), e9 q2 hq2, nI_add, pb_bd (md_sp m5 (q := q2) (w := 9) (x := nI q2) (y := 9) rfl rfl (by omega) (by decide)), pb_bd (md_p9 _ (by omega)), pb_o (c := 143) (j := 400 + 20 * q + 9) (by omega), e9 q hq, pk_sub ham, pb_bd (md_sp _ (q := q) (w := 9) (x := nI q) (y := 9) rfl rfl (by omega) (by decide)), pb_bd (md_sp _ (q := q) (w := 10) (x := nI q) (y := 10) rfl rfl (by omega) (by decide)), if_neg (n_100 (by omega))]
      · rw [pb_o (by omega)]
        unfold a_n1
        rw [e2, if_pos rfl, hnt]
        by_cases e : k = q
        · rw [e, pb_i, uN_o (by omega), uN_i]
        · by_cases e' : k = q2
          · rw [e', pb_o (by omega), pb_i, uN_i]
          · rw [pb_o (by omega), pb_o (by omega), uN_o e', uN_o e, e9 k hk]
      · by_cases e : k = q
        · rw [e, pb_i, if_pos rfl]
        · rw [pb_o (by omega), pb_o (by omega), pb_o (by omega), if_neg e, m5o _ _ (by omega)]
      · rw [pb_o (by omega), pb_o (by omega), pb_o (by omega), m5o _ _ (by omega), ga, eg k hk]
      · rw [ga, Int32.add_zero]
      · rw [pb_o (by omega), pb_o (by omega), pb_o (by omega), m5o _ _ (by omega)]
end
