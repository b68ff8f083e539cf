def pb_F (μ : dw_M) (i n : Nat) (v : Int32) : dw_M := pb_c μ i (pb_fl (μ.1 i) n v)
theorem pb_F_r (μ : dw_M) (i n : Nat) (v : Int32) (c j : Nat) : (pb_F μ i n v).1 c j = if c = i ∧ j < n then v else μ.1 c j := by
  unfold pb_F
  rw [pb_cr]
  unfold pb_fl
  by_cases h : c = i
  · subst h
    by_cases h2 : j < n <;> simp [h2]
  · simp [h]
theorem pb_F_o {μ : dw_M} {i n : Nat} {v : Int32} {c : Nat} (h : c ≠ i) : (pb_F μ i n v).1 c = μ.1 c := pb_cn _ _ _ h
theorem pb_F_2 (μ : dw_M) (i n : Nat) (v : Int32) : (pb_F μ i n v).2 = μ.2 := rfl
theorem pb_fil (μ : dw_M) (i : Nat) (v : Int32) {n : Nat} (hi : dw_ln i = n) (hn : n < 900) : fX9_fill μ i v = some (pb_F μ i n v) := by
  rw [pb_fill μ i v (by omega), hi]
  rfl
def cl_ld (μ : dw_M) (a1 a2 : Int32) : dw_M := dw_sl (dw_sl (pb_F (dw_st (dw_st (dw_sl (pb_F (pb_F (pb_F (pb_F (pb_F (pb_F (dw_st (dw_st (dw_st (dw_st (dw_st (dw_st (pb_F (pb_F (dw_st (dw_st (μ) 2 0 a2) 2 1 (a1 * a2)) 3 36 1000) 4 36 0) 10 0 0) 10 1 0) 10 2 0) 10 3 0) 10 4 0) 11 1 0) 54 36 0) 55 36 0) 56 20 0) 57 20 0) 58 20 0) 59 4 0) 60 0) 53 7 0) 53 8 0) 61 36 0) 62 0) 63 0
theorem cl_land (μ : dw_M) {a1 a2 : Int32} (c1 : ¬ fX9_isWithin a1 1 6 = 0) (c2 : ¬ fX9_isWithin a2 1 6 = 0) : fX9_land μ a1 a2 = some (a1 * a2, cl_ld μ a1 a2) := by
  have e : (cl_ld μ a1 a2).1 2 1 = a1 * a2 := by simp [cl_ld, pb_sl1, pb_F_r, pb_rd]
  rw [← e]
  unfold fX9_land fX1_renew fX8_clear
  rw [if_neg c1, if_neg c2]
  simp only [dw_nm, fX3_clear, fX3_set, fX2_clear]
  simp only [pb_fil _ 3 _ dw_lc3 (by decide), pb_fil _ 4 _ dw_lc4 (by decide), pb_fil _ 54 _ dw_lc54 (by decide), pb_fil _ 55 _ dw_lc55 (by decide), pb_fil _ 56 _ dw_lc56 (by decide), pb_fil _ 57 _ dw_lc57 (by decide), pb_fil _ 58 _ dw_lc58 (by decide), pb_fil _ 59 _ dw_lc59 (by decide), pb_fil _ 61 _ dw_lc61 (by decide), dw_bd]
  rfl
def md_l1 (A : Nat → Int32) (k : Nat) : Nat → Int32 := fun i => if i < k ∧ (i < 300 ∨ 400 ≤ i) then 0 else A i
theorem md_l1s (A : Nat → Int32) (k : Nat) : upd (md_l1 A k) k (if k < 300 ∨ 400 ≤ k then 0 else A k) = md_l1 A (k + 1) := by
  funext i
  unfold upd md_l1
  by_cases e : i = k
  · subst e
    simp
  · by_cases c : i < 300 ∨ 400 ≤ i
    · by_cases c2 : i < k
      · simp [e, c, c2, show i < k + 1 by omega]
      · simp [e, c, c2, show ¬ i < k + 1 by omega]
    · simp [e, c]
theorem md_l1_loop (μ : dw_M) : dw_wh (fun v => sX10_land_24 v.1 v.2) 1000 ((0 : Int32), μ) = some (pb_c μ 143 (md_l1 (μ.1 143) 800)) := by
  refine pb_det (fun j => (nI j, pb_c μ 143 (md_l1 (μ.1 143) j))) 800 ?_ ?_ ?_ (by omega)
  · show (nI 0, pb_c μ 143 (md_l1 (μ.1 143) 0)) = _
    have e : md_l1 (μ.1 143) 0 = μ.1 143 := by
      funext i
      unfold md_l1
      rw [if_neg (by omega)]
    rw [e, pb_ci]
    rfl
  · intro j hj
    show sX10_land_24 (nI j) (pb_c μ 143 (md_l1 (μ.1 143) j)) = _
    unfold sX10_land_24
    rw [show (800 : Int32) = nI 800 from rfl, if_neg (nI_ge hj (by omega)), pb_cl rfl (by omega), show (300 : Int32) = nI 300 from rfl, show (400 : Int32) = nI 400 from rfl, pb_gd (pb_ok rfl (by omega) (by decide))]
    simp only [dw_nm, pb_cs, pb_c1, nI_1]
    have e := md_l1s (μ.1 143) j
    by_cases c : j < 300
    · rw [if_pos (nI_lt c (by omega))]
      rw [if_pos (Or.inl c)] at e
      rw [e]
    · rw [if_neg (nI_nlt (by omega) (by omega))]
      by_cases c2 : 400 ≤ j
      · rw [if_pos (nI_le c2 (by omega))]
        rw [if_pos (Or.inr c2)] at e
        rw [e]
      · rw [if_neg (nI_ge (by omega) (by omega))]
        rw [if_neg (by omega)] at e
        have e2 : md_l1 (μ.1 143) j j = μ.1 143 j := by
          unfold md_l1
          rw [if_neg (by omega)]
        rw [e2, e, pb_gd (pb_ok rfl (by omega) (by decide))]
  · show sX10_land_24 (nI 800) _ = _
    unfold sX10_land_24
    rw [show (800 : Int32) = nI 800 from rfl, if_pos (nI_le (Nat.le_refl _) (by omega))]
def md_l2 (A : Nat → Int32) (k : Nat) : Nat → Int32 := fun i => if 20 ≤ i ∧ i < 20 + k then 1000 else A i
theorem md_l2_loop (μ : dw_M) : dw_wh (fun v => sX10_land_83 v.1 v.2) 1000 ((0 : Int32), μ) = some (pb_c μ 143 (md_l2 (μ.1 143) 36)) := by
  refine pb_det (fun j => (nI j, pb_c μ 143 (md_l2 (μ.1 143) j))) 36 ?_ ?_ ?_ (by omega)
  · show (nI 0, pb_c μ 143 (md_l2 (μ.1 143) 0)) = _
    have e : md_l2 (μ.1 143) 0 = μ.1 143 := by
      funext i
      unfold md_l2
      rw [if_neg (by omega)]
    rw [e, pb_ci]
    rfl
  · intro j hj
    show sX10_land_83 (nI j) (pb_c μ 143 (md_l2 (μ.1 143) j)) = _
    unfold sX10_land_83
    rw [show (36 : Int32) = nI 36 from rfl, if_neg (nI_ge hj (by omega)), pv_a (c := 20) (n := 20) rfl, pb_gd (pb_ok rfl (by omega) (by decide)), pb_cl rfl (by omega)]
    simp only [dw_nm, pb_cs, nI_1]
    have e : upd (md_l2 (μ.1 143) j) (20 + j) 1000 = md_l2 (μ.1 143) (j + 1) := by
      funext i
      unfold upd md_l2
      by_cases e : i = 20 + j
      · subst e
        rw [if_pos rfl, if_pos (by omega)]
      · rw [if_neg e]
        by_cases c : 20 ≤ i ∧ i < 20 + j
        · rw [if_pos c, if_pos (by omega)]
        · rw [if_neg c, if_neg (by omega)]
    rw [e]
  · show sX10_land_83 (nI 36) _ = _
    unfold sX10_land_83
    rw [show (36 : Int32) = nI 36 from rfl, if_pos (nI_le (Nat.le_refl _) (by omega))]
def md_ld (A : Nat → Int32) (a1 a2 : Int32) : Nat → Int32 := md_l2 (upd (upd (md_l1 A 800) 0 a1) 1 a2) 36
theorem md_land (μ : dw_M) {a1 a2 : Int32} (c1 : ¬ fX10_in a1 1 6 = 0) (c2 : ¬ fX10_in a2 1 6 = 0) : fX10_land μ a1 a2 = some (a1 * a2, pb_c μ 143 (md_ld (μ.1 143) a1 a2)) := by
  unfold fX10_land
  rw [if_neg c1, if_neg c2, pb_bd (md_l1_loop μ)]
  simp only [dw_nm, pv_c0, pv_c1, pb_cs]
  rw [pb_bd (md_l2_loop _), pb_c1, pb_cc]
  rfl
theorem pg_b0 (q : Nat) : pg_b 0 q = false := by
  unfold pg_b
  simp
theorem ok_land : pl_land pl_G := by
  intro k μ hk g a1 a2
  obtain ⟨R, C, P, N, hh, d, gn, so, di, hn, pi, it, ac, ⟨hk5, wa⟩, bl, ra, mk, si⟩ := id g.1
  rcases pv_rg a1 (l := 1) (h := 6) (lo := 1) (hi := 6) rfl rfl (by decide) (by decide) with c | ⟨c, x, hx1, hx2, rfl⟩
  · refine ⟨-1, μ, μ, ?_, ?_, pl_mono g⟩
    · unfold fX9_land
      rw [pv_w, if_pos c]
    · unfold fX10_land
      rw [if_pos c]
  have n1 : ¬ fX10_in (nI x) 1 6 = 0 := by rw [c]; decide
  rcases pv_rg a2 (l := 1) (h := 6) (lo := 1) (hi := 6) rfl rfl (by decide) (by decide) with c2 | ⟨c2, y, hy1, hy2, rfl⟩
  · refine ⟨-1, μ, μ, ?_, ?_, pl_mono g⟩
    · unfold fX9_land
      rw [pv_w, if_neg n1, pv_w, if_pos c2]
    · unfold fX10_land
      rw [if_neg n1, if_pos c2]
  have n2 : ¬ fX10_in (nI y) 1 6 = 0 := by rw [c2]; decide
  refine ⟨_, _, _, cl_land μ n1 n2, md_land _ n1 n2, ?_⟩
  have eA : ∀ j, (cl_ld μ (nI x) (nI y)).1 143 j = μ.1 143 j := by
    intro j
    simp [cl_ld, pb_sl1, pb_F_r, pb_rd]
  have eA' : (cl_ld μ (nI x) (nI y)).1 143 = μ.1 143 := funext eA
  rw [eA']
  generalize hF : md_ld (μ.1 143) (nI x) (nI y) = F
  have F0 : F 0 = nI x := by subst hF; simp [md_ld, md_l2, upd]
  have F1 : F 1 = nI y := by subst hF; simp [md_ld, md_l2, upd]
  have FH : ∀ j, 20 ≤ j → j < 56 → F j = 1000 := by
    intro j h1 h2
    subst hF
    unfold md_ld md_l2
    rw [if_pos (by omega)]
  have FS : ∀ j, 300 ≤ j → j < 400 → F j = μ.1 143 j := by
    intro j h1 h2
    subst hF
    unfold md_ld md_l2 upd md_l1
    rw [if_neg (by omega), if_neg (by omega), if_neg (by omega), if_neg (by omega)]
  have FZ : ∀ j, 2 ≤ j → (j < 20 ∨ 56 ≤ j) → (j < 300 ∨ 400 ≤ j) → j < 800 → F j = 0 := by
    intro j h1 h2 h3 h4
    subst hF
    unfold md_ld md_l2 upd md_l1
    rw [if_neg (by omega), if_neg (by omega), if_neg (by omega), if_pos (by omega)]
  clear hF
  have hP : 1 ≤ x * y ∧ x * y ≤ 36 := ⟨Nat.mul_le_mul hx1 hy1, Nat.mul_le_mul hx2 hy2⟩
  refine pl_now g ?_ (fun c h1 h2 => ?_) (fun c h1 h2 => ?_) ?_ ?_ ?_
  · refine ⟨x, y, x * y, 0, 0, ⟨⟨hx1, hx2, hy1, hy2, rfl, hP.1, hP.2, by omega⟩, ?_, ?_, ?_, ?_, ?_, ?_⟩, ?_, rl_soi_c so ?_ ?_ ?_ ?_ ?_ ?_ ?_ ?_, rl_dit_c di ?_ ?_, ⟨?_, Or.inl ?_⟩, fun p hp => absurd hp (by omega), fun p hp => absurd hp (by omega), ⟨fun _ => 0, fun p q hp => absurd hp (by omega)⟩, ⟨by omega, ?_, ?_, fun q hq => absurd hq (by omega), ?_, ?_, ?_, ?_, ?_⟩, ⟨fun p hp => absurd hp (by omega), ?_⟩, ?_, ⟨?_, ?_⟩, ⟨?_, ?_⟩⟩
    · rw [pb_c1]; exact F0
    · rw [pb_c1]; exact F1
    · rw [pb_c1]; exact FZ 13 (by omega) (by omega) (by omega) (by omega)
    · rw [pb_co (by decide)]; simp [cl_ld, pb_sl1, pb_F_r, pb_rd]
    · rw [pb_co (by decide), ← pk_mul]; simp [cl_ld, pb_sl1, pb_F_r, pb_rd]
    · rw [pb_co (by decide)]; simp [cl_ld, pb_sl1, pb_F_r, pb_rd]; rfl
    · intro p hp
      have hp36 : p < 36 := by omega
      rw [pb_c1, pb_co (by decide), pb_co (by decide), FH (20 + p) (by omega) (by omega), FZ (60 + p) (by omega) (by omega) (by omega) (by omega)]
      exact ⟨by simp [cl_ld, pb_sl1, pb_F_r, pb_rd, hp36], by simp [cl_ld, pb_sl1, pb_F_r, pb_rd, hp36], ⟨0, by decide, rfl⟩, 1000, by decide, rfl⟩
    iterate 4 (intro t ht; rw [pb_co (by decide)]; simp [cl_ld, pb_sl1, pb_F_r, pb_rd])
    iterate 4 (intro t ht; rw [pb_c1]; exact FS _ (by omega) (by omega))
    · intro t ht; rw [pb_co (by decide)]; simp [cl_ld, pb_sl1, pb_F_r, pb_rd]
    · intro t ht; rw [pb_c1]; exact FS _ (by omega) (by omega)
    · rw [pb_c1, FZ 2 (by omega) (by omega) (by omega) (by omega), pb_co (by decide)]; simp [cl_ld, pb_sl1, pb_F_r, pb_rd]
    · rw [pb_c1]; exact FZ 2 (by omega) (by omega) (by omega) (by omega)
    · intro p hp
      have hp36 : p < 36 := by omega
      rw [pb_c1, pb_co (by decide), pb_co (by decide), FZ (100 + p) (by omega) (by omega) (by omega) (by omega), FZ (140 + p) (by omega) (by omega) (by omega) (by omega)]
      exact ⟨by simp [cl_ld, pb_sl1, pb_F_r, pb_rd, hp36], by simp [cl_ld, pb_sl1, pb_F_r, pb_rd, hp36], ⟨0, by decide, rfl⟩, 0, by decide, rfl⟩
    · intro p _ hp36
      rw [pb_co (by decide), pb_co (by decide)]
      exact ⟨by simp [cl_ld, pb_sl1, pb_F_r, pb_rd, hp36], by simp [cl_ld, pb_sl1, pb_F_r, pb_rd, hp36]⟩
    · intro p _ hp36
      rw [pb_co (by decide), pb_co (by decide), pb_co (by decide)]
      exact ⟨by simp [cl_ld, pb_sl1, pb_F_r, pb_rd, hp36], by simp [cl_ld, pb_sl1, pb_F_r, pb_rd, hp36], by simp [cl_ld, pb_sl1, pb_F_r, pb_rd, hp36]⟩
    · intro p hp36
      rw [pb_co (by decide), pb_c1, FZ (9 + p) (by omega) (by omega) (by omega) (by omega)]
      simp [cl_ld, pb_sl1, pb_F_r, pb_rd, hp36]
    · rw [pb_co (by decide), pb_c1, FZ 8 (by omega) (by omega) (by omega) (by omega)]
      simp [cl_ld, pb_sl1, pb_F_r, pb_rd]
    · rw [pb_co (by decide), pb_c1, FZ 7 (by omega) (by omega) (by omega) (by omega)]
      simp [cl_ld, pb_sl1, pb_F_r, pb_rd]
    · rw [pb_c1, FZ 7 (by omega) (by omega) (by omega) (by omega)]
      rfl
    · intro q _ _
      rw [pb_c2, show (cl_ld μ (nI x) (nI y)).2 (1 + 59) = 0 by simp [cl_ld, pb_sl2, pb_F_2, pb_rd2]]
      exact pg_b0 q
    · intro p hp
      have hp36 : p < 36 := by omega
      rw [pb_c1, pb_co (by decide), FZ (180 + p) (by omega) (by omega) (by omega) (by omega)]
      exact ⟨by simp [cl_ld, pb_sl1, pb_F_r, pb_rd, hp36], 0, by decide, rfl⟩
    · intro p hp
      rw [pb_c1, FZ (220 + p) (by omega) (by omega) (by omega) (by omega), pb_c2, show (cl_ld μ (nI x) (nI y)).2 (1 + 61) = 0 by simp [cl_ld, pb_sl2, pb_F_2, pb_rd2], pg_b0]
      rfl
    · intro q _ _
      rw [pb_c2, show (cl_ld μ (nI x) (nI y)).2 (1 + 61) = 0 by simp [cl_ld, pb_sl2, pb_F_2, pb_rd2]]
      exact pg_b0 q
    · intro p hp
      rw [pb_c1, FZ (260 + p) (by omega) (by omega) (by omega) (by omega), pb_c2, show (cl_ld μ (nI x) (nI y)).2 (1 + 62) = 0 by simp [cl_ld, pb_sl2, pb_F_2, pb_rd2], pg_b0]
      rfl
    · intro q _ _
      rw [pb_c2, show (cl_ld μ (nI x) (nI y)).2 (1 + 62) = 0 by simp [cl_ld, pb_sl2, pb_F_2, pb_rd2]]
      exact pg_b0 q
  · rw [pb_cn _ _ _ (by omega)]
    funext j
    unfold cl_ld
    simp (disch := omega) only [pb_sl1, pb_F_o, pb_oc]
  · rw [pb_c2]
    unfold cl_ld
    simp (disch := omega) only [pb_sl2, pb_F_2, pb_rd2, if_neg]
  · rw [pb_cn _ _ _ (by decide)]
    funext j
    simp [cl_ld, pb_sl1, pb_F_r, pb_rd]
  · rw [pb_co (by decide)]
    simp [cl_ld, pb_sl1, pb_F_r, pb_rd]
  · rw [pb_co (by decide)]
    simp [cl_ld, pb_sl1, pb_F_r, pb_rd]
