/-! where a pipe leads -/
theorem n_20 {j : Nat} (h : j < 20) : ¬ (20 : Int32) ≤ nI j := nI_ge (b := 20) h (by decide)
theorem n_36 {j : Nat} (h : j < 36) : ¬ (36 : Int32) ≤ nI j := nI_ge (b := 36) h (by decide)
theorem n_100 {j : Nat} (h : j < 100) : ¬ (100 : Int32) ≤ nI j := nI_ge (b := 100) h (by decide)
theorem nI_nm1 {z : Nat} (hz : z < 1000) : nI z ≠ -1 := by
  intro h
  have h2 := congrArg Int32.toInt h
  rw [nI_toInt (by omega)] at h2
  have h3 : (-1 : Int32).toInt = -1 := by decide
  omega
def ch_in (μ : dw_M) (p : Nat) : Int32 := μ.1 143 (400 + 20 * p + 7)
def ch_end (v : Int32) : Prop := v = -1 ∨ ∃ d, d < 4 ∧ v = nI (100 + d)
/-- the way from p: L pipes on, then an end -/
def ch (N : Nat) (μ : dw_M) (p L : Nat) (c : Nat → Nat) : Prop := c 0 = p ∧ (∀ j, j ≤ L → c j < N) ∧ (∀ j, j < L → ch_in μ (c j) = nI (c (j + 1))) ∧ ch_end (ch_in μ (c L)) ∧ L < N
theorem ch_end_not {v : Int32} (h : ch_end v) {q : Nat} (hq : q < 20) : v ≠ nI q := by
  rcases h with h | ⟨d, hd, h⟩
  · rw [h]; exact (nI_nm1 (by omega)).symm
  · rw [h]
    intro e
    have := (nI_eq (by omega) (by omega)).mp e
    omega
theorem ch_end_lt {v : Int32} (h : ch_end v) : v < 0 ∨ (¬ v < 0 ∧ (100 : Int32) ≤ v) := by
  rcases h with h | ⟨d, hd, h⟩
  · rw [h]; exact Or.inl (by decide)
  · rw [h]; exact Or.inr ⟨nI_pos (by omega), nI_le (a := 100) (by omega) (by omega)⟩
theorem ch_ex {N s : Nat} {μ : dw_M} (hN : N ≤ 20) (it : rl_int N s 143 μ) (ac : rl_acy N 143 μ) {p : Nat} (hp : p < N) : ∃ L c, ch N μ p L c := by
  obtain ⟨rk, hrk⟩ := ac
  have key : ∀ (n p : Nat), rk p ≤ n → p < N → ∃ (L : Nat) (c : Nat → Nat), c 0 = p ∧ (∀ j, j ≤ L → c j < N) ∧ (∀ j, j < L → ch_in μ (c j) = nI (c (j + 1))) ∧ ch_end (ch_in μ (c L)) := by
    intro n
    induction n with
    | zero =>
      intro p h0 hp
      rcases (it p hp).2 with h | ⟨q, hq, h⟩ | h
      · exact ⟨0, fun _ => p, rfl, fun j _ => hp, fun j hj => absurd hj (by omega), Or.inl h⟩
      · have := hrk p q hp hq h
        omega
      · exact ⟨0, fun _ => p, rfl, fun j _ => hp, fun j hj => absurd hj (by omega), Or.inr h⟩
    | succ n ih =>
      intro p h0 hp
      rcases (it p hp).2 with h | ⟨q, hq, h⟩ | h
      · exact ⟨0, fun _ => p, rfl, fun j _ => hp, fun j hj => absurd hj (by omega), Or.inl h⟩
      · have h1 := hrk p q hp hq h
        obtain ⟨L, c, c0, c1, c2, c3⟩ := ih q (by omega) hq
        refine ⟨L + 1, fun j => if j = 0 then p else c (j - 1), rfl, fun j hj => ?_, fun j hj => ?_, ?_⟩
        · by_cases e : j = 0
          · simp only [e, if_true]; exact hp
          · simp only [e, if_false]; exact c1 _ (by omega)
        · by_cases e : j = 0
          · subst e
            show ch_in μ p = nI (c 0)
            rw [c0]
            exact h
          · simp only [e, if_false]
            have := c2 (j - 1) (by omega)
            rw [show j - 1 + 1 = j by omega] at this
            rw [this]
            simp
        · exact c3
      · exact ⟨0, fun _ => p, rfl, fun j _ => hp, fun j hj => absurd hj (by omega), Or.inr h⟩
  obtain ⟨L, c, c0, c1, c2, c3⟩ := key (rk p) p (Nat.le_refl _) hp
  refine ⟨L, c, c0, c1, c2, c3, ?_⟩
  have mono : ∀ d j, j + d ≤ L → rk (c (j + d)) + d ≤ rk (c j) := by
    intro d
    induction d with
    | zero => intro j _; exact Nat.le_refl _
    | succ d ih =>
      intro j hj
      have h1 := ih j (by omega)
      have h2 := hrk (c (j + d)) (c (j + d + 1)) (c1 _ (by omega)) (c1 _ (by omega)) (c2 _ (by omega))
      have h3 : j + (d + 1) = j + d + 1 := by omega
      rw [h3]
      omega
  have := fb_holes N (L + 1) c (fun i hi => c1 i (by omega)) (fun i j hij hj e => by
    have h := mono (j - i) i (by omega)
    rw [show i + (j - i) = j by omega, e] at h
    omega)
  omega
theorem hq_end {N : Nat} {ρ : dw_M} (hN : N ≤ 20) (cN : ρ.1 11 1 = nI N) {v : Int32} (h : ch_end v) : fX4_hasPipe ρ v = 0 := by
  apply pv_hq0 cN
  rcases h with h | ⟨d, hd, h⟩
  · rw [h]; exact Or.inl (by decide)
  · rw [h]; exact Or.inr (nI_le (by omega) (by omega))
/-- the count of a way as the class counts: from -1 on -/
def rkv (j : Nat) : Int32 := if j = 0 then -1 else nI (j - 1)
theorem rkv_1 (j : Nat) : rkv (j + 1) = nI j := by
  unfold rkv
  rw [if_neg (by omega), show j + 1 - 1 = j by omega]
theorem rkv_s (j : Nat) : rkv j + 1 = rkv (j + 1) := by
  rw [rkv_1]
  unfold rkv
  by_cases e : j = 0
  · rw [if_pos e, e]; rfl
  · rw [if_neg e, nI_1, show j - 1 + 1 = j by omega]
theorem rkv_20 {j : Nat} (h : j ≤ 20) : ¬ (20 : Int32) ≤ rkv j := by
  unfold rkv
  by_cases e : j = 0
  · rw [if_pos e]; decide
  · rw [if_neg e]; exact n_20 (by omega)
theorem cl_rank {N : Nat} {μ ρ : dw_M} (hN : N ≤ 20) (cN : ρ.1 11 1 = nI N) (ei : ∀ q, q < N → ρ.1 (12 + 1 + 2 * q) 5 = ch_in μ q) {p L : Nat} {c : Nat → Nat} (h : ch N μ p L c) : fX4_rankOf ρ (nI p) = some (nI L) := by
  obtain ⟨c0, c1, c2, c3, c4⟩ := h
  unfold fX4_rankOf
  have h := pb_det (step := fun v => sX4_rankOf_4 ρ v.1 v.2) (fun j => (rkv j, if j ≤ L then nI (c j) else ch_in μ (c L))) (L + 1) (x := ((-1 : Int32), nI p)) (by rw [if_pos (by omega), c0]; rfl) (r := nI L) ?_ ?_ (fuel := 1000) (by omega)
  · rw [pb_bd h]
  · intro j hj
    have hq := c1 j (by omega)
    show sX4_rankOf_4 ρ (rkv j) (if j ≤ L then nI (c j) else ch_in μ (c L)) = some (.inl (rkv (j + 1), if j + 1 ≤ L then nI (c (j + 1)) else ch_in μ (c L)))
    rw [if_pos (by omega)]
    unfold sX4_rankOf_4
    rw [pv_hq1 cN (by omega) hq, if_neg (by decide), if_neg (rkv_20 (by omega))]
    simp only [dw_nm]
    rw [pb_gd (pb_ok rfl (by omega) (by decide)), pb_cl rfl (by omega), ei _ hq, rkv_s]
    by_cases e : j = L
    · rw [if_neg (by omega), e]
    · rw [if_pos (by omega), c2 j (by omega)]
  · show sX4_rankOf_4 ρ (rkv (L + 1)) (if L + 1 ≤ L then nI (c (L + 1)) else ch_in μ (c L)) = _
    rw [if_neg (by omega)]
    unfold sX4_rankOf_4
    rw [hq_end hN cN c3, if_pos rfl, rkv_1]
theorem md_po7 (μ : dw_M) {q : Nat} (hq : q < 20) : fX10_pipeOf μ (nI q) 7 = some (ch_in μ q) := md_po μ (x := nI q) (y := 7) rfl rfl hq (by decide)
theorem md_rank {N : Nat} {μ : dw_M} (hN : N ≤ 20) {p L : Nat} {c : Nat → Nat} (h : ch N μ p L c) : fX10_rank μ (nI p) = some (nI L) := by
  obtain ⟨c0, c1, c2, c3, c4⟩ := h
  have hp : p < N := by rw [← c0]; exact c1 0 (by omega)
  unfold fX10_rank
  rw [pb_bd (md_po7 μ (by omega))]
  have h := pb_det (step := fun v => sX10_rank_10 μ v.1 v.2) (fun j => (nI j, ch_in μ (c j))) L (x := ((0 : Int32), ch_in μ p)) (by rw [c0]; rfl) (r := nI L) ?_ ?_ (fuel := 1000) (by omega)
  · rw [pb_bd h]
  · intro j hj
    have hq := c1 (j + 1) (by omega)
    show sX10_rank_10 μ (nI j) (ch_in μ (c j)) = _
    unfold sX10_rank_10
    rw [c2 j hj, if_neg (nI_pos (by omega)), if_neg (n_100 (by omega))]
    simp only [dw_nm]
    rw [pb_bd (md_po7 μ (by omega)), nI_1]
  · show sX10_rank_10 μ (nI L) (ch_in μ (c L)) = _
    unfold sX10_rank_10
    rcases ch_end_lt c3 with h | ⟨h1, h2⟩
    · rw [if_pos h]
    · rw [if_neg h1, if_pos h2]
theorem cl_leads {N : Nat} {μ : dw_M} (hN : N ≤ 20) (cN : μ.1 11 1 = nI N) (it : rl_int N 1 143 μ) {p q L : Nat} (hp : p < N) {c : Nat → Nat} (h : ch N μ q L c) : ((∃ j, j ≤ L ∧ c j = p) → fX4_leadsTo μ (nI q) (nI p) = some 1) ∧ ((∀ j, j ≤ L → c j ≠ p) → fX4_leadsTo μ (nI q) (nI p) = some 0) := by
  obtain ⟨c0, c1, c2, c3, c4⟩ := h
  have ei : ∀ q, q < N → μ.1 (12 + 1 + 2 * q) 5 = ch_in μ q := fun q hq => by rw [pv_pc]; exact (it q hq).1
  have step : ∀ j, j ≤ L → c j ≠ p → sX4_leadsTo_5 μ (nI p) (nI (c j)) (nI j) = some (.inl (ch_in μ (c j), nI (j + 1))) := by
    intro j hj hne
    have hq := c1 j (by omega)
    unfold sX4_leadsTo_5
    rw [if_neg (n_20 (by omega)), pv_hq1 cN (by omega) hq, if_neg (by decide), if_neg (fun e => hne ((nI_eq (by omega) (by omega)).mp e)), pb_gd (pb_ok rfl (by omega) (by decide)), pb_cl rfl (by omega), ei _ hq, nI_1]
    rfl
  constructor
  · intro hx
    obtain ⟨j, hj, e⟩ := hx
    obtain ⟨k, hk, ek, hk2⟩ := fb_first (p := fun j => c j = p) (n := L + 1) ⟨j, by omega, e⟩
    unfold fX4_leadsTo
    have h := pb_det (step := fun v => sX4_leadsTo_5 μ (nI p) v.1 v.2) (fun j => (nI (c j), nI j)) k (x := (nI q, (0 : Int32))) (by rw [c0]; rfl) (r := nI p) (fun j hj => by
      show sX4_leadsTo_5 μ (nI p) (nI (c j)) (nI j) = some (.inl (nI (c (j + 1)), nI (j + 1)))
      rw [← c2 j (by omega)]
      exact step j (by omega) (hk2 j hj)) ?_ (fuel := 1000) (by omega)
    · rw [pb_bd h, if_pos rfl]
    · show sX4_leadsTo_5 μ (nI p) (nI (c k)) (nI k) = _
      unfold sX4_leadsTo_5
      rw [if_neg (n_20 (by omega)), ek, pv_hq1 cN (by omega) hp, if_neg (by decide), if_pos rfl]
  · intro hx
    unfold fX4_leadsTo
    have h := pb_det (step := fun v => sX4_leadsTo_5 μ (nI p) v.1 v.2) (fun j => (if j ≤ L then nI (c j) else ch_in μ (c L), nI j)) (L + 1) (x := (nI q, (0 : Int32))) (by rw [if_pos (by omega), c0]; rfl) (r := ch_in μ (c L)) (fun j hj => ?_) ?_ (fuel := 1000) (by omega)
    · rw [pb_bd h, if_neg (ch_end_not c3 (by omega))]
    · show sX4_leadsTo_5 μ (nI p) (if j ≤ L then nI (c j) else ch_in μ (c L)) (nI j) = some (.inl (if j + 1 ≤ L then nI (c (j + 1)) else ch_in μ (c L), nI (j + 1)))
      rw [if_pos (by omega), step j (by omega) (hx j (by omega))]
      by_cases e : j = L
      · rw [if_neg (by omega), e]
      · rw [if_pos (by omega), c2 j (by omega)]
    · show sX4_leadsTo_5 μ (nI p) (if L + 1 ≤ L then nI (c (L + 1)) else ch_in μ (c L)) (nI (L + 1)) = _
      rw [if_neg (by omega)]
      unfold sX4_leadsTo_5
      rw [hq_end hN cN c3]
      by_cases e : (20 : Int32) ≤ nI (L + 1)
      · rw [if_pos e]
      · rw [if_neg e, if_pos rfl]
theorem md_leads {N : Nat} {μ : dw_M} (hN : N ≤ 20) {p q L : Nat} (hp : p < N) {c : Nat → Nat} (h : ch N μ q L c) : ((∃ j, j ≤ L ∧ c j = p) → dw_wh (fun v => sX10_join_92 μ (nI p) v) 1000 (nI q) = some (.inr (-5, μ))) ∧ ((∀ j, j ≤ L → c j ≠ p) → dw_wh (fun v => sX10_join_92 μ (nI p) v) 1000 (nI q) = some (.inl ())) := by
  obtain ⟨c0, c1, c2, c3, c4⟩ := h
  have step : ∀ j, j ≤ L → c j ≠ p → sX10_join_92 μ (nI p) (nI (c j)) = some (.inl (ch_in μ (c j))) := by
    intro j hj hne
    have hq := c1 j (by omega)
    unfold sX10_join_92
    rw [if_neg (nI_pos (by omega)), if_neg (n_100 (by omega)), if_neg (fun e => hne ((nI_eq (by omega) (by omega)).mp e)), pb_bd (md_po7 μ (by omega))]
  constructor
  · intro hx
    obtain ⟨j, hj, e⟩ := hx
    obtain ⟨k, hk, ek, hk2⟩ := fb_first (p := fun j => c j = p) (n := L + 1) ⟨j, by omega, e⟩
    refine pb_det (step := fun v => sX10_join_92 μ (nI p) v) (fun j => nI (c j)) k (x := nI q) (by rw [c0]) (fun j hj => by rw [← c2 j (by omega)]; exact step j (by omega) (hk2 j hj)) ?_ (by omega)
    show sX10_join_92 μ (nI p) (nI (c k)) = _
    unfold sX10_join_92
    rw [ek, if_neg (nI_pos (by omega)), if_neg (n_100 (by omega)), if_pos rfl]
  · intro hx
    refine pb_det (step := fun v => sX10_join_92 μ (nI p) v) (fun j => if j ≤ L then nI (c j) else ch_in μ (c L)) (L + 1) (x := nI q) (by rw [if_pos (by omega), c0]) (fun j hj => ?_) ?_ (by omega)
    · show sX10_join_92 μ (nI p) (if j ≤ L then nI (c j) else ch_in μ (c L)) = some (.inl (if j + 1 ≤ L then nI (c (j + 1)) else ch_in μ (c L)))
      rw [if_pos (by omega), step j (by omega) (hx j (by omega))]
      by_cases e : j = L
      · rw [if_neg (by omega), e]
      · rw [if_pos (by omega), c2 j (by omega)]
    · show sX10_join_92 μ (nI p) (if L + 1 ≤ L then nI (c (L + 1)) else ch_in μ (c L)) = _
      rw [if_neg (by omega)]
      unfold sX10_join_92
      rcases ch_end_lt c3 with h | ⟨h1, h2⟩
      · rw [if_pos h]
      · rw [if_neg h1, if_pos h2]
/-- a path to p -/
def pth (N : Nat) (μ : dw_M) (x p : Nat) : Prop := ∃ (n : Nat) (c : Nat → Nat), c 0 = x ∧ c n = p ∧ ∀ j, j < n → ch_in μ (c j) = nI (c (j + 1)) ∧ c (j + 1) < N
theorem pth_on {N : Nat} {μ : dw_M} (hN : N ≤ 20) {x y p : Nat} (hy : y < N) (e : ch_in μ x = nI y) (ne : x ≠ p) (h : pth N μ x p) : pth N μ y p := by
  obtain ⟨n, c, c0, cn, cs⟩ := h
  have hn : n ≠ 0 := fun z => ne (by rw [← c0, ← cn, z])
  have h0 := cs 0 (by omega)
  rw [c0, e] at h0
  have e1 := (nI_eq (by omega) (by omega)).mp h0.1
  refine ⟨n - 1, fun j => c (j + 1), e1.symm, ?_, fun j hj => cs (j + 1) (by omega)⟩
  show c (n - 1 + 1) = p
  rw [show n - 1 + 1 = n by omega]
  exact cn
theorem pth_cons {N : Nat} {μ : dw_M} {x y p : Nat} (hy : y < N) (e : ch_in μ x = nI y) (h : pth N μ y p) : pth N μ x p := by
  obtain ⟨n, c, c0, cn, cs⟩ := h
  refine ⟨n + 1, fun j => if j = 0 then x else c (j - 1), rfl, ?_, fun j hj => ?_⟩
  · show (if n + 1 = 0 then x else c (n + 1 - 1)) = p
    rw [if_neg (by omega)]
    exact cn
  · by_cases e0 : j = 0
    · subst e0
      show ch_in μ x = nI (c 0) ∧ c 0 < N
      rw [c0]
      exact ⟨e, hy⟩
    · have := cs (j - 1) (by omega)
      rw [show j - 1 + 1 = j by omega] at this
      show ch_in μ (if j = 0 then x else c (j - 1)) = nI (if j + 1 = 0 then x else c (j + 1 - 1)) ∧ (if j + 1 = 0 then x else c (j + 1 - 1)) < N
      rw [if_neg e0, if_neg (by omega), show j + 1 - 1 = j by omega]
      exact this
theorem pth_ch {N : Nat} {μ : dw_M} (hN : N ≤ 20) {q p L : Nat} {c : Nat → Nat} (h : ch N μ q L c) (hx : ∀ j, j ≤ L → c j ≠ p) : ¬ pth N μ q p := by
  obtain ⟨c0, c1, c2, c3, c4⟩ := h
  rintro ⟨n, b, b0, bn, bs⟩
  have key : ∀ j, j ≤ n → j ≤ L ∧ b j = c j := by
    intro j
    induction j with
    | zero => intro _; exact ⟨by omega, by rw [b0, c0]⟩
    | succ j ih =>
      intro hj
      obtain ⟨h1, h2⟩ := ih (by omega)
      obtain ⟨h3, h4⟩ := bs j (by omega)
      rw [h2] at h3
      by_cases e : j = L
      · subst e
        exact absurd h3 (ch_end_not c3 (by omega))
      · rw [c2 j (by omega)] at h3
        have h5 := c1 (j + 1) (by omega)
        exact ⟨by omega, ((nI_eq (by omega) (by omega)).mp h3).symm⟩
  obtain ⟨h1, h2⟩ := key n (Nat.le_refl _)
  exact hx n h1 (by rw [← h2, bn])
theorem acy_join {N : Nat} {μ : dw_M} (hN : N ≤ 20) (ac : rl_acy N 143 μ) {p q : Nat} (hp : p < 20) (hq : q < N) (h : ¬ pth N μ q p) : rl_acy N 143 (dw_st (dw_st μ (12 + 1 + 2 * p) 5 (nI q)) 143 (400 + 20 * p + 7) (nI q)) := by
  classical
  obtain ⟨rk, hrk⟩ := ac
  refine ⟨fun x => if pth N μ x p then rk x + rk q + 1 else rk x, fun x y hx hy e => ?_⟩
  show (if pth N μ y p then rk y + rk q + 1 else rk y) < (if pth N μ x p then rk x + rk q + 1 else rk x)
  by_cases ex : x = p
  · subst ex
    rw [pb_i] at e
    have e1 := (nI_eq (by omega) (by omega)).mp e
    subst e1
    rw [if_neg h, if_pos ⟨0, fun _ => x, rfl, rfl, fun j hj => absurd hj (by omega)⟩]
    omega
  · rw [pb_o (by omega), pb_o (by omega)] at e
    have h1 := hrk x y hx hy e
    by_cases hxp : pth N μ x p
    · rw [if_pos hxp, if_pos (pth_on hN hy e ex hxp)]
      omega
    · rw [if_neg hxp, if_neg (fun z => hxp (pth_cons hy e z))]
      exact h1
