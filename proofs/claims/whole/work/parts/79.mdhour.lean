/-! the reference's hour as one function -/
def w_m (P N : Nat) (W : wt) (μ : dw_M) : Prop := (∀ p, p < P → μ.1 143 (100 + p) = nI (W.1 p)) ∧ (∀ p, p < P → μ.1 143 (140 + p) = nI (W.2.1 p)) ∧ (∀ q, q < N → μ.1 143 (400 + 20 * q + 9) = nI (W.2.2.1 q)) ∧ (∀ q, q < N → μ.1 143 (400 + 20 * q + 6) = nI (W.2.2.2.1 q)) ∧ (∀ q, q < N → μ.1 143 (400 + 20 * q + 10) = W.2.2.2.2.1 q) ∧ (∀ d, d < 4 → μ.1 143 (9 + d) = W.2.2.2.2.2.1 d) ∧ μ.1 143 8 = W.2.2.2.2.2.2.1 ∧ μ.1 143 7 = W.2.2.2.2.2.2.2
def m_f (μ ν : dw_M) : Prop := (∀ c k, c ≠ 143 → ν.1 c k = μ.1 c k) ∧ (∀ j, (j < 7 ∨ 13 ≤ j) → (j < 100 ∨ 176 ≤ j) → (j < 400 ∨ ((j - 400) % 20 ≠ 6 ∧ (j - 400) % 20 ≠ 9 ∧ (j - 400) % 20 ≠ 10)) → ν.1 143 j = μ.1 143 j) ∧ ν.2 = μ.2
theorem m_f0 (μ : dw_M) : m_f μ μ := ⟨fun _ _ _ => rfl, fun _ _ _ _ => rfl, rfl⟩
theorem m_ft {μ ν ξ : dw_M} (h : m_f μ ν) (h2 : m_f ν ξ) : m_f μ ξ := ⟨fun c k hc => (h2.1 c k hc).trans (h.1 c k hc), fun j h1 h3 h4 => (h2.2.1 j h1 h3 h4).trans (h.2.1 j h1 h3 h4), h2.2.2.trans h.2.2⟩
theorem m_fag {T μ ν : dw_M} (a : ag T μ) (h : m_f μ ν) : ag T ν := ⟨fun c k hc => by rw [h.1 c k (by omega)]; exact a.1 c k hc, fun j hj hm => by
  have hm' := hm
  unfold msl at hm'
  rw [h.2.1 j (by omega) (by omega) (by omega)]
  exact a.2 j hj hm⟩
section
variable {R C P N : Nat} {T μ : dw_M} {rk : Nat → Nat}
/-- the state of the passing on, behind t pipes -/
def m_p (N : Nat) (μ : dw_M) (X : (Nat → Nat) × (Nat → Int32) × (Nat → Int32)) (g : Nat → Int32) (x : Int32) (ν : dw_M) : Prop := (∀ k, k < N → ν.1 143 (400 + 20 * k + 9) = nI (X.1 k)) ∧ (∀ k, k < N → ν.1 143 (400 + 20 * k + 10) = X.2.1 k) ∧ (∀ d, d < 4 → ν.1 143 (9 + d) = X.2.2 d) ∧ pb_sm X.2.2 4 = pb_sm g 4 + x ∧ (∀ c j, (c ≠ 143 ∨ ((j < 9 ∨ 13 ≤ j) ∧ (j < 400 ∨ ((j - 400) % 20 ≠ 9 ∧ (j - 400) % 20 ≠ 10)))) → ν.1 c j = μ.1 c j) ∧ ν.2 = μ.2
theorem m_pag (a : ag T μ) {X : (Nat → Nat) × (Nat → Int32) × (Nat → Int32)} {g : Nat → Int32} {x : Int32} {ν : dw_M} (h : m_p N μ X g x ν) : ag T ν := ⟨fun c k hc => by rw [h.2.2.2.2.1 c k (by omega)]; exact a.1 c k hc, fun j hj hm => by
  have hm' := hm
  unfold msl at hm'
  rw [h.2.2.2.2.1 143 j (by omega)]
  exact a.2 j hj hm⟩
theorem md_hp (h : stt R C P N T) (a : ag T μ) (hrk : ∀ q, q < N → rk q < N ∧ ∃ c, ch N T q (rk q) c) {o : Nat → Nat} (ho : o_f rk N o) {bk : Nat → Bool} (hb : ∀ q, q < N → μ.1 143 (400 + 20 * q + 8) = b2i (bk q)) {n : Nat → Nat} {pa g : Nat → Int32} (hB : ∀ q, q < N → n q ≤ a_ho T q) (en : ∀ q, q < N → μ.1 143 (400 + 20 * q + 9) = nI (n q)) (ea : ∀ q, q < N → μ.1 143 (400 + 20 * q + 10) = pa q) (eg : ∀ d, d < 4 → μ.1 143 (9 + d) = g d) : ∃ x ν, dw_wh (fun v => sX10_hour_12 v.1 v.2.1 v.2.2) 1000 ((0 : Int32), (0 : Int32), μ) = some (x, ν) ∧ m_p N μ (a_P T bk o n pa g N) g x ν := by
  obtain ⟨hN, hP, hC1, hC6⟩ := st_20 h
  obtain ⟨e0, e1, e2, e3, e4, e5⟩ := st_dim h
  have inner : ∀ (r : Nat) (x : Int32) (ν : dw_M), r < 20 → m_p N μ (a_P T bk o n pa g (o_cu rk N r)) g x ν → ∃ y ξ, dw_wh (fun v => sX10_hour_20 (nI r) v.1 v.2.1 v.2.2) 1000 (x, (0 : Int32), ν) = some (y, ξ) ∧ m_p N μ (a_P T bk o n pa g (o_cu rk N (r + 1))) g y ξ := by
    intro r x ν hr hm
    obtain ⟨⟨y, ξ⟩, k1, k2⟩ := pb_inv (step := fun v : Int32 × Int32 × dw_M => sX10_hour_20 (nI r) v.1 v.2.1 v.2.2) (fun q z => z.2.1 = nI q ∧ m_p N μ (a_P T bk o n pa g (o_cu rk N r + o_cn rk r q)) g z.1 z.2.2) N (fun z => m_p N μ (a_P T bk o n pa g (o_cu rk N (r + 1))) g z.1 z.2) (fun q z hq hz => by
      obtain ⟨z1, z2, ρ⟩ := z
      obtain ⟨f1, f2⟩ := hz
      have f1 : z2 = nI q := f1
      have f2 : m_p N μ (a_P T bk o n pa g (o_cu rk N r + o_cn rk r q)) g z1 ρ := f2
      subst f1
      left
      have aρ := m_pag a f2
      obtain ⟨hrq, c, hc⟩ := hrk q hq
      have hrank := md_rank hN (ch_ag aρ hN hc)
      have eN : ρ.1 143 13 = nI N := by rw [aρ.2 _ (by omega) (msl_l (by omega) (by omega) (by omega)), e3]
      by_cases e : rk q = r
      · have hpo : o_po rk N q = o_cu rk N r + o_cn rk r q := by unfold o_po; rw [e]
        have hot := o_at ho hq
        rw [hpo] at hot
        have hlt := o_po_N (rk := rk) hq
        rw [hpo] at hlt
        obtain ⟨ν1, v, g1, g2, g3, g4, g5, g6, g7⟩ := md_pass h aρ hq (bk := bk) (fun q hq => by rw [f2.2.2.2.2.1 _ _ (by omega)]; exact hb q hq) (a_P_B (bk := bk) (a := pa) (g := g) (fun t ht => (ho t ht).1) hB (o_cu rk N r + o_cn rk r q) (by omega)) f2.1 f2.2.2.1
        have hcn : o_cu rk N r + o_cn rk r (q + 1) = (o_cu rk N r + o_cn rk r q) + 1 := by
          unfold o_cn
          rw [fb_ct_succ, decide_eq_true e]
          rfl
        have hP1 : a_P T bk o n pa g ((o_cu rk N r + o_cn rk r q) + 1) = (a_n1 T bk (a_P T bk o n pa g (o_cu rk N r + o_cn rk r q)).1 q, upd (a_P T bk o n pa g (o_cu rk N r + o_cn rk r q)).2.1 q (nI (a_am T bk (a_P T bk o n pa g (o_cu rk N r + o_cn rk r q)).1 q)), a_g1 T bk (a_P T bk o n pa g (o_cu rk N r + o_cn rk r q)).1 (a_P T bk o n pa g (o_cu rk N r + o_cn rk r q)).2.2 q) := by
          rw [a_P, hot]
        refine ⟨(z1 + v, nI (q + 1), ν1), ?_, rfl, ?_⟩
        · show sX10_hour_20 (nI r) z1 (nI q) ρ = _
          unfold sX10_hour_20
          rw [pv_c13, eN, if_neg (nI_ge hq (by omega)), pb_bd hrank, if_pos (by rw [e]), pb_b2 g1, nI_1]
          rfl
        · show m_p N μ (a_P T bk o n pa g (o_cu rk N r + o_cn rk r (q + 1))) g (z1 + v) ν1
          rw [hcn, hP1]
          refine ⟨g2, fun k hk => ?_, g4, ?_, fun c j hc => ?_, by rw [g7, f2.2.2.2.2.2]⟩
          · rw [g3 k hk]
            show _ = upd _ q _ k
            unfold upd
            by_cases e : k = q
            · rw [if_pos e, if_pos e]
            · rw [if_neg e, if_neg e]
              exact f2.2.1 k hk
          · show pb_sm (a_g1 T bk _ _ q) 4 = _
            rw [g5, f2.2.2.2.1, Int32.add_assoc]
          · rw [g6 c j hc]
            exact f2.2.2.2.2.1 c j hc
      · have hcn : o_cu rk N r + o_cn rk r (q + 1) = o_cu rk N r + o_cn rk r q := by
          unfold o_cn
          rw [fb_ct_succ, decide_eq_false e]
          rfl
        refine ⟨(z1 + 0, nI (q + 1), ρ), ?_, rfl, ?_⟩
        · show sX10_hour_20 (nI r) z1 (nI q) ρ = _
          unfold sX10_hour_20
          rw [pv_c13, eN, if_neg (nI_ge hq (by omega)), pb_bd hrank, if_neg (fun z => e ((nI_eq (by omega) (by omega)).mp z)), nI_1]
          rfl
        · show m_p N μ (a_P T bk o n pa g (o_cu rk N r + o_cn rk r (q + 1))) g (z1 + 0) ρ
          rw [hcn, Int32.add_zero]
          exact f2) (fun z hz => by
      obtain ⟨z1, z2, ρ⟩ := z
      obtain ⟨f1, f2⟩ := hz
      have f1 : z2 = nI N := f1
      have f2 : m_p N μ (a_P T bk o n pa g (o_cu rk N r + o_cn rk r N)) g z1 ρ := f2
      subst f1
      have aρ := m_pag a f2
      have eN : ρ.1 143 13 = nI N := by rw [aρ.2 _ (by omega) (msl_l (by omega) (by omega) (by omega)), e3]
      refine ⟨(z1, ρ), ?_, ?_⟩
      · show sX10_hour_20 (nI r) z1 (nI N) ρ = _
        unfold sX10_hour_20
        rw [pv_c13, eN, if_pos (nI_le (Nat.le_refl _) (by omega))]
      · show m_p N μ (a_P T bk o n pa g (o_cu rk N (r + 1))) g z1 ρ
        rw [o_cu_s]
        exact f2) (fuel := 1000) (by omega) (x := (x, (0 : Int32), ν)) ⟨rfl, by show m_p N μ (a_P T bk o n pa g (o_cu rk N r + 0)) g x ν; rw [Nat.add_zero]; exact hm⟩
    exact ⟨y, ξ, k1, k2⟩
  obtain ⟨⟨y, ξ⟩, k1, k2⟩ := pb_inv (step := fun v : Int32 × Int32 × dw_M => sX10_hour_12 v.1 v.2.1 v.2.2) (fun r z => z.2.1 = nI r ∧ m_p N μ (a_P T bk o n pa g (o_cu rk N r)) g z.1 z.2.2) 20 (fun z => m_p N μ (a_P T bk o n pa g N) g z.1 z.2) (fun r z hr hz => by
    obtain ⟨z1, z2, ρ⟩ := z
    obtain ⟨f1, f2⟩ := hz
    have f1 : z2 = nI r := f1
    subst f1
    obtain ⟨y, ξ, q1, q2⟩ := inner r z1 ρ hr f2
    left
    refine ⟨(y, nI (r + 1), ξ), ?_, rfl, q2⟩
    show sX10_hour_12 z1 (nI r) ρ = _
    unfold sX10_hour_12
    rw [if_neg (n_20 hr), pb_bd q1]
    show some (Sum.inl (_, nI r + 1, _)) = _
    rw [nI_1]) (fun z hz => by
    obtain ⟨z1, z2, ρ⟩ := z
    obtain ⟨f1, f2⟩ := hz
    have f1 : z2 = nI 20 := f1
    have f2 : m_p N μ (a_P T bk o n pa g (o_cu rk N 20)) g z1 ρ := f2
    subst f1
    refine ⟨(z1, ρ), rfl, ?_⟩
    show m_p N μ (a_P T bk o n pa g N) g z1 ρ
    rw [o_cu_all (fun q hq => (hrk q hq).1) hN] at f2
    exact f2) (fuel := 1000) (by omega) (x := ((0 : Int32), (0 : Int32), μ)) ⟨rfl, by
      show m_p N μ (a_P T bk o n pa g (o_cu rk N 0)) g 0 μ
      rw [show o_cu rk N 0 = 0 from fb_ct_zero.mpr (fun k _ => by simp)]
      exact ⟨en, ea, eg, (Int32.add_zero _).symm, fun _ _ _ => rfl, rfl⟩⟩
  exact ⟨y, ξ, k1, k2⟩
theorem md_hl (h : stt R C P N T) (a : ag T μ) {l : Nat → Nat} (hl : ∀ q, q < N → l q ≤ 100 ∧ μ.1 143 (400 + 20 * q + 6) = nI (l q)) : ∃ ν, dw_wh (fun v => sX10_hour_66 v.1 v.2) 1000 ((0 : Int32), μ) = some ν ∧ (∀ q, q < N → ν.1 143 (400 + 20 * q + 6) = nI (l q - 1)) ∧ (∀ c j, (c ≠ 143 ∨ j < 400 ∨ (j - 400) % 20 ≠ 6) → ν.1 c j = μ.1 c j) ∧ ν.2 = μ.2 := by
  obtain ⟨hN, hP, hC1, hC6⟩ := st_20 h
  obtain ⟨e0, e1, e2, e3, e4, e5⟩ := st_dim h
  refine pb_inv (step := fun v : Int32 × dw_M => sX10_hour_66 v.1 v.2) (fun t x => x.1 = nI t ∧ (∀ q, q < N → x.2.1 143 (400 + 20 * q + 6) = nI (if q < t then l q - 1 else l q)) ∧ (∀ c j, (c ≠ 143 ∨ j < 400 ∨ (j - 400) % 20 ≠ 6) → x.2.1 c j = μ.1 c j) ∧ x.2.2 = μ.2) N _ (fun t x ht hx => ?_) (fun x hx => ?_) (fuel := 1000) (by omega) (x := ((0 : Int32), μ)) ⟨rfl, fun q hq => by rw [if_neg (by omega)]; exact (hl q hq).2, fun _ _ _ => rfl, rfl⟩
  · obtain ⟨x, ν⟩ := x
    obtain ⟨f1, f2, f3, f4⟩ := hx
    have f1 : x = nI t := f1
    have f2 : ∀ q, q < N → ν.1 143 (400 + 20 * q + 6) = nI (if q < t then l q - 1 else l q) := f2
    have f3 : ∀ c j, (c ≠ 143 ∨ j < 400 ∨ (j - 400) % 20 ≠ 6) → ν.1 c j = μ.1 c j := f3
    have f4 : ν.2 = μ.2 := f4
    subst f1
    left
    have el : ν.1 143 (400 + 20 * t + 6) = nI (l t) := by rw [f2 t ht, if_neg (by omega)]
    have l1 := (hl t ht).1
    have go : sX10_hour_66 (nI t) ν = some (.inl (nI (t + 1), dw_st ν 143 (400 + 20 * t + 6) (nI (l t - 1)))) := by
      unfold sX10_hour_66
      rw [pv_c13, f3 143 13 (by omega), a.2 _ (by omega) (msl_l (by omega) (by omega) (by omega)), e3, if_neg (nI_ge ht (by omega)), pb_bd (md_p6 ν (by omega)), el]
      by_cases c0 : l t = 0
      · rw [if_pos (by rw [c0]; decide), pb_bd (md_sp _ (q := t) (w := 6) (x := nI t) (y := 6) rfl rfl (by omega) (by decide)), c0, nI_1]
        rfl
      · rw [if_neg (nI_nle (by omega) (by omega)), pb_bd (md_p6 ν (by omega)), el, pb_bd (md_sp _ (q := t) (w := 6) (x := nI t) (y := 6) rfl rfl (by omega) (by decide)), show (1 : Int32) = nI 1 from rfl, pk_sub (by omega), nI_add]
        rfl
    refine ⟨_, go, rfl, fun q hq => ?_, fun c j hc => ?_, f4⟩
    · show (dw_st ν 143 (400 + 20 * t + 6) _).1 143 (400 + 20 * q + 6) = _
      by_cases e : q = t
      · rw [e, pb_i, if_pos (by omega)]
      · rw [pb_o (by omega), f2 q hq]
        by_cases c : q < t
        · rw [if_pos c, if_pos (by omega)]
        · rw [if_neg c, if_neg (by omega)]
    · show (dw_st ν 143 (400 + 20 * t + 6) _).1 c j = _
      rw [pb_o (by omega)]
      exact f3 c j hc
  · obtain ⟨x, ν⟩ := x
    obtain ⟨f1, f2, f3, f4⟩ := hx
    have f1 : x = nI N := f1
    have f2 : ∀ q, q < N → ν.1 143 (400 + 20 * q + 6) = nI (if q < N then l q - 1 else l q) := f2
    have f3 : ∀ c j, (c ≠ 143 ∨ j < 400 ∨ (j - 400) % 20 ≠ 6) → ν.1 c j = μ.1 c j := f3
    subst f1
    refine ⟨ν, ?_, fun q hq => by rw [f2 q hq, if_pos hq], f3, f4⟩
    show sX10_hour_66 (nI N) ν = _
    unfold sX10_hour_66
    rw [pv_c13, f3 143 13 (by omega), a.2 _ (by omega) (msl_l (by omega) (by omega) (by omega)), e3, if_pos (nI_le (Nat.le_refl _) (by omega))]
theorem md_hr (h : stt R C P N T) (a : ag T μ) (hrk : ∀ q, q < N → rk q < N ∧ ∃ c, ch N T q (rk q) c) {o : Nat → Nat} (ho : o_f rk N o) {bk : Nat → Bool} (hb : ∀ q, q < N → μ.1 143 (400 + 20 * q + 8) = b2i (bk q)) {H : Nat} (hH : H ≤ 30000) {W : wt} (hbd : w_b T P N H W) (hw : w_m P N W μ) : ∃ ν x, fX10_hour μ = some (x, ν) ∧ w_m P N (hr T C P N bk o W) ν ∧ pb_sm (hr T C P N bk o W).2.2.2.2.2.1 4 = pb_sm W.2.2.2.2.2.1 4 + x ∧ m_f μ ν := by
  obtain ⟨hN, hP, hC1, hC6⟩ := st_20 h
  obtain ⟨w1, w2, w3, w4, w5, w6, w7, w8⟩ := hw
  obtain ⟨ν1, a1, a2, a3, a4, a5, a6⟩ := md_fall h a (s := W.1) (w := W.2.1) (fun p hp => by have := hbd.1 p hp; omega) hbd.2.1 w1 w2 w7
  have ag1 : ag T ν1 := ⟨fun c k hc => by rw [a5 _ _ (by omega)]; exact a.1 c k hc, fun j hj hm => by
    have hm' := hm
    unfold msl at hm'
    rw [a5 _ _ (by omega)]
    exact a.2 j hj hm⟩
  obtain ⟨ν2, b1, b2, b3, b4, b5⟩ := md_seep h ag1 (l := W.2.2.2.1) (bk := bk) (fun q hq => ⟨hbd.2.2.2 q hq, by rw [a5 _ _ (by omega)]; exact w4 q hq⟩) (fun q hq => by rw [a5 _ _ (by omega)]; exact hb q hq) (w_b1 h hbd) a3 (fun q hq => by rw [a5 _ _ (by omega)]; exact w3 q hq)
  have ag2 : ag T ν2 := ⟨fun c k hc => by rw [b4 _ _ (by omega)]; exact ag1.1 c k hc, fun j hj hm => by
    have hm' := hm
    unfold msl at hm'
    rw [b4 _ _ (by omega)]
    exact ag1.2 j hj hm⟩
  have hB := a_D_B (C := C) (ac := a_ac T W.2.2.2.1 bk) (w_b1 h hbd) P (Nat.le_refl _)
  obtain ⟨x, ν3, c1, c2⟩ := md_hp h ag2 hrk ho (bk := bk) (fun q hq => by rw [b4 _ _ (by omega), a5 _ _ (by omega)]; exact hb q hq) hB.2 b3 (pa := W.2.2.2.2.1) (g := W.2.2.2.2.2.1) (fun q hq => by rw [b4 _ _ (by omega), a5 _ _ (by omega)]; exact w5 q hq) (fun d hd => by rw [b4 _ _ (by omega), a5 _ _ (by omega)]; exact w6 d hd)
  have ag3 := m_pag ag2 c2
  obtain ⟨c2, c3, c4, c5, c6, c7⟩ := c2
  obtain ⟨ν4, d1, d2, d3, d4⟩ := md_hl h ag3 (l := W.2.2.2.1) (fun q hq => ⟨hbd.2.2.2 q hq, by rw [c6 _ _ (by omega), b4 _ _ (by omega), a5 _ _ (by omega)]; exact w4 q hq⟩)
  refine ⟨dw_st ν4 143 7 (ν4.1 143 7 + 1), x, ?_, ⟨fun p hp => ?_, fun p hp => ?_, fun q hq => ?_, fun q hq => ?_, fun q hq => ?_, fun d hd => ?_, ?_, ?_⟩, c5, fun c k hc => ?_, fun j h1 h2 h3 => ?_, ?_⟩
  · unfold fX10_hour
    rw [pb_bd a1, pb_bd b1, pb_bd c1]
    show dw_bd (dw_wh (fun v => sX10_hour_66 v.1 v.2) 1000 ((0 : Int32), ν3)) _ = _
    rw [pb_bd d1]
    rfl
  · rw [pb_o (by omega), d3 _ _ (by omega), c6 _ _ (by omega), b4 _ _ (by omega)]
    exact a2 p hp
  · rw [pb_o (by omega), d3 _ _ (by omega), c6 _ _ (by omega)]
    exact b2 p hp
  · rw [pb_o (by omega), d3 _ _ (by omega)]
    exact c2 q hq
  · rw [pb_o (by omega)]
    exact d2 q hq
  · rw [pb_o (by omega), d3 _ _ (by omega)]
    exact c3 q hq
  · rw [pb_o (by omega), d3 _ _ (by omega)]
    exact c4 d hd
  · rw [pb_o (by omega), d3 _ _ (by omega), c6 _ _ (by omega), b4 _ _ (by omega)]
    exact a4
  · rw [pb_i, d3 _ _ (by omega), c6 _ _ (by omega), b4 _ _ (by omega), a5 _ _ (by omega), w8]
    rfl
  · rw [pb_o (by omega), d3 _ _ (by omega), c6 _ _ (by omega), b4 _ _ (by omega), a5 _ _ (by omega)]
  · rw [pb_o (by omega), d3 _ _ (by omega), c6 _ _ (by omega), b4 _ _ (by omega), a5 _ _ (by omega)]
  · show ν4.2 = _
    rw [d4, c7, b5, a6]
end
