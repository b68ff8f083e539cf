/-! the class's hour as one function -/
abbrev wt : Type := (Nat → Nat) × (Nat → Nat) × (Nat → Nat) × (Nat → Nat) × (Nat → Int32) × (Nat → Int32) × Int32 × Int32
def a_F (T : dw_M) (x : Int32) : Nat → Int32
  | 0 => x
  | p + 1 => a_F T x p + nI (a_rn T p)
def h_D (T : dw_M) (C N : Nat) (bk : Nat → Bool) (W : wt) (p : Nat) : (Nat → Nat) × (Nat → Nat) := a_D T C N (a_ac T W.2.2.2.1 bk) (a_w1 T W.1 W.2.1, W.2.2.1) p
def h_P (T : dw_M) (C P N : Nat) (bk : Nat → Bool) (o : Nat → Nat) (W : wt) (t : Nat) : (Nat → Nat) × (Nat → Int32) × (Nat → Int32) := a_P T bk o (h_D T C N bk W P).2 W.2.2.2.2.1 W.2.2.2.2.2.1 t
def hr (T : dw_M) (C P N : Nat) (bk : Nat → Bool) (o : Nat → Nat) (W : wt) : wt := (a_s1 T W.1 W.2.1, (h_D T C N bk W P).1, (h_P T C P N bk o W N).1, (fun q => W.2.2.2.1 q - 1), (h_P T C P N bk o W N).2.1, (h_P T C P N bk o W N).2.2, a_F T W.2.2.2.2.2.2.1 P, W.2.2.2.2.2.2.2 + 1)
def w_c (i P N : Nat) (W : wt) (μ : dw_M) : Prop := (∀ p, p < P → μ.1 (i + 1) p = nI (W.1 p)) ∧ (∀ p, p < P → μ.1 (i + 2) p = nI (W.2.1 p)) ∧ (∀ q, q < N → μ.1 (i + 3) q = nI (W.2.2.1 q)) ∧ (∀ q, q < N → μ.1 (i + 4) q = nI (W.2.2.2.1 q)) ∧ (∀ q, q < N → μ.1 (i + 5) q = W.2.2.2.2.1 q) ∧ (∀ d, d < 4 → μ.1 (i + 6) d = W.2.2.2.2.2.1 d) ∧ μ.1 i 7 = W.2.2.2.2.2.2.1 ∧ μ.1 i 8 = W.2.2.2.2.2.2.2
def w_b (T : dw_M) (P N H : Nat) (W : wt) : Prop := (∀ p, p < P → W.1 p ≤ 300 * H) ∧ (∀ p, p < P → W.2.1 p ≤ 1000) ∧ (∀ q, q < N → W.2.2.1 q ≤ a_ho T q) ∧ ∀ q, q < N → W.2.2.2.1 q ≤ 100
/-- the order -/
def o_f (rk : Nat → Nat) (N : Nat) (o : Nat → Nat) : Prop := ∀ t, t < N → o t < N ∧ o_po rk N (o t) = t
theorem o_ex (rk : Nat → Nat) (N : Nat) : ∃ o, o_f rk N o := by
  have h : ∀ t, ∃ q, t < N → q < N ∧ o_po rk N q = t := by
    intro t
    by_cases ht : t < N
    · obtain ⟨q, h1, h2⟩ := o_onto (rk := rk) ht
      exact ⟨q, fun _ => ⟨h1, h2⟩⟩
    · exact ⟨0, fun z => absurd z ht⟩
  obtain ⟨f, hf⟩ := Classical.axiomOfChoice h
  exact ⟨f, hf⟩
theorem o_at {rk : Nat → Nat} {N : Nat} {o : Nat → Nat} (ho : o_f rk N o) {q : Nat} (hq : q < N) : o (o_po rk N q) = q := by
  obtain ⟨h1, h2⟩ := ho _ (o_po_N (rk := rk) hq)
  rcases (by omega : o (o_po rk N q) < q ∨ o (o_po rk N q) = q ∨ q < o (o_po rk N q)) with h | h | h
  · exact absurd h2 (o_po_inj h hq)
  · exact h
  · exact absurd h2.symm (o_po_inj h h1)
section
variable {R C P N : Nat} {T μ : dw_M} {i : Nat}
theorem w_b1 (h : stt R C P N T) {H : Nat} {W : wt} (hb : w_b T P N H W) : a_B T P N (a_w1 T W.1 W.2.1, W.2.2.1) := by
  refine ⟨fun p hp => ?_, hb.2.2.1⟩
  have h1 := hb.2.1 p hp
  obtain ⟨s1, s2, s3, s4, s5, s6, s7, s8, s9, s10, -⟩ := st_so h hp
  show a_w1 T W.1 W.2.1 p ≤ 1000
  unfold a_w1 a_t
  omega
theorem w_b2 (h : stt R C P N T) {H : Nat} {W : wt} (hb : w_b T P N H W) {bk : Nat → Bool} {o : Nat → Nat} (ho : ∀ t, t < N → o t < N) : w_b T P N (H + 1) (hr T C P N bk o W) := by
  have hB := a_D_B (C := C) (ac := a_ac T W.2.2.2.1 bk) (w_b1 h hb) P (Nat.le_refl _)
  refine ⟨fun p hp => ?_, hB.1, fun q hq => a_P_B ho hB.2 N (Nat.le_refl _) q hq, fun q hq => ?_⟩
  · have h1 := hb.1 p hp
    obtain ⟨s1, s2, s3, s4, -⟩ := st_so h hp
    show a_s1 T W.1 W.2.1 p ≤ _
    unfold a_s1
    omega
  · have h1 := hb.2.2.2 q hq
    show W.2.2.2.1 q - 1 ≤ 100
    omega
/-- the first loop: wetting and draining -/
theorem cl_h1 (h : stt R C P N T) (a : ag T μ) (hi : i = 53 ∨ i = 127) (hd : d_ok T C N μ) {bk : Nat → Bool} (hk : ∀ q, q < N → bk q = pg_b (μ.2 (i + 7)) q) {H : Nat} (hH : H ≤ 30000) {W : wt} (hb : w_b T P N H W) (hw : w_c i P N W μ) : ∃ ν, dw_wh (fun v => sX0_passHour_2 i v.1 v.2) 1000 ((0 : Int32), μ) = some ν ∧ (∀ p, p < P → ν.1 (i + 1) p = nI (a_s1 T W.1 W.2.1 p)) ∧ (∀ p, p < P → ν.1 (i + 2) p = nI ((h_D T C N bk W P).1 p)) ∧ (∀ q, q < N → ν.1 (i + 3) q = nI ((h_D T C N bk W P).2 q)) ∧ ν.1 i 7 = a_F T W.2.2.2.2.2.2.1 P ∧ (∀ c k, (c ≠ i ∨ k ≠ 7) → (c ≠ i + 1 ∨ P ≤ k) → (c ≠ i + 2 ∨ P ≤ k) → (c ≠ i + 3 ∨ N ≤ k) → ν.1 c k = μ.1 c k) ∧ ν.2 = μ.2 := by
  obtain ⟨hN, hP, hC1, hC6⟩ := st_20 h
  obtain ⟨e0, e1, e2, e3, e4, e5⟩ := st_dim h
  obtain ⟨w1, w2, w3, w4, w5, w6, w7, w8⟩ := hw
  refine pb_inv (step := fun v : Int32 × dw_M => sX0_passHour_2 i v.1 v.2) (fun p x => x.1 = nI p ∧ (∀ k, k < p → x.2.1 (i + 1) k = nI (a_s1 T W.1 W.2.1 k)) ∧ (∀ k, k < p → x.2.1 (i + 2) k = nI ((h_D T C N bk W p).1 k)) ∧ (∀ q, q < N → x.2.1 (i + 3) q = nI ((h_D T C N bk W p).2 q)) ∧ x.2.1 i 7 = a_F T W.2.2.2.2.2.2.1 p ∧ (∀ c k, (c ≠ i ∨ k ≠ 7) → (c ≠ i + 1 ∨ p ≤ k) → (c ≠ i + 2 ∨ p ≤ k) → (c ≠ i + 3 ∨ N ≤ k) → x.2.1 c k = μ.1 c k) ∧ x.2.2 = μ.2) P _ (fun p x hp hx => ?_) (fun x hx => ?_) (fuel := 1000) (by omega) (x := ((0 : Int32), μ)) ⟨rfl, fun k hk => absurd hk (by omega), fun k hk => absurd hk (by omega), w3, w7, fun _ _ _ _ _ _ => rfl, rfl⟩
  · obtain ⟨x, ν⟩ := x
    obtain ⟨f1, f2, f3, f4, f5, f6, f7⟩ := hx
    have f1 : x = nI p := f1
    have f2 : ∀ k, k < p → ν.1 (i + 1) k = nI (a_s1 T W.1 W.2.1 k) := f2
    have f3 : ∀ k, k < p → ν.1 (i + 2) k = nI ((h_D T C N bk W p).1 k) := f3
    have f4 : ∀ q, q < N → ν.1 (i + 3) q = nI ((h_D T C N bk W p).2 q) := f4
    have f5 : ν.1 i 7 = a_F T W.2.2.2.2.2.2.1 p := f5
    have f6 : ∀ c k, (c ≠ i ∨ k ≠ 7) → (c ≠ i + 1 ∨ p ≤ k) → (c ≠ i + 2 ∨ p ≤ k) → (c ≠ i + 3 ∨ N ≤ k) → ν.1 c k = μ.1 c k := f6
    have f7 : ν.2 = μ.2 := f7
    subst f1
    left
    have ag1 : ag T ν := ⟨fun c k hc => by rw [f6 _ _ (by omega) (by omega) (by omega) (by omega)]; exact a.1 c k hc, fun j hj hm => by rw [f6 _ _ (by omega) (by omega) (by omega) (by omega)]; exact a.2 j hj hm⟩
    have hs := hb.1 p hp
    have hwb := hb.2.1 p hp
    obtain ⟨ν1, g1, g2, g3, g4, g5, g6⟩ := cl_wp h ag1 hi hp (s := W.1) (w := W.2.1) (by omega) hwb (by rw [f6 _ _ (by omega) (by omega) (by omega) (by omega)]; exact w1 p hp) (by rw [f6 _ _ (by omega) (by omega) (by omega) (by omega)]; exact w2 p hp)
    have ag2 : ag T ν1 := ⟨fun c k hc => by rw [g5 _ _ (by omega) (by omega) (by omega)]; exact ag1.1 c k hc, fun j hj hm => by rw [g5 _ _ (by omega) (by omega) (by omega)]; exact ag1.2 j hj hm⟩
    have hd2 : d_ok T C N ν1 := ⟨fun k hk => by rw [g5 _ _ (by omega) (by omega) (by omega), f6 _ _ (by omega) (by omega) (by omega) (by omega)]; exact hd.1 k hk, fun k q h1 h2 h3 => by rw [g5 _ _ (by omega) (by omega) (by omega), f6 _ _ (by omega) (by omega) (by omega) (by omega)]; exact hd.2 k q h1 h2 h3⟩
    have hB := a_D_B (C := C) (ac := a_ac T W.2.2.2.1 bk) (w_b1 h hb) p (by omega)
    have hwp : ν1.1 (i + 2) p = nI ((h_D T C N bk W p).1 p) := by
      rw [g4]
      unfold h_D
      rw [a_D_o p (Nat.le_refl _)]
    obtain ⟨ν2, k1, k2, k3, k4, k5⟩ := cl_dp h ag2 hi hd2 hp (l := W.2.2.2.1) (bk := bk) (fun q hq => ⟨hb.2.2.2 q hq, by rw [g5 _ _ (by omega) (by omega) (by omega), f6 _ _ (by omega) (by omega) (by omega) (by omega)]; exact w4 q hq⟩) (fun q hq => by rw [g6, f7]; exact hk q hq) hB hwp (fun q hq => by rw [g5 _ _ (by omega) (by omega) (by omega)]; exact f4 q hq)
    have hD : h_D T C N bk W (p + 1) = a_dr T C (a_ac T W.2.2.2.1 bk) p (h_D T C N bk W p) N := rfl
    refine ⟨(nI (p + 1), ν2), ?_, rfl, fun k hk => ?_, fun k hk => ?_, fun q hq => ?_, ?_, fun c k h1 h2 h3 h4 => ?_, ?_⟩
    · show sX0_passHour_2 i (nI p) ν = _
      unfold sX0_passHour_2
      rw [f6 2 1 (by omega) (by omega) (by omega) (by omega), a.1 _ _ (by omega), e4, if_neg (nI_ge hp (by omega)), pb_bd g1, pb_bd k1, nI_1]
      rfl
    · show ν2.1 (i + 1) k = _
      rw [k4 _ _ (by omega) (by omega)]
      by_cases e : k = p
      · rw [e, g3]
      · rw [g5 _ _ (by omega) (by omega) (by omega)]
        exact f2 k (by omega)
    · show ν2.1 (i + 2) k = _
      by_cases e : k = p
      · rw [e, k2]
        rfl
      · rw [k4 _ _ (by omega) (by omega), g5 _ _ (by omega) (by omega) (by omega), f3 k (by omega), hD, a_dr_o e]
    · show ν2.1 (i + 3) q = _
      rw [k3 q hq]
      rfl
    · show ν2.1 i 7 = _
      rw [k4 _ _ (by omega) (by omega), g2, f5]
      rfl
    · show ν2.1 c k = _
      rw [k4 _ _ (by omega) (by omega), g5 _ _ (by omega) (by omega) (by omega), f6 _ _ (by omega) (by omega) (by omega) (by omega)]
    · show ν2.2 = _
      rw [k5, g6, f7]
  · obtain ⟨x, ν⟩ := x
    obtain ⟨f1, f2, f3, f4, f5, f6, f7⟩ := hx
    have f1 : x = nI P := f1
    have f6 : ∀ c k, (c ≠ i ∨ k ≠ 7) → (c ≠ i + 1 ∨ P ≤ k) → (c ≠ i + 2 ∨ P ≤ k) → (c ≠ i + 3 ∨ N ≤ k) → ν.1 c k = μ.1 c k := f6
    subst f1
    refine ⟨ν, ?_, f2, f3, f4, f5, f6, f7⟩
    show sX0_passHour_2 i (nI P) ν = _
    unfold sX0_passHour_2
    rw [f6 2 1 (by omega) (by omega) (by omega) (by omega), a.1 _ _ (by omega), e4, if_pos (nI_le (Nat.le_refl _) (by omega))]
/-- the plan's order as the hour uses it -/
def p_ok (N : Nat) (o : Nat → Nat) (μ : dw_M) : Prop := (∀ t, t < N → o t < N) ∧ ∃ rk, o_f rk N o ∧ r_ok rk N μ
theorem p_ok_c {N : Nat} {o : Nat → Nat} {μ ν : dw_M} (h : p_ok N o μ) (e1 : ∀ k, ν.1 136 k = μ.1 136 k) (e2 : ν.1 135 1 = μ.1 135 1) : p_ok N o ν := by
  obtain ⟨h1, rk, h2, h3, m, h4, h5, h6⟩ := h
  exact ⟨h1, rk, h2, fun q hq => by rw [e1]; exact h3 q hq, m, h4, by rw [e2]; exact h5, h6⟩
theorem p_ok_i {N : Nat} {rk o : Nat → Nat} {μ : dw_M} (ho : o_f rk N o) (h : r_ok rk N μ) : p_ok N o μ := ⟨fun t ht => (ho t ht).1, rk, ho, h⟩
/-- the class behind t pipes of the order -/
def c_p (i N : Nat) (μ : dw_M) (X : (Nat → Nat) × (Nat → Int32) × (Nat → Int32)) (ν : dw_M) : Prop := (∀ q, q < N → ν.1 (i + 3) q = nI (X.1 q)) ∧ (∀ q, q < N → ν.1 (i + 5) q = X.2.1 q) ∧ (∀ d, d < 4 → ν.1 (i + 6) d = X.2.2 d) ∧ (∀ c k, c ≠ i + 6 → (c ≠ i + 5 ∨ N ≤ k) → (c ≠ i + 3 ∨ N ≤ k) → ν.1 c k = μ.1 c k) ∧ ν.2 = μ.2
theorem cl_p1 (h : stt R C P N T) (a : ag T μ) (hi : i = 53 ∨ i = 127) {o : Nat → Nat} (ho : ∀ t, t < N → o t < N) {bk : Nat → Bool} (hk : ∀ q, q < N → bk q = pg_b (μ.2 (i + 7)) q) {n : Nat → Nat} {pa g : Nat → Int32} (hB : ∀ q, q < N → n q ≤ a_ho T q) {t : Nat} (ht : t < N) {ν : dw_M} (hc : c_p i N μ (a_P T bk o n pa g t) ν) : ∃ ξ, fX0_passOn ν i (nI (o t)) = some ξ ∧ c_p i N μ (a_P T bk o n pa g (t + 1)) ξ := by
  obtain ⟨hN, hP, hC1, hC6⟩ := st_20 h
  obtain ⟨f2, f3, f4, f5, f6⟩ := hc
  have ag1 : ag T ν := ⟨fun c k hc => by rw [f5 _ _ (by omega) (by omega) (by omega)]; exact a.1 c k hc, fun j hj hm => by rw [f5 _ _ (by omega) (by omega) (by omega)]; exact a.2 j hj hm⟩
  obtain ⟨ν1, g1, g2, g3, g4, g5, g6⟩ := cl_pass h ag1 hi (ho t ht) (bk := bk) (fun q hq => by rw [f6]; exact hk q hq) (a_P_B ho hB t (by omega)) f2 f4
  refine ⟨ν1, g1, g2, fun q hq => ?_, g4, fun c k h1 h2 h3 => ?_, by rw [g6, f6]⟩
  · show ν1.1 (i + 5) q = upd (a_P T bk o n pa g t).2.1 (o t) _ q
    rw [g3 q]
    unfold upd
    by_cases e : q = o t
    · rw [if_pos e, if_pos e]
    · rw [if_neg e, if_neg e]
      exact f3 q hq
  · have hot := ho t ht
    by_cases e : c = i + 5
    · subst e
      rw [g3 k, if_neg (by omega)]
      exact f5 _ k h1 h2 h3
    · rw [g5 c k h1 e h3, f5 c k h1 h2 h3]
/-- the second loop: passing on -/
theorem cl_h2 (h : stt R C P N T) (a : ag T μ) (hi : i = 53 ∨ i = 127) {o : Nat → Nat} (hp : p_ok N o μ) {bk : Nat → Bool} (hk : ∀ q, q < N → bk q = pg_b (μ.2 (i + 7)) q) {n : Nat → Nat} {pa g : Nat → Int32} (hB : ∀ q, q < N → n q ≤ a_ho T q) (en : ∀ q, q < N → μ.1 (i + 3) q = nI (n q)) (ea : ∀ q, q < N → μ.1 (i + 5) q = pa q) (eg : ∀ d, d < 4 → μ.1 (i + 6) d = g d) : ∃ ν, dw_wh (fun v => sX0_passHour_35 i v.1 v.2) 1000 ((0 : Int32), μ) = some ν ∧ c_p i N μ (a_P T bk o n pa g N) ν := by
  obtain ⟨hN, hP, hC1, hC6⟩ := st_20 h
  obtain ⟨e0, e1, e2, e3, e4, e5⟩ := st_dim h
  obtain ⟨ho, rk, hof, hr1, m, hm, hr2, hr3⟩ := hp
  have inner : ∀ (r : Nat) (ν : dw_M), r ≤ m → c_p i N μ (a_P T bk o n pa g (o_cu rk N r)) ν → ∃ ξ, dw_wh (fun v => sX0_passHour_46 i (nI r) v.1 v.2) 1000 ((0 : Int32), ν) = some ξ ∧ c_p i N μ (a_P T bk o n pa g (o_cu rk N (r + 1))) ξ := by
    intro r ν hr hc
    refine pb_inv (step := fun v : Int32 × dw_M => sX0_passHour_46 i (nI r) v.1 v.2) (fun q z => z.1 = nI q ∧ c_p i N μ (a_P T bk o n pa g (o_cu rk N r + o_cn rk r q)) z.2) N _ (fun q z hq hz => ?_) (fun z hz => ?_) (fuel := 1000) (by omega) (x := ((0 : Int32), ν)) ⟨rfl, by show c_p i N μ (a_P T bk o n pa g (o_cu rk N r + 0)) ν; rw [Nat.add_zero]; exact hc⟩
    · obtain ⟨z1, ρ⟩ := z
      obtain ⟨f1, f2⟩ := hz
      have f1 : z1 = nI q := f1
      have f2 : c_p i N μ (a_P T bk o n pa g (o_cu rk N r + o_cn rk r q)) ρ := f2
      subst f1
      left
      have eN : ρ.1 11 1 = nI N := by rw [f2.2.2.2.1 _ _ (by omega) (by omega) (by omega), a.1 _ _ (by omega), e5]
      have eR : ρ.1 136 q = nI (rk q) := by rw [f2.2.2.2.1 _ _ (by omega) (by omega) (by omega)]; exact hr1 q hq
      have hrq := hr3 q hq
      by_cases e : rk q = r
      · have hpo : o_po rk N q = o_cu rk N r + o_cn rk r q := by unfold o_po; rw [e]
        have hot := o_at hof hq
        rw [hpo] at hot
        have hlt := o_po_N (rk := rk) hq
        rw [hpo] at hlt
        have hcn : o_cu rk N r + o_cn rk r (q + 1) = (o_cu rk N r + o_cn rk r q) + 1 := by
          unfold o_cn
          rw [fb_ct_succ, decide_eq_true e]
          rfl
        obtain ⟨ξ, g1, g2⟩ := cl_p1 h a hi ho hk hB hlt f2
        rw [hot] at g1
        refine ⟨(nI (q + 1), ξ), ?_, rfl, ?_⟩
        · show sX0_passHour_46 i (nI r) (nI q) ρ = _
          unfold sX0_passHour_46
          rw [eN, if_neg (nI_ge hq (by omega)), pb_gd (pb_ok rfl (by omega) (by decide)), pb_cl rfl (by omega), eR, if_pos (by rw [e]), pb_bd g1, nI_1]
          rfl
        · show c_p i N μ (a_P T bk o n pa g (o_cu rk N r + o_cn rk r (q + 1))) ξ
          rw [hcn]
          exact g2
      · have hcn : o_cu rk N r + o_cn rk r (q + 1) = o_cu rk N r + o_cn rk r q := by
          unfold o_cn
          rw [fb_ct_succ, decide_eq_false e]
          rfl
        refine ⟨(nI (q + 1), ρ), ?_, rfl, ?_⟩
        · show sX0_passHour_46 i (nI r) (nI q) ρ = _
          unfold sX0_passHour_46
          rw [eN, if_neg (nI_ge hq (by omega)), pb_gd (pb_ok rfl (by omega) (by decide)), pb_cl rfl (by omega), eR, if_neg (fun z => e ((nI_eq (by omega) (by omega)).mp z)), nI_1]
          rfl
        · show c_p i N μ (a_P T bk o n pa g (o_cu rk N r + o_cn rk r (q + 1))) ρ
          rw [hcn]
          exact f2
    · obtain ⟨z1, ρ⟩ := z
      obtain ⟨f1, f2⟩ := hz
      have f1 : z1 = nI N := f1
      have f2 : c_p i N μ (a_P T bk o n pa g (o_cu rk N r + o_cn rk r N)) ρ := f2
      subst f1
      have eN : ρ.1 11 1 = nI N := by rw [f2.2.2.2.1 _ _ (by omega) (by omega) (by omega), a.1 _ _ (by omega), e5]
      refine ⟨ρ, ?_, ?_⟩
      · show sX0_passHour_46 i (nI r) (nI N) ρ = _
        unfold sX0_passHour_46
        rw [eN, if_pos (nI_le (Nat.le_refl _) (by omega))]
      · rw [o_cu_s]
        exact f2
  have hall : o_cu rk N (m + 1) = N := fb_ct_all.mpr (fun k hk => decide_eq_true (by have := hr3 k hk; omega))
  refine pb_inv (step := fun v : Int32 × dw_M => sX0_passHour_35 i v.1 v.2) (fun r z => z.1 = nI r ∧ c_p i N μ (a_P T bk o n pa g (o_cu rk N r)) z.2) (m + 1) _ (fun r z hr hz => ?_) (fun z hz => ?_) (fuel := 1000) (by omega) (x := ((0 : Int32), μ)) ⟨rfl, ?_⟩
  · obtain ⟨z1, ρ⟩ := z
    obtain ⟨f1, f2⟩ := hz
    have f1 : z1 = nI r := f1
    have f2 : c_p i N μ (a_P T bk o n pa g (o_cu rk N r)) ρ := f2
    subst f1
    left
    obtain ⟨ξ, q1, q2⟩ := inner r ρ (by omega) f2
    refine ⟨(nI (r + 1), ξ), ?_, rfl, q2⟩
    show sX0_passHour_35 i (nI r) ρ = _
    unfold sX0_passHour_35
    rw [f2.2.2.2.1 135 1 (by omega) (by omega) (by omega), hr2, if_neg (nI_nlt (by omega) (by omega)), pb_bd q1, nI_1]
    rfl
  · obtain ⟨z1, ρ⟩ := z
    obtain ⟨f1, f2⟩ := hz
    have f1 : z1 = nI (m + 1) := f1
    have f2 : c_p i N μ (a_P T bk o n pa g (o_cu rk N (m + 1))) ρ := f2
    subst f1
    refine ⟨ρ, ?_, ?_⟩
    · show sX0_passHour_35 i (nI (m + 1)) ρ = _
      unfold sX0_passHour_35
      rw [f2.2.2.2.1 135 1 (by omega) (by omega) (by omega), hr2, if_pos (nI_lt (by omega) (by omega))]
    · rw [hall] at f2
      exact f2
  · show c_p i N μ (a_P T bk o n pa g (o_cu rk N 0)) μ
    rw [show o_cu rk N 0 = 0 from fb_ct_zero.mpr (fun k _ => by simp)]
    exact ⟨en, ea, eg, fun _ _ _ _ _ => rfl, rfl⟩
/-- the third loop: lives -/
theorem cl_h3 (h : stt R C P N T) (a : ag T μ) (hi : i = 53 ∨ i = 127) {l : Nat → Nat} (hl : ∀ q, q < N → l q ≤ 100 ∧ μ.1 (i + 4) q = nI (l q)) : ∃ ν, dw_wh (fun v => sX0_passHour_91 i v.1 v.2) 1000 ((0 : Int32), μ) = some ν ∧ (∀ q, q < N → ν.1 (i + 4) q = nI (l q - 1)) ∧ (∀ c k, (c ≠ i + 4 ∨ N ≤ k) → ν.1 c k = μ.1 c k) ∧ ν.2 = μ.2 := by
  obtain ⟨hN, hP, hC1, hC6⟩ := st_20 h
  obtain ⟨e0, e1, e2, e3, e4, e5⟩ := st_dim h
  refine pb_inv (step := fun v : Int32 × dw_M => sX0_passHour_91 i v.1 v.2) (fun t x => x.1 = nI t ∧ (∀ q, q < t → x.2.1 (i + 4) q = nI (l q - 1)) ∧ (∀ c k, (c ≠ i + 4 ∨ t ≤ k) → x.2.1 c k = μ.1 c k) ∧ x.2.2 = μ.2) N _ (fun t x ht hx => ?_) (fun x hx => ?_) (fuel := 1000) (by omega) (x := ((0 : Int32), μ)) ⟨rfl, fun q hq => absurd hq (by omega), fun _ _ _ => rfl, rfl⟩
  · obtain ⟨x, ν⟩ := x
    obtain ⟨f1, f2, f3, f4⟩ := hx
    have f1 : x = nI t := f1
    have f2 : ∀ q, q < t → ν.1 (i + 4) q = nI (l q - 1) := f2
    have f3 : ∀ c k, (c ≠ i + 4 ∨ t ≤ k) → ν.1 c k = μ.1 c k := f3
    have f4 : ν.2 = μ.2 := f4
    subst f1
    left
    obtain ⟨l1, l2⟩ := hl t ht
    have el : ν.1 (i + 4) t = nI (l t) := by rw [f3 _ _ (by omega), l2]
    refine ⟨(nI (t + 1), dw_st ν (i + 4) t (nI (l t - 1))), ?_, rfl, fun q hq => ?_, fun c k h1 => ?_, f4⟩
    · show sX0_passHour_91 i (nI t) ν = _
      unfold sX0_passHour_91
      rw [f3 11 1 (by omega), a.1 _ _ (by omega), e5, if_neg (nI_ge ht (by omega)), pb_gd (pb_ok rfl (by omega) (by decide)), pb_cl rfl (by omega), el, show dw_mx 0 (nI (l t) - 1) = nI (l t - 1) from mx_n (a := l t) (b := 1) (by omega) (by omega), nI_1]
      rfl
    · show (dw_st ν (i + 4) t _).1 (i + 4) q = _
      by_cases e : q = t
      · rw [e, pb_i]
      · rw [pb_o (by omega)]
        exact f2 q (by omega)
    · show (dw_st ν (i + 4) t _).1 c k = _
      rw [pb_o (by omega)]
      exact f3 c k (by omega)
  · obtain ⟨x, ν⟩ := x
    obtain ⟨f1, f2, f3, f4⟩ := hx
    have f1 : x = nI N := f1
    have f3 : ∀ c k, (c ≠ i + 4 ∨ N ≤ k) → ν.1 c k = μ.1 c k := f3
    subst f1
    refine ⟨ν, ?_, f2, f3, f4⟩
    show sX0_passHour_91 i (nI N) ν = _
    unfold sX0_passHour_91
    rw [f3 11 1 (by omega), a.1 _ _ (by omega), e5, if_pos (nI_le (Nat.le_refl _) (by omega))]
/-- what the class's hour leaves as it is -/
def w_f (i P N : Nat) (μ ν : dw_M) : Prop := (∀ c k, (c < i ∨ i + 7 ≤ c) → ν.1 c k = μ.1 c k) ∧ (∀ c k, (c = i + 1 ∨ c = i + 2) → P ≤ k → ν.1 c k = μ.1 c k) ∧ (∀ c k, (c = i + 3 ∨ c = i + 4 ∨ c = i + 5) → N ≤ k → ν.1 c k = μ.1 c k) ∧ ν.2 = μ.2
theorem w_f0 (i P N : Nat) (μ : dw_M) : w_f i P N μ μ := ⟨fun _ _ _ => rfl, fun _ _ _ _ => rfl, fun _ _ _ _ => rfl, rfl⟩
theorem w_ft {i P N : Nat} {μ ν ξ : dw_M} (h : w_f i P N μ ν) (h2 : w_f i P N ν ξ) : w_f i P N μ ξ := ⟨fun c k hc => (h2.1 c k hc).trans (h.1 c k hc), fun c k hc hk => (h2.2.1 c k hc hk).trans (h.2.1 c k hc hk), fun c k hc hk => (h2.2.2.1 c k hc hk).trans (h.2.2.1 c k hc hk), h2.2.2.2.trans h.2.2.2⟩
theorem cl_hr (h : stt R C P N T) (a : ag T μ) (hi : i = 53 ∨ i = 127) (hd : d_ok T C N μ) {o : Nat → Nat} (ho : p_ok N o μ) {bk : Nat → Bool} (hk : ∀ q, q < N → bk q = pg_b (μ.2 (i + 7)) q) {H : Nat} (hH : H ≤ 30000) {W : wt} (hb : w_b T P N H W) (hw : w_c i P N W μ) : ∃ ν, fX0_passHour μ i = some ν ∧ w_c i P N (hr T C P N bk o W) ν ∧ w_f i P N μ ν := by
  obtain ⟨ν1, a1, a2, a3, a4, a5, a6, a7⟩ := cl_h1 h a hi hd hk hH hb hw
  obtain ⟨w1, w2, w3, w4, w5, w6, w7, w8⟩ := hw
  have ag1 : ag T ν1 := ⟨fun c k hc => by rw [a6 _ _ (by omega) (by omega) (by omega) (by omega)]; exact a.1 c k hc, fun j hj hm => by rw [a6 _ _ (by omega) (by omega) (by omega) (by omega)]; exact a.2 j hj hm⟩
  have hB := a_D_B (C := C) (ac := a_ac T W.2.2.2.1 bk) (w_b1 h hb) P (Nat.le_refl _)
  obtain ⟨ν2, b1, b2, b3, b4, b5, b6⟩ := cl_h2 h ag1 hi (o := o) (p_ok_c ho (fun k => a6 _ _ (by omega) (by omega) (by omega) (by omega)) (a6 _ _ (by omega) (by omega) (by omega) (by omega))) (bk := bk) (fun q hq => by rw [a7]; exact hk q hq) hB.2 a4 (pa := W.2.2.2.2.1) (g := W.2.2.2.2.2.1) (fun q hq => by rw [a6 _ _ (by omega) (by omega) (by omega) (by omega)]; exact w5 q hq) (fun d hd => by rw [a6 _ _ (by omega) (by omega) (by omega) (by omega)]; exact w6 d hd)
  have ag2 : ag T ν2 := ⟨fun c k hc => by rw [b5 _ _ (by omega) (by omega) (by omega)]; exact ag1.1 c k hc, fun j hj hm => by rw [b5 _ _ (by omega) (by omega) (by omega)]; exact ag1.2 j hj hm⟩
  obtain ⟨ν3, c1, c2, c3, c4⟩ := cl_h3 h ag2 hi (l := W.2.2.2.1) (fun q hq => ⟨hb.2.2.2 q hq, by rw [b5 _ _ (by omega) (by omega) (by omega), a6 _ _ (by omega) (by omega) (by omega) (by omega)]; exact w4 q hq⟩)
  refine ⟨dw_st ν3 i 8 (ν3.1 i 8 + 1), ?_, ⟨fun p hp => ?_, fun p hp => ?_, fun q hq => ?_, fun q hq => ?_, fun q hq => ?_, fun d hd => ?_, ?_, ?_⟩, fun c k hc => ?_, fun c k hc hk => ?_, fun c k hc hk => ?_, ?_⟩
  · unfold fX0_passHour
    rw [pb_bd a1, pb_bd b1, pb_bd c1]
    rfl
  · rw [pb_o (by omega), c3 _ _ (by omega), b5 _ _ (by omega) (by omega) (by omega)]
    exact a2 p hp
  · rw [pb_o (by omega), c3 _ _ (by omega), b5 _ _ (by omega) (by omega) (by omega)]
    exact a3 p hp
  · rw [pb_o (by omega), c3 _ _ (by omega)]
    exact b2 q hq
  · rw [pb_o (by omega)]
    exact c2 q hq
  · rw [pb_o (by omega), c3 _ _ (by omega)]
    exact b3 q hq
  · rw [pb_o (by omega), c3 _ _ (by omega)]
    exact b4 d hd
  · rw [pb_o (by omega), c3 _ _ (by omega), b5 _ _ (by omega) (by omega) (by omega)]
    exact a5
  · rw [pb_i, c3 _ _ (by omega), b5 _ _ (by omega) (by omega) (by omega), a6 _ _ (by omega) (by omega) (by omega) (by omega), w8]
    rfl
  · rw [pb_o (by omega), c3 _ _ (by omega), b5 _ _ (by omega) (by omega) (by omega), a6 _ _ (by omega) (by omega) (by omega) (by omega)]
  · rw [pb_o (by omega), c3 _ _ (by omega), b5 _ _ (by omega) (by omega) (by omega), a6 _ _ (by omega) (by omega) (by omega) (by omega)]
  · rw [pb_o (by omega), c3 _ _ (by omega), b5 _ _ (by omega) (by omega) (by omega), a6 _ _ (by omega) (by omega) (by omega) (by omega)]
  · show ν3.2 = _
    rw [c4, b6, a7]
end
