/-! the reference's hour: rain, soil, drains -/
theorem ls_t {m k w : Nat} (hm : m < 2 ^ 31) (hk : k ≤ 1000) (hw : w ≤ 1000) : (fX10_lesser (nI m) (nI k - nI w) ≤ 0 ∧ min m (k - w) = 0) ∨ (¬ fX10_lesser (nI m) (nI k - nI w) ≤ 0 ∧ fX10_lesser (nI m) (nI k - nI w) = nI (min m (k - w))) := by
  by_cases c : w ≤ k
  · rw [pk_sub c, ls_n hm (by omega)]
    by_cases c2 : min m (k - w) = 0
    · left
      rw [c2]
      exact ⟨by decide, rfl⟩
    · right
      exact ⟨nI_nle (by omega) (by omega), rfl⟩
  · left
    have h := pk_sub_toInt (a := k) (b := w) (by omega) (by omega)
    have h0 : (0 : Int32).toInt = 0 := rfl
    have h1 := nI_toInt (n := m) hm
    refine ⟨?_, by omega⟩
    unfold fX10_lesser
    rw [if_pos (by rw [fa_le, h, h1]; omega), fa_le, h]
    omega
theorem jm_over {β : Type} (K : Int32 → Option β) (r8 : Int32) {X : Option Int32} {v : Int32} (hX : X = some v) : dw_jm K (fun k48 => dw_jm (k48 (0 : Int32)) (fun k47 => if r8 = (2 : Int32) then dw_bd X (fun r40 => if r40 = 0 then k48 (1 : Int32) else k47) else k47)) = K (b2i (decide (r8 = 2 ∧ v = 0))) := by
  show (if r8 = (2 : Int32) then dw_bd X (fun r40 => if r40 = 0 then K 1 else K 0) else K 0) = _
  rw [pb_bd hX]
  by_cases c1 : r8 = 2
  · rw [if_pos c1]
    by_cases c2 : v = 0
    · rw [if_pos c2, decide_eq_true ⟨c1, c2⟩]; rfl
    · rw [if_neg c2, decide_eq_false (fun z => c2 z.2)]; rfl
  · rw [if_neg c1, decide_eq_false (fun z => c1 z.1)]; rfl
section
variable {R C P N : Nat} {T μ : dw_M}
theorem md_so (h : stt R C P N T) (a : ag T μ) {p : Nat} (hp : p < P) : fX10_soilOf μ (nI p) 0 = some (nI (a_tk T p)) ∧ fX10_soilOf μ (nI p) 1 = some (nI (a_gv T p)) ∧ fX10_soilOf μ (nI p) 2 = some (nI (a_kp T p)) := by
  have hs := stt_ag h a
  obtain ⟨hN, hP, -⟩ := st_20 h
  obtain ⟨s1, s2, s3, s4, s5, s6, s7, s8, s9, s10, -⟩ := st_so h hp
  obtain ⟨m0, m1, m2, -⟩ := md_soil hs.2.1 hs.2.2.1 hP hp
  rw [m0, m1, m2, a.1 5 _ (by omega), a.1 6 _ (by omega), a.1 7 _ (by omega), a.1 4 _ (by omega)]
  exact ⟨congrArg some s5, congrArg some s7, congrArg some s9⟩
theorem md_fall (h : stt R C P N T) (a : ag T μ) {s w : Nat → Nat} (hs : ∀ p, p < P → s p ≤ 100000000) (hw : ∀ p, p < P → w p ≤ 1000) (es : ∀ p, p < P → μ.1 143 (100 + p) = nI (s p)) (ew : ∀ p, p < P → μ.1 143 (140 + p) = nI (w p)) {fe : Int32} (ef : μ.1 143 8 = fe) : ∃ ν, fX10_fall μ = some ν ∧ (∀ p, p < P → ν.1 143 (100 + p) = nI (a_s1 T s w p)) ∧ (∀ p, p < P → ν.1 143 (140 + p) = nI (a_w1 T s w p)) ∧ ν.1 143 8 = a_F T fe P ∧ (∀ c j, (c ≠ 143 ∨ (j ≠ 8 ∧ (j < 100 ∨ 100 + P ≤ j) ∧ (j < 140 ∨ 140 + P ≤ j))) → ν.1 c j = μ.1 c j) ∧ ν.2 = μ.2 := by
  obtain ⟨hN, hP, hC1, hC6⟩ := st_20 h
  obtain ⟨e0, e1, e2, e3, e4, e5⟩ := st_dim h
  obtain ⟨r, g1, g2⟩ := pb_inv (step := fun v : Int32 × dw_M => sX10_fall_2 v.1 v.2) (fun p x => x.1 = nI p ∧ (∀ k, k < p → x.2.1 143 (100 + k) = nI (a_s1 T s w k)) ∧ (∀ k, k < p → x.2.1 143 (140 + k) = nI (a_w1 T s w k)) ∧ x.2.1 143 8 = a_F T fe p ∧ (∀ c j, (c ≠ 143 ∨ (j ≠ 8 ∧ (j < 100 ∨ 100 + p ≤ j) ∧ (j < 140 ∨ 140 + p ≤ j))) → x.2.1 c j = μ.1 c j) ∧ x.2.2 = μ.2) P (fun ν => (∀ p, p < P → ν.1 143 (100 + p) = nI (a_s1 T s w p)) ∧ (∀ p, p < P → ν.1 143 (140 + p) = nI (a_w1 T s w p)) ∧ ν.1 143 8 = a_F T fe P ∧ (∀ c j, (c ≠ 143 ∨ (j ≠ 8 ∧ (j < 100 ∨ 100 + P ≤ j) ∧ (j < 140 ∨ 140 + P ≤ j))) → ν.1 c j = μ.1 c j) ∧ ν.2 = μ.2) (fun p x hp hx => by
    obtain ⟨x, ν⟩ := x
    obtain ⟨f1, f2, f3, f4, f5, f6⟩ := hx
    have f1 : x = nI p := f1
    have f2 : ∀ k, k < p → ν.1 143 (100 + k) = nI (a_s1 T s w k) := f2
    have f3 : ∀ k, k < p → ν.1 143 (140 + k) = nI (a_w1 T s w k) := f3
    have f4 : ν.1 143 8 = a_F T fe p := f4
    have f5 : ∀ c j, (c ≠ 143 ∨ (j ≠ 8 ∧ (j < 100 ∨ 100 + p ≤ j) ∧ (j < 140 ∨ 140 + p ≤ j))) → ν.1 c j = μ.1 c j := f5
    have f6 : ν.2 = μ.2 := f6
    subst f1
    left
    obtain ⟨s1, s2, s3, s4, s5, s6, s7, s8, s9, s10, s11, s12⟩ := st_so h hp
    have hs0 := hs p hp
    have hw0 := hw p hp
    have p0 : fX10_places ν = nI P := pv_pl (R := R) (C := C) (by rw [f5 _ _ (by omega), a.2 _ (by omega) (msl_l (by omega) (by omega) (by omega)), e0]) (by rw [f5 _ _ (by omega), a.2 _ (by omega) (msl_l (by omega) (by omega) (by omega)), e1]) e2
    have i1 : ν.1 143 (100 + p) = nI (s p) := by rw [f5 _ _ (by omega), es p hp]
    have i2 : ν.1 143 (140 + p) = nI (w p) := by rw [f5 _ _ (by omega), ew p hp]
    have i3 : ν.1 143 (180 + p) = nI (a_rn T p) := by rw [f5 _ _ (by omega), a.2 _ (by omega) (msl_l (by omega) (by omega) (by omega)), s12]
    obtain ⟨m7, hm7⟩ : ∃ m7, m7 = dw_st (dw_st ν 143 (100 + p) (nI (s p + a_rn T p))) 143 8 (a_F T fe (p + 1)) := ⟨_, rfl⟩
    have m71 : m7.1 143 (100 + p) = nI (s p + a_rn T p) := by rw [hm7, pb_o (by omega), pb_i]
    have m72 : m7.1 143 (140 + p) = nI (w p) := by rw [hm7, pb_o (by omega), pb_o (by omega), i2]
    have m73 : ∀ c j, (c ≠ 143 ∨ (j ≠ 8 ∧ j ≠ 100 + p)) → m7.1 c j = ν.1 c j := fun c j hc => by rw [hm7, pb_o (by omega), pb_o (by omega)]
    have m78 : m7.1 143 8 = a_F T fe (p + 1) := by rw [hm7, pb_i]
    have m79 : m7.2 = μ.2 := by rw [hm7]; exact f6
    have a7 : ag T m7 := ⟨fun c k hc => by rw [m73 _ _ (by omega), f5 _ _ (by omega)]; exact a.1 c k hc, fun j hj hm => by
      have hm' := hm
      unfold msl at hm'
      rw [m73 _ _ (by omega), f5 _ _ (by omega)]
      exact a.2 j hj hm⟩
    obtain ⟨o0, o1, o2⟩ := md_so h a7 hp
    have go : sX10_fall_2 (nI p) ν = if fX10_lesser (nI (min (s p + a_rn T p) (a_tk T p))) (nI (a_kp T p) - nI (w p)) ≤ 0 then some (.inl (nI (p + 1), m7)) else some (.inl (nI (p + 1), dw_st (dw_st m7 143 (100 + p) (nI (s p + a_rn T p) - fX10_lesser (nI (min (s p + a_rn T p) (a_tk T p))) (nI (a_kp T p) - nI (w p)))) 143 (140 + p) (nI (w p) + fX10_lesser (nI (min (s p + a_rn T p) (a_tk T p))) (nI (a_kp T p) - nI (w p))))) := by
      unfold sX10_fall_2
      rw [p0, if_neg (nI_ge hp (by omega)), pv_a (c := 100) (n := 100) rfl, pv_a (c := 180) (n := 180) rfl, pv_a (c := 140) (n := 140) rfl, pb_gd (pb_ok rfl (by omega) (by decide)), pb_gd (pb_ok rfl (by omega) (by decide)), pb_cl (x := nI (100 + p)) rfl (by omega), pb_cl (x := nI (180 + p)) rfl (by omega), pb_cl (x := nI (140 + p)) rfl (by omega), pv_c8, i1, i3, nI_add]
      simp only [dw_nm]
      rw [pb_o (c := 143) (j := 8) (by omega), f4, pb_o (c := 143) (j := 180 + p) (by omega), i3]
      have hm7' : dw_st (dw_st ν 143 (100 + p) (nI (s p + a_rn T p))) 143 8 (a_F T fe p + nI (a_rn T p)) = m7 := hm7.symm
      rw [hm7', pb_bd o2, pb_gd (pb_ok rfl (by omega) (by decide)), pb_bd o0, m71, m72, ls_n (by omega) (by omega), pb_o (c := 143) (j := 140 + p) (by omega), m72, nI_1]
    rcases ls_t (m := min (s p + a_rn T p) (a_tk T p)) (k := a_kp T p) (w := w p) (by omega) (by omega) (by omega) with ⟨c1, c2⟩ | ⟨c1, c2⟩
    · rw [if_pos c1] at go
      have ht : a_t T s w p = 0 := c2
      refine ⟨_, go, rfl, fun k hk => ?_, fun k hk => ?_, m78, fun c j hc => ?_, m79⟩
      · show m7.1 143 (100 + k) = _
        by_cases e : k = p
        · rw [e, m71]
          unfold a_s1
          rw [ht, Nat.sub_zero]
        · rw [m73 _ _ (by omega)]
          exact f2 k (by omega)
      · show m7.1 143 (140 + k) = _
        by_cases e : k = p
        · rw [e, m72]
          unfold a_w1
          rw [ht, Nat.add_zero]
        · rw [m73 _ _ (by omega)]
          exact f3 k (by omega)
      · show m7.1 c j = _
        rw [m73 _ _ (by omega)]
        exact f5 c j (by omega)
    · rw [if_neg c1, c2] at go
      have ht : a_t T s w p = min (min (s p + a_rn T p) (a_tk T p)) (a_kp T p - w p) := rfl
      rw [← ht, pk_sub (by omega), nI_add] at go
      refine ⟨_, go, rfl, fun k hk => ?_, fun k hk => ?_, ?_, fun c j hc => ?_, m79⟩
      · show (dw_st (dw_st m7 143 (100 + p) _) 143 (140 + p) _).1 143 (100 + k) = _
        by_cases e : k = p
        · rw [e, pb_o (by omega), pb_i]
          rfl
        · rw [pb_o (by omega), pb_o (by omega), m73 _ _ (by omega)]
          exact f2 k (by omega)
      · show (dw_st (dw_st m7 143 (100 + p) _) 143 (140 + p) _).1 143 (140 + k) = _
        by_cases e : k = p
        · rw [e, pb_i]
          rfl
        · rw [pb_o (by omega), pb_o (by omega), m73 _ _ (by omega)]
          exact f3 k (by omega)
      · show (dw_st (dw_st m7 143 (100 + p) _) 143 (140 + p) _).1 143 8 = _
        rw [pb_o (by omega), pb_o (by omega), m78]
      · show (dw_st (dw_st m7 143 (100 + p) _) 143 (140 + p) _).1 c j = _
        rw [pb_o (by omega), pb_o (by omega), m73 _ _ (by omega)]
        exact f5 c j (by omega)) (fun x hx => by
    obtain ⟨x, ν⟩ := x
    obtain ⟨f1, f2, f3, f4, f5, f6⟩ := hx
    have f1 : x = nI P := f1
    have f5 : ∀ c j, (c ≠ 143 ∨ (j ≠ 8 ∧ (j < 100 ∨ 100 + P ≤ j) ∧ (j < 140 ∨ 140 + P ≤ j))) → ν.1 c j = μ.1 c j := f5
    subst f1
    have p0 : fX10_places ν = nI P := pv_pl (R := R) (C := C) (by rw [f5 _ _ (by omega), a.2 _ (by omega) (msl_l (by omega) (by omega) (by omega)), e0]) (by rw [f5 _ _ (by omega), a.2 _ (by omega) (msl_l (by omega) (by omega) (by omega)), e1]) e2
    refine ⟨ν, ?_, f2, f3, f4, f5, f6⟩
    show sX10_fall_2 (nI P) ν = _
    unfold sX10_fall_2
    rw [p0, if_pos (nI_le (Nat.le_refl _) (by omega))]) (fuel := 1000) (by omega) (x := ((0 : Int32), μ)) ⟨rfl, fun k hk => absurd hk (by omega), fun k hk => absurd hk (by omega), ef, fun _ _ _ => rfl, rfl⟩
  refine ⟨r, ?_, g2⟩
  unfold fX10_fall
  rw [pb_bd g1]
theorem md_on (h : stt R C P N T) (a : ag T μ) {q t : Nat} (hq : q < N) (ht : t < 36) : (a_on T C q t = true → ∃ k, k < 6 ∧ fX10_stepOf μ (nI q) (nI t) = some (nI k)) ∧ (a_on T C q t = false → fX10_stepOf μ (nI q) (nI t) = some (-1)) := by
  obtain ⟨hN, hP, hC1, hC6⟩ := st_20 h
  obtain ⟨e0, e1, e2, e3, e4, e5⟩ := st_dim h
  obtain ⟨m1, m2, m3, m4, m5, m6⟩ := pp_g hP (h.2.2.2.2.1 q hq)
  have dC : μ.1 143 1 = nI C := by rw [a.2 _ (by omega) (msl_l (by omega) (by omega) (by omega)), e1]
  obtain ⟨g1, g2⟩ := md_son (μ := μ) (q := q) (m := pm T q) (pl := pp T C q) (by omega) (by rw [a.2 _ (by omega) (msl_p (by omega) (by omega)), m3]) m2 (fun k hk => ⟨by have := (m5 k hk).1; omega, by
    rw [md_spl dC hC1 hC6 (by omega), a.2 _ (by omega) (msl_p (by omega) (by omega)), a.2 _ (by omega) (msl_p (by omega) (by omega)), (m5 k hk).2.2.1]⟩) m6 ht
  constructor
  · intro hon
    obtain ⟨k, hk, ek⟩ := anyB_t hon
    exact ⟨k, by omega, g1 k hk (of_decide_eq_true ek)⟩
  · intro hon
    exact g2 (fun k hk => of_decide_eq_false (anyB_f hon k hk))
theorem md_s1 (h : stt R C P N T) (a : ag T μ) {p q : Nat} (hp : p < P) (hq : q < N) {l : Nat → Nat} {bk : Nat → Bool} (hl : l q ≤ 100) (el : μ.1 143 (400 + 20 * q + 6) = nI (l q)) (hb : μ.1 143 (400 + 20 * q + 8) = b2i (bk q)) {s : (Nat → Nat) × (Nat → Nat)} (hB : a_B T P N s) (ew : μ.1 143 (140 + p) = nI (s.1 p)) (en : μ.1 143 (400 + 20 * q + 9) = nI (s.2 q)) : sX10_seep_12 (nI p) (nI q) μ = some (.inl (nI (q + 1), if (a_pr T C p q && a_ac T l bk q) = true then dw_st (dw_st μ 143 (140 + p) (nI (s.1 p - a_x T p q s))) 143 (400 + 20 * q + 9) (nI (s.2 q + a_x T p q s)) else μ)) := by
  obtain ⟨hN, hP, hC1, hC6⟩ := st_20 h
  obtain ⟨e0, e1, e2, e3, e4, e5⟩ := st_dim h
  obtain ⟨s1, s2, s3, s4, s5, s6, s7, s8, s9, s10, s11, s12⟩ := st_so h hp
  obtain ⟨p1, p2, p3, p4, p5⟩ := st_pi h hq
  have hs := stt_ag h a
  have hS1 := hB.1 p hp
  have hS2 := hB.2 q hq
  have dN : μ.1 143 13 = nI N := by rw [a.2 _ (by omega) (msl_l (by omega) (by omega) (by omega)), e3]
  have ek : μ.1 143 (400 + 20 * q) = T.1 (12 + 1 + 2 * q) 1 := by rw [a.2 _ (by omega) msl_0, ← (pp_f (h.2.2.2.2.1 q hq)).1]
  have il0 : (nI (l q) = 0) ↔ l q = 0 := nI_eq (b := 0) (by omega) (by omega)
  have hov : decide (T.1 (12 + 1 + 2 * q) 1 = 2 ∧ nI (l q) = 0) = decide (T.1 (12 + 1 + 2 * q) 1 = 2 ∧ l q = 0) := decide_eq_decide.mpr (by rw [il0])
  have hmul : s.1 p * a_gv T p ≤ 100000 := Nat.mul_le_mul hS1 s8
  have hx20 : a_x T p q s ≤ s.1 p := by
    unfold a_x
    have := gv_le (w := s.1 p) s8
    omega
  have etake : fX10_lesser (nI (s.1 p) * nI (a_gv T p) / 100) (nI (a_ho T q) - nI (s.2 q)) = nI (a_x T p q s) := by
    rw [pk_sub hS2, pk_mul, show (100 : Int32) = nI 100 from rfl, pk_div (by omega) (by decide) (by decide), ls_n (by omega) (by omega)]
    rfl
  obtain ⟨on1, on2⟩ := md_on h a hq (t := p) (by omega)
  unfold sX10_seep_12
  rw [pv_c13, dN, if_neg (nI_ge hq (by omega)), pb_bd (md_p0 μ (by omega)), ek]
  rw [jm_over _ _ (md_p6 μ (by omega)), el, hov, pb_bd (md_lat (by omega)), ag_lat a (by omega)]
  simp only [dw_nm, nI_1]
  unfold a_pr a_ac
  cases hlat : lat T q with
  | false =>
    rw [if_pos (by decide)]
    simp
  | true =>
    rw [if_neg (by decide)]
    cases hon : a_on T C q p with
    | false =>
      rw [pb_bd (on2 hon), if_pos (by decide)]
      simp
    | true =>
      obtain ⟨k, hk, ek2⟩ := on1 hon
      rw [pb_bd ek2, if_neg (nI_pos (by omega)), pb_bd (md_p8 μ (by omega)), hb]
      cases hbk : bk q with
      | true =>
        rw [if_neg (by decide)]
        simp
      | false =>
        rw [if_pos (by decide)]
        cases hod : decide (T.1 (12 + 1 + 2 * q) 1 = 2 ∧ l q = 0) with
        | true =>
          rw [if_neg (by decide)]
          simp
        | false =>
          rw [if_pos (by decide), pv_a (c := 140) (n := 140) rfl, pb_gd (pb_ok rfl (by omega) (by decide)), pb_cl (x := nI (140 + p)) rfl (by omega), pb_bd (md_so h a hp).2.1, pb_bd (md_holds (hs.2.2.2.2.1 q hq) (by omega)), pb_bd (md_p9 μ (by omega)), a.1 (12 + 1 + 2 * q) 4 (by omega), p1, ew, en, etake, pk_sub hx20, pb_bd (md_p9 _ (by omega)), pb_o (by omega), en, nI_add, pb_bd (md_sp _ (q := q) (w := 9) (x := nI q) (y := 9) rfl rfl (by omega) (by decide))]
          simp
/-- a place's drains -/
theorem md_s2 (h : stt R C P N T) (a : ag T μ) {p : Nat} (hp : p < P) {l : Nat → Nat} {bk : Nat → Bool} (hl : ∀ q, q < N → l q ≤ 100 ∧ μ.1 143 (400 + 20 * q + 6) = nI (l q)) (hb : ∀ q, q < N → μ.1 143 (400 + 20 * q + 8) = b2i (bk q)) {s : (Nat → Nat) × (Nat → Nat)} (hB : a_B T P N s) (ew : μ.1 143 (140 + p) = nI (s.1 p)) (en : ∀ q, q < N → μ.1 143 (400 + 20 * q + 9) = nI (s.2 q)) : ∃ ν, dw_wh (fun v => sX10_seep_12 (nI p) v.1 v.2) 1000 ((0 : Int32), μ) = some ν ∧ ν.1 143 (140 + p) = nI ((a_dr T C (a_ac T l bk) p s N).1 p) ∧ (∀ q, q < N → ν.1 143 (400 + 20 * q + 9) = nI ((a_dr T C (a_ac T l bk) p s N).2 q)) ∧ (∀ c j, (c ≠ 143 ∨ (j ≠ 140 + p ∧ (j < 400 ∨ (j - 400) % 20 ≠ 9))) → ν.1 c j = μ.1 c j) ∧ ν.2 = μ.2 := by
  obtain ⟨hN, hP, hC1, hC6⟩ := st_20 h
  obtain ⟨e0, e1, e2, e3, e4, e5⟩ := st_dim h
  refine pb_inv (step := fun v : Int32 × dw_M => sX10_seep_12 (nI p) v.1 v.2) (fun q x => x.1 = nI q ∧ x.2.1 143 (140 + p) = nI ((a_dr T C (a_ac T l bk) p s q).1 p) ∧ (∀ k, k < N → x.2.1 143 (400 + 20 * k + 9) = nI ((a_dr T C (a_ac T l bk) p s q).2 k)) ∧ (∀ c j, (c ≠ 143 ∨ (j ≠ 140 + p ∧ (j < 400 ∨ (j - 400) % 20 ≠ 9))) → x.2.1 c j = μ.1 c j) ∧ x.2.2 = μ.2) N _ (fun q x hq hx => ?_) (fun x hx => ?_) (fuel := 1000) (by omega) (x := ((0 : Int32), μ)) ⟨rfl, ew, en, fun _ _ _ => rfl, rfl⟩
  · obtain ⟨x, ν⟩ := x
    obtain ⟨f1, f2, f3, f4, f5⟩ := hx
    have f1 : x = nI q := f1
    have f2 : ν.1 143 (140 + p) = nI ((a_dr T C (a_ac T l bk) p s q).1 p) := f2
    have f3 : ∀ k, k < N → ν.1 143 (400 + 20 * k + 9) = nI ((a_dr T C (a_ac T l bk) p s q).2 k) := f3
    have f4 : ∀ c j, (c ≠ 143 ∨ (j ≠ 140 + p ∧ (j < 400 ∨ (j - 400) % 20 ≠ 9))) → ν.1 c j = μ.1 c j := f4
    have f5 : ν.2 = μ.2 := f5
    subst f1
    left
    have ag1 : ag T ν := ⟨fun c k hc => by rw [f4 _ _ (by omega)]; exact a.1 c k hc, fun j hj hm => by
      have hm' := hm
      unfold msl at hm'
      rw [f4 _ _ (by omega)]
      exact a.2 j hj hm⟩
    have hS := a_dr_B (C := C) (ac := a_ac T l bk) hB hp q (by omega)
    have body := md_s1 h ag1 hp hq (l := l) (bk := bk) (hl q hq).1 (by rw [f4 _ _ (by omega)]; exact (hl q hq).2) (by rw [f4 _ _ (by omega)]; exact hb q hq) hS f2 (f3 q hq)
    have hstep : a_dr T C (a_ac T l bk) p s (q + 1) = a_ds T C (a_ac T l bk) p q (a_dr T C (a_ac T l bk) p s q) := rfl
    by_cases hac : (a_pr T C p q && a_ac T l bk q) = true
    · rw [if_pos hac] at body
      rw [a_ds, if_pos hac] at hstep
      refine ⟨_, body, rfl, ?_, fun k hk => ?_, fun c j hc => ?_, f5⟩
      · show (dw_st (dw_st ν 143 (140 + p) _) 143 (400 + 20 * q + 9) _).1 143 (140 + p) = _
        rw [pb_o (by omega), pb_i, hstep]
        exact congrArg nI (uN_i _ _ _).symm
      · show (dw_st (dw_st ν 143 (140 + p) _) 143 (400 + 20 * q + 9) _).1 143 (400 + 20 * k + 9) = _
        rw [hstep]
        by_cases e : k = q
        · rw [e, pb_i]
          exact congrArg nI (uN_i _ _ _).symm
        · rw [pb_o (by omega), pb_o (by omega), f3 k hk]
          exact congrArg nI (uN_o e).symm
      · show (dw_st (dw_st ν 143 (140 + p) _) 143 (400 + 20 * q + 9) _).1 c j = _
        rw [pb_o (by omega), pb_o (by omega)]
        exact f4 c j hc
    · rw [if_neg hac] at body
      rw [a_ds, if_neg hac] at hstep
      refine ⟨_, body, rfl, ?_, fun k hk => ?_, f4, f5⟩
      · show ν.1 143 (140 + p) = _
        rw [hstep, f2]
      · show ν.1 143 (400 + 20 * k + 9) = _
        rw [hstep, f3 k hk]
  · obtain ⟨x, ν⟩ := x
    obtain ⟨f1, f2, f3, f4, f5⟩ := hx
    have f1 : x = nI N := f1
    have f4 : ∀ c j, (c ≠ 143 ∨ (j ≠ 140 + p ∧ (j < 400 ∨ (j - 400) % 20 ≠ 9))) → ν.1 c j = μ.1 c j := f4
    subst f1
    refine ⟨ν, ?_, f2, f3, f4, f5⟩
    show sX10_seep_12 (nI p) (nI N) ν = _
    unfold sX10_seep_12
    rw [pv_c13, f4 _ _ (by omega), a.2 _ (by omega) (msl_l (by omega) (by omega) (by omega)), e3, if_pos (nI_le (Nat.le_refl _) (by omega))]
theorem md_seep (h : stt R C P N T) (a : ag T μ) {l : Nat → Nat} {bk : Nat → Bool} (hl : ∀ q, q < N → l q ≤ 100 ∧ μ.1 143 (400 + 20 * q + 6) = nI (l q)) (hb : ∀ q, q < N → μ.1 143 (400 + 20 * q + 8) = b2i (bk q)) {s : (Nat → Nat) × (Nat → Nat)} (hB : a_B T P N s) (ew : ∀ p, p < P → μ.1 143 (140 + p) = nI (s.1 p)) (en : ∀ q, q < N → μ.1 143 (400 + 20 * q + 9) = nI (s.2 q)) : ∃ ν, fX10_seep μ = some ν ∧ (∀ p, p < P → ν.1 143 (140 + p) = nI ((a_D T C N (a_ac T l bk) s P).1 p)) ∧ (∀ q, q < N → ν.1 143 (400 + 20 * q + 9) = nI ((a_D T C N (a_ac T l bk) s P).2 q)) ∧ (∀ c j, (c ≠ 143 ∨ ((j < 140 ∨ 140 + P ≤ j) ∧ (j < 400 ∨ (j - 400) % 20 ≠ 9))) → ν.1 c j = μ.1 c j) ∧ ν.2 = μ.2 := by
  obtain ⟨hN, hP, hC1, hC6⟩ := st_20 h
  obtain ⟨e0, e1, e2, e3, e4, e5⟩ := st_dim h
  obtain ⟨r, g1, g2⟩ := pb_inv (step := fun v : Int32 × dw_M => sX10_seep_2 v.1 v.2) (fun p x => x.1 = nI p ∧ (∀ k, k < P → x.2.1 143 (140 + k) = nI ((a_D T C N (a_ac T l bk) s p).1 k)) ∧ (∀ q, q < N → x.2.1 143 (400 + 20 * q + 9) = nI ((a_D T C N (a_ac T l bk) s p).2 q)) ∧ (∀ c j, (c ≠ 143 ∨ ((j < 140 ∨ 140 + P ≤ j) ∧ (j < 400 ∨ (j - 400) % 20 ≠ 9))) → x.2.1 c j = μ.1 c j) ∧ x.2.2 = μ.2) P (fun ν => (∀ p, p < P → ν.1 143 (140 + p) = nI ((a_D T C N (a_ac T l bk) s P).1 p)) ∧ (∀ q, q < N → ν.1 143 (400 + 20 * q + 9) = nI ((a_D T C N (a_ac T l bk) s P).2 q)) ∧ (∀ c j, (c ≠ 143 ∨ ((j < 140 ∨ 140 + P ≤ j) ∧ (j < 400 ∨ (j - 400) % 20 ≠ 9))) → ν.1 c j = μ.1 c j) ∧ ν.2 = μ.2) (fun p x hp hx => by
    obtain ⟨x, ν⟩ := x
    obtain ⟨f1, f2, f3, f4, f5⟩ := hx
    have f1 : x = nI p := f1
    have f2 : ∀ k, k < P → ν.1 143 (140 + k) = nI ((a_D T C N (a_ac T l bk) s p).1 k) := f2
    have f3 : ∀ q, q < N → ν.1 143 (400 + 20 * q + 9) = nI ((a_D T C N (a_ac T l bk) s p).2 q) := f3
    have f4 : ∀ c j, (c ≠ 143 ∨ ((j < 140 ∨ 140 + P ≤ j) ∧ (j < 400 ∨ (j - 400) % 20 ≠ 9))) → ν.1 c j = μ.1 c j := f4
    have f5 : ν.2 = μ.2 := f5
    subst f1
    left
    have ag1 : ag T ν := ⟨fun c k hc => by rw [f4 _ _ (by omega)]; exact a.1 c k hc, fun j hj hm => by
      have hm' := hm
      unfold msl at hm'
      rw [f4 _ _ (by omega)]
      exact a.2 j hj hm⟩
    have hS := a_D_B (C := C) (ac := a_ac T l bk) hB p (by omega)
    have p0 : fX10_places ν = nI P := pv_pl (R := R) (C := C) (by rw [f4 _ _ (by omega), a.2 _ (by omega) (msl_l (by omega) (by omega) (by omega)), e0]) (by rw [f4 _ _ (by omega), a.2 _ (by omega) (msl_l (by omega) (by omega) (by omega)), e1]) e2
    obtain ⟨ν2, k1, k2, k3, k4, k5⟩ := md_s2 h ag1 hp (l := l) (bk := bk) (fun q hq => ⟨(hl q hq).1, by rw [f4 _ _ (by omega)]; exact (hl q hq).2⟩) (fun q hq => by rw [f4 _ _ (by omega)]; exact hb q hq) hS (f2 p hp) f3
    refine ⟨(nI (p + 1), ν2), ?_, rfl, fun k hk => ?_, k3, fun c j hc => ?_, ?_⟩
    · show sX10_seep_2 (nI p) ν = _
      unfold sX10_seep_2
      rw [p0, if_neg (nI_ge hp (by omega)), pb_bd k1, nI_1]
      rfl
    · show ν2.1 143 (140 + k) = nI ((a_dr T C (a_ac T l bk) p (a_D T C N (a_ac T l bk) s p) N).1 k)
      by_cases e : k = p
      · rw [e, k2]
      · rw [k4 _ _ (by omega), f2 k hk, a_dr_o e]
    · show ν2.1 c j = _
      rw [k4 _ _ (by omega)]
      exact f4 c j hc
    · show ν2.2 = _
      rw [k5, f5]) (fun x hx => by
    obtain ⟨x, ν⟩ := x
    obtain ⟨f1, f2, f3, f4, f5⟩ := hx
    have f1 : x = nI P := f1
    have f4 : ∀ c j, (c ≠ 143 ∨ ((j < 140 ∨ 140 + P ≤ j) ∧ (j < 400 ∨ (j - 400) % 20 ≠ 9))) → ν.1 c j = μ.1 c j := f4
    subst f1
    have p0 : fX10_places ν = nI P := pv_pl (R := R) (C := C) (by rw [f4 _ _ (by omega), a.2 _ (by omega) (msl_l (by omega) (by omega) (by omega)), e0]) (by rw [f4 _ _ (by omega), a.2 _ (by omega) (msl_l (by omega) (by omega) (by omega)), e1]) e2
    refine ⟨ν, ?_, f2, f3, f4, f5⟩
    show sX10_seep_2 (nI P) ν = _
    unfold sX10_seep_2
    rw [p0, if_pos (nI_le (Nat.le_refl _) (by omega))]) (fuel := 1000) (by omega) (x := ((0 : Int32), μ)) ⟨rfl, ew, en, fun _ _ _ => rfl, rfl⟩
  refine ⟨r, ?_, g2⟩
  unfold fX10_seep
  rw [pb_bd g1]
end
