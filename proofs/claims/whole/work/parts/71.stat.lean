/-! what an hour doesn't change -/
def stt (R C P N : Nat) (μ : dw_M) : Prop := rl_dim R C P N 1 143 μ ∧ rl_gnd P 1 143 μ ∧ rl_soi 1 143 μ ∧ rl_dit 1 143 μ ∧ rl_pip P N (nI C) 1 143 μ ∧ rl_int N 1 143 μ ∧ rl_acy N 143 μ ∧ rl_rai P 1 143 μ
def msl (j : Nat) : Prop := (j < 7 ∨ 13 ≤ j) ∧ (j < 100 ∨ 176 ≤ j) ∧ (j < 400 ∨ ((j - 400) % 20 ≠ 6 ∧ (j - 400) % 20 ≠ 8 ∧ (j - 400) % 20 ≠ 9 ∧ (j - 400) % 20 ≠ 10))
def ag (T μ : dw_M) : Prop := (∀ c k, (c < 53 ∨ c = 61) → μ.1 c k = T.1 c k) ∧ ∀ j, j < 800 → msl j → μ.1 143 j = T.1 143 j
theorem ag_refl (T : dw_M) : ag T T := ⟨fun _ _ _ => rfl, fun _ _ _ => rfl⟩
theorem msl_p {q w : Nat} (hw : w < 20) (h : w ≠ 6 ∧ w ≠ 8 ∧ w ≠ 9 ∧ w ≠ 10) : msl (400 + 20 * q + w) := by
  unfold msl
  omega
theorem msl_0 {q : Nat} : msl (400 + 20 * q) := by
  unfold msl
  omega
theorem msl_l {j : Nat} (h : j < 400) (h1 : j < 7 ∨ 13 ≤ j) (h2 : j < 100 ∨ 176 ≤ j) : msl j := ⟨h1, h2, Or.inl h⟩
theorem stt_ag {R C P N : Nat} {T μ : dw_M} (h : stt R C P N T) (a : ag T μ) : stt R C P N μ := by
  obtain ⟨d, gn, so, di, pi, it, ac, ra⟩ := h
  obtain ⟨⟨d1, d2, d3, d4, dP, d5, d36, d20⟩, -⟩ := id d
  obtain ⟨a1, a2⟩ := a
  refine ⟨rl_dim_c d (a2 0 (by omega) (msl_l (by omega) (by omega) (by omega))) (a2 1 (by omega) (msl_l (by omega) (by omega) (by omega))) (a2 13 (by omega) (msl_l (by omega) (by omega) (by omega))) (a1 _ _ (by omega)) (a1 _ _ (by omega)) (a1 _ _ (by omega)), rl_gnd_c gn (fun p hp => a1 _ _ (by omega)) (fun p hp => a1 _ _ (by omega)) (fun p hp => a2 _ (by omega) (msl_l (by omega) (by omega) (by omega))) (fun p hp => a2 _ (by omega) (msl_l (by omega) (by omega) (by omega))), rl_soi_c so (fun p hp => a1 _ _ (by omega)) (fun p hp => a1 _ _ (by omega)) (fun p hp => a1 _ _ (by omega)) (fun p hp => a1 _ _ (by omega)) (fun p hp => a2 _ (by omega) (msl_l (by omega) (by omega) (by omega))) (fun p hp => a2 _ (by omega) (msl_l (by omega) (by omega) (by omega))) (fun p hp => a2 _ (by omega) (msl_l (by omega) (by omega) (by omega))) (fun p hp => a2 _ (by omega) (msl_l (by omega) (by omega) (by omega))), rl_dit_c di (fun p hp => a1 _ _ (by omega)) (fun p hp => a2 _ (by omega) (msl_l (by omega) (by omega) (by omega))), rl_pip_c pi (fun p j hp h1 h2 => a1 _ _ (by omega)) (fun p j hp h1 => a1 _ _ (by omega)) (fun p hp => a2 _ (by omega) msl_0) (fun p j hp h1 h2 => a2 _ (by omega) (msl_p (by omega) (by omega))) (fun p hp => a2 _ (by omega) (msl_p (by omega) (by omega))), rl_int_c it (fun p hp => a1 _ _ (by omega)) (fun p hp => a2 _ (by omega) (msl_p (by omega) (by omega))), rl_acy_c ac (fun p hp => a2 _ (by omega) (msl_p (by omega) (by omega))), rl_rai_c ra (fun p hp => a1 _ _ (by omega)) (fun p hp => a2 _ (by omega) (msl_l (by omega) (by omega) (by omega)))⟩
theorem ag_in {T μ : dw_M} (a : ag T μ) {q : Nat} (hq : q < 20) : ch_in μ q = ch_in T q := a.2 _ (by omega) (msl_p (by omega) (by omega))
theorem ag_pm {T μ : dw_M} (a : ag T μ) {q : Nat} (hq : q < 20) : pm μ q = pm T q := by
  unfold pm
  rw [a.2 _ (by omega) (msl_p (by omega) (by omega))]
theorem ag_pp {T μ : dw_M} (a : ag T μ) {C q k : Nat} (hq : q < 20) : pp μ C q k = pp T C q k := by
  unfold pp
  rw [a.2 _ (by omega) (msl_p (by omega) (by omega)), a.2 _ (by omega) (msl_p (by omega) (by omega))]
theorem ag_lat {T μ : dw_M} (a : ag T μ) {q : Nat} (hq : q < 20) : lat μ q = lat T q := by
  unfold lat
  rw [a.2 _ (by omega) msl_0]
section
variable {R C P N : Nat} {T : dw_M}
/-- the soil of a place -/
theorem st_so (h : stt R C P N T) {p : Nat} (hp : p < P) : T.1 4 p = nI (a_so T p) ∧ a_so T p < 4 ∧ T.1 61 p = nI (a_rn T p) ∧ a_rn T p ≤ 300 ∧ T.1 5 (a_so T p) = nI (a_tk T p) ∧ a_tk T p ≤ 200 ∧ T.1 6 (a_so T p) = nI (a_gv T p) ∧ a_gv T p ≤ 100 ∧ T.1 7 (a_so T p) = nI (a_kp T p) ∧ a_kp T p ≤ 1000 ∧ T.1 143 (60 + p) = nI (a_so T p) ∧ T.1 143 (180 + p) = nI (a_rn T p) := by
  obtain ⟨d, gn, so, di, pi, it, ac, ra⟩ := h
  obtain ⟨g1, g2, ⟨z, hz, ez⟩, -⟩ := gn p hp
  have g2 : T.1 4 p = nI z := by rw [← ez]; exact g2
  have es : a_so T p = z := by unfold a_so; rw [g2, nt_n (by omega)]
  obtain ⟨s1, s2, s3, s4, ⟨x1, hx1, ex1⟩, ⟨x2, hx2, ex2⟩, ⟨x3, hx3, ex3⟩⟩ := so z hz
  have s1 : T.1 5 z = nI x1 := by rw [← ex1]; exact s1
  have s2 : T.1 6 z = nI x2 := by rw [← ex2]; exact s2
  have s3 : T.1 7 z = nI x3 := by rw [← ex3]; exact s3
  obtain ⟨r1, x4, hx4, ex4⟩ := ra p hp
  have r1 : T.1 61 p = nI x4 := by rw [← ex4]; exact r1
  have et : a_tk T p = x1 := by unfold a_tk; rw [es, s1, nt_n (by omega)]
  have eg : a_gv T p = x2 := by unfold a_gv; rw [es, s2, nt_n (by omega)]
  have ek : a_kp T p = x3 := by unfold a_kp; rw [es, s3, nt_n (by omega)]
  have er : a_rn T p = x4 := by unfold a_rn; rw [r1, nt_n (by omega)]
  rw [et, eg, ek, er, es]
  exact ⟨g2, hz, r1, hx4, s1, hx1, s2, hx2, s3, hx3, ez, ex4⟩
/-- a pipe -/
theorem st_pi (h : stt R C P N T) {q : Nat} (hq : q < N) : T.1 (12 + 1 + 2 * q) 4 = nI (a_ho T q) ∧ a_ho T q ≤ 960 ∧ T.1 (12 + 1 + 2 * q) 3 = nI (a_be T q) ∧ a_be T q ≤ 880 ∧ T.1 (12 + 1 + 2 * q) 5 = ch_in T q := by
  obtain ⟨d, gn, so, di, pi, it, ac, ra⟩ := h
  obtain ⟨⟨d1, d2, d3, d4, dP, d5, d36, d20⟩, -⟩ := id d
  have hpp := pi q hq
  obtain ⟨f1, f2, f3, f4, f5, f6⟩ := pp_f hpp
  obtain ⟨m1, m2, m3, -⟩ := pp_g d36 hpp
  obtain ⟨-, -, -, ⟨w, hw1, hw2, ew⟩, -⟩ := hpp
  obtain ⟨-, -, -, -, -, -, y, hy1, hy2, ey⟩ := f6
  rw [ew, m3, show (40 : Int32) = nI 40 from rfl, pk_mul, pk_mul] at f5
  rw [ew, ey, show (5 : Int32) = nI 5 from rfl, nI_add, pk_mul, pk_mul] at f4
  have b1 : 40 * w * pm T q ≤ 960 := by
    have h1 : 40 * w ≤ 160 := by omega
    have h2 := Nat.mul_le_mul h1 m2
    omega
  have b2 : w * w * (y + 5) ≤ 880 := by
    have h1 : w * w ≤ 16 := Nat.mul_le_mul hw2 hw2
    have h2 : y + 5 ≤ 55 := by omega
    exact Nat.mul_le_mul h1 h2
  have e1 : a_ho T q = 40 * w * pm T q := by unfold a_ho; rw [f5, nt_n (by omega)]
  have e2 : a_be T q = w * w * (y + 5) := by unfold a_be; rw [f4, nt_n (by omega)]
  rw [e1, e2]
  exact ⟨f5, b1, f4, b2, by rw [pv_pc]; exact (it q hq).1⟩
theorem st_20 (h : stt R C P N T) : N ≤ 20 ∧ P ≤ 36 ∧ 1 ≤ C ∧ C ≤ 6 := by
  obtain ⟨⟨⟨d1, d2, d3, d4, dP, d5, d36, d20⟩, -⟩, -⟩ := h
  exact ⟨d20, d36, d3, d4⟩
theorem st_dim (h : stt R C P N T) : T.1 143 0 = nI R ∧ T.1 143 1 = nI C ∧ P = R * C ∧ T.1 143 13 = nI N ∧ T.1 2 1 = nI P ∧ T.1 11 1 = nI N := by
  obtain ⟨⟨⟨d1, d2, d3, d4, dP, d5, d36, d20⟩, e1, e2, e3, e4, e5, e6⟩, -⟩ := h
  exact ⟨e1, e2, dP, e3, e5, e6⟩
end
