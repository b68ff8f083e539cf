/-! the class's hour: wetting and draining -/
theorem mn_n {a b : Nat} (ha : a < 2 ^ 31) (hb : b < 2 ^ 31) : dw_mn (nI a) (nI b) = nI (min a b) := by
  unfold dw_mn
  by_cases c : b < a
  · rw [if_pos (nI_lt c ha), Nat.min_eq_right (by omega)]
  · rw [if_neg (nI_nlt (by omega) (by omega)), Nat.min_eq_left (by omega)]
theorem ls_n {a b : Nat} (ha : a < 2 ^ 31) (hb : b < 2 ^ 31) : fX10_lesser (nI a) (nI b) = nI (min a b) := by rw [← mn_ls, mn_n ha hb]
theorem mx_n {a b : Nat} (ha : a < 100000) (hb : b < 100000) : dw_mx 0 (nI a - nI b) = nI (a - b) := by
  unfold dw_mx
  have h := pk_sub_toInt (a := a) (b := b) (by omega) (by omega)
  have h0 : (0 : Int32).toInt = 0 := rfl
  by_cases c : b < a
  · rw [if_pos (by rw [fa_lt, h]; omega), pk_sub (by omega)]
  · rw [if_neg (by rw [fa_lt, h]; omega), show a - b = 0 by omega]
    rfl
theorem gv_le {w g : Nat} (hg : g ≤ 100) : w * g / 100 ≤ w := by
  apply Nat.div_le_of_le_mul
  rw [Nat.mul_comm 100 w]
  exact Nat.mul_le_mul_left _ hg
section
variable {R C P N : Nat} {T μ : dw_M} {i : Nat}
theorem cl_wp (h : stt R C P N T) (a : ag T μ) (hi : i = 53 ∨ i = 127) {p : Nat} (hp : p < P) {s w : Nat → Nat} (hs : s p ≤ 100000000) (hw : w p ≤ 1000) (es : μ.1 (i + 1) p = nI (s p)) (ew : μ.1 (i + 2) p = nI (w p)) : ∃ ν, fX0_wetPlace μ i (nI p) = some ν ∧ ν.1 i 7 = μ.1 i 7 + nI (a_rn T p) ∧ ν.1 (i + 1) p = nI (a_s1 T s w p) ∧ ν.1 (i + 2) p = nI (a_w1 T s w p) ∧ (∀ c k, (c ≠ i ∨ k ≠ 7) → (c ≠ i + 1 ∨ k ≠ p) → (c ≠ i + 2 ∨ k ≠ p) → ν.1 c k = μ.1 c k) ∧ ν.2 = μ.2 := by
  obtain ⟨hN, hP, hC1, hC6⟩ := st_20 h
  obtain ⟨s1, s2, s3, s4, s5, s6, s7, s8, s9, s10, -⟩ := st_so h hp
  have e4 : μ.1 4 p = nI (a_so T p) := by rw [a.1 _ _ (by omega), s1]
  have e61 : μ.1 61 p = nI (a_rn T p) := by rw [a.1 _ _ (by omega), s3]
  have e5 : μ.1 5 (a_so T p) = nI (a_tk T p) := by rw [a.1 _ _ (by omega), s5]
  have e7 : μ.1 7 (a_so T p) = nI (a_kp T p) := by rw [a.1 _ _ (by omega), s9]
  have et : dw_mn (dw_mn (dw_mx 0 (nI (a_kp T p) - nI (w p))) (nI (a_tk T p))) (nI (s p + a_rn T p)) = nI (a_t T s w p) := by
    rw [mx_n (by omega) (by omega), mn_n (by omega) (by omega), mn_n (by omega) (by omega)]
    congr 1
    unfold a_t
    omega
  have hle : a_t T s w p ≤ s p + a_rn T p := by unfold a_t; omega
  refine ⟨dw_st (dw_st (dw_st (dw_st μ i 7 (μ.1 i 7 + nI (a_rn T p))) (i + 1) p (nI (s p + a_rn T p))) (i + 1) p (nI (a_s1 T s w p))) (i + 2) p (nI (a_w1 T s w p)), ?_, ?_, ?_, ?_, fun c k h1 h2 h3 => ?_, rfl⟩
  · unfold fX0_wetPlace
    rw [pb_gd (pb_ok rfl (by omega) (by decide)), pb_cl rfl (by omega), e4, e61]
    simp only [dw_nm]
    rw [pb_o (c := i + 1) (by omega), es, pb_o (c := 61) (by omega), e61, nI_add, pb_bd (pv_na dw_lc7 (by decide) s2), pb_bd (pv_na dw_lc5 (by decide) s2)]
    rw [pb_o (c := 7) (by omega), pb_o (c := 7) (by omega), e7, pb_o (c := 5) (by omega), pb_o (c := 5) (by omega), e5, pb_o (c := i + 2) (by omega), pb_o (c := i + 2) (by omega), ew, pb_i, et, pb_o (c := i + 2) (by omega), pb_o (c := i + 2) (by omega), pb_o (c := i + 2) (by omega), ew, pk_sub hle, nI_add]
    rfl
  · simp (disch := omega) only [pb_o, pb_i]
  · simp (disch := omega) only [pb_o, pb_i]
  · simp (disch := omega) only [pb_o, pb_i]
  · simp (disch := omega) only [pb_o]
/-- which drains take water -/
def a_ac (T : dw_M) (l : Nat → Nat) (bk : Nat → Bool) (q : Nat) : Bool := !decide (T.1 (12 + 1 + 2 * q) 1 = 2 ∧ l q = 0) && !bk q
theorem cl_dp (h : stt R C P N T) (a : ag T μ) (hi : i = 53 ∨ i = 127) (hd : d_ok T C N μ) {p : Nat} (hp : p < P) {l : Nat → Nat} {bk : Nat → Bool} (hl : ∀ q, q < N → l q ≤ 100 ∧ μ.1 (i + 4) q = nI (l q)) (hb : ∀ q, q < N → bk q = pg_b (μ.2 (i + 7)) q) {s : (Nat → Nat) × (Nat → Nat)} (hB : a_B T P N s) (ew : μ.1 (i + 2) p = nI (s.1 p)) (en : ∀ q, q < N → μ.1 (i + 3) q = nI (s.2 q)) : ∃ ν, fX0_drainPlace μ i (nI p) = some ν ∧ ν.1 (i + 2) p = nI ((a_dr T C (a_ac T l bk) p s N).1 p) ∧ (∀ q, q < N → ν.1 (i + 3) q = nI ((a_dr T C (a_ac T l bk) p s N).2 q)) ∧ (∀ c k, (c ≠ i + 2 ∨ k ≠ p) → (c ≠ i + 3 ∨ N ≤ k) → ν.1 c k = μ.1 c k) ∧ ν.2 = μ.2 := by
  obtain ⟨hN, hP, hC1, hC6⟩ := st_20 h
  obtain ⟨s1, s2, s3, s4, s5, s6, s7, s8, s9, s10, -⟩ := st_so h hp
  have e4 : μ.1 4 p = nI (a_so T p) := by rw [a.1 _ _ (by omega), s1]
  have e6 : μ.1 6 (a_so T p) = nI (a_gv T p) := by rw [a.1 _ _ (by omega), s7]
  have hcnt := fb_ct_le (a_pr T C p) N
  obtain ⟨r, h1, h2, h3, h4, h5⟩ := pb_inv (step := fun v : Int32 × dw_M => sX0_drainPlace_24 i (nI p) (nI (a_gv T p)) v.1 v.2) (fun r x => x.1 = nI r ∧ (∀ c k, (c ≠ i + 2 ∨ k ≠ p) → (c ≠ i + 3 ∨ N ≤ k) → x.2.1 c k = μ.1 c k) ∧ x.2.2 = μ.2 ∧ ∃ q, q ≤ N ∧ fb_ct (a_pr T C p) q = r ∧ x.2.1 (i + 2) p = nI ((a_dr T C (a_ac T l bk) p s q).1 p) ∧ ∀ k, k < N → x.2.1 (i + 3) k = nI ((a_dr T C (a_ac T l bk) p s q).2 k)) (fb_ct (a_pr T C p) N) (fun ν => (∀ c k, (c ≠ i + 2 ∨ k ≠ p) → (c ≠ i + 3 ∨ N ≤ k) → ν.1 c k = μ.1 c k) ∧ ν.2 = μ.2 ∧ ν.1 (i + 2) p = nI ((a_dr T C (a_ac T l bk) p s N).1 p) ∧ ∀ k, k < N → ν.1 (i + 3) k = nI ((a_dr T C (a_ac T l bk) p s N).2 k)) (fun r x hr hx => by
    obtain ⟨x, ν⟩ := x
    obtain ⟨f1, f2, f3, q0, hq0, f4, f5, f6⟩ := hx
    have f1 : x = nI r := f1
    have f2 : ∀ c k, (c ≠ i + 2 ∨ k ≠ p) → (c ≠ i + 3 ∨ N ≤ k) → ν.1 c k = μ.1 c k := f2
    have f3 : ν.2 = μ.2 := f3
    have f5 : ν.1 (i + 2) p = nI ((a_dr T C (a_ac T l bk) p s q0).1 p) := f5
    have f6 : ∀ k, k < N → ν.1 (i + 3) k = nI ((a_dr T C (a_ac T l bk) p s q0).2 k) := f6
    subst f1
    obtain ⟨q, hq, hpr, hqr⟩ := fb_ct_kth hr
    rw [a_dr_eq (y := q) (f4.trans hqr.symm)] at f5 f6
    have hS := a_dr_B (C := C) (ac := a_ac T l bk) hB hp q (by omega)
    have hS1 := hS.1 p hp
    have hS2 := hS.2 q hq
    obtain ⟨p1, p2, p3, p4, p5⟩ := st_pi h hq
    have hx20 : a_x T p q (a_dr T C (a_ac T l bk) p s q) ≤ (a_dr T C (a_ac T l bk) p s q).1 p := by
      unfold a_x
      have := gv_le (w := (a_dr T C (a_ac T l bk) p s q).1 p) s8
      omega
    have hmul : (a_dr T C (a_ac T l bk) p s q).1 p * a_gv T p ≤ 100000 := Nat.mul_le_mul hS1 s8
    have i138 : ν.1 137 p = nI (fb_ct (a_pr T C p) N) := by rw [f2 _ _ (by omega) (by omega)]; exact hd.1 p (by omega)
    have i139 : ν.1 138 (20 * p + r) = nI q := by rw [f2 _ _ (by omega) (by omega), ← hqr]; exact hd.2 p q (by omega) hq hpr
    have i1 : ν.1 (12 + 1 + 2 * q) 1 = T.1 (12 + 1 + 2 * q) 1 := by rw [f2 _ _ (by omega) (by omega), a.1 _ _ (by omega)]
    have i4 : ν.1 (12 + 1 + 2 * q) 4 = nI (a_ho T q) := by rw [f2 _ _ (by omega) (by omega), a.1 _ _ (by omega), p1]
    have il : ν.1 (i + 4) q = nI (l q) := by rw [f2 _ _ (by omega) (by omega)]; exact (hl q hq).2
    have ilb := (hl q hq).1
    have ihas : fX2_has ν (i + 7) (nI q) = b2i (bk q) := by rw [pg_has ν (i + 7) (x := nI q) rfl (by omega), f3, ← hb q hq]; rfl
    have iN : ν.1 11 1 = nI N := by rw [f2 _ _ (by omega) (by omega), a.1 _ _ (by omega)]; exact (st_dim h).2.2.2.2.2
    have idr : fX0_isDraining ν i (nI q) = some (b2i (a_ac T l bk q)) := by
      unfold fX0_isDraining
      rw [pv_hq1 iN (by omega) hq, if_neg (show ¬ (1 : Int32) = 0 by decide), ihas, pb_gd (pb_ok rfl (by omega) (by decide)), pb_cl rfl (by omega), i1, il]
      unfold a_ac
      by_cases c1 : T.1 (12 + 1 + 2 * q) 1 = 2
      · by_cases c2 : l q = 0
        · rw [if_pos c1, if_pos (show nI (l q) ≤ 0 by rw [c2]; decide), decide_eq_true ⟨c1, c2⟩]
          cases bk q <;> rfl
        · rw [if_pos c1, if_neg (show ¬ nI (l q) ≤ 0 from nI_nle (by omega) (by omega)), decide_eq_false (fun z => c2 z.2)]
          cases bk q <;> rfl
      · rw [if_neg c1, decide_eq_false (fun z => c1 z.1)]
        cases bk q <;> rfl
    have hsucc : fb_ct (a_pr T C p) (q + 1) = r + 1 := by rw [fb_ct_succ, hpr, hqr]; rfl
    have etake : dw_mn (nI (a_ho T q) - nI ((a_dr T C (a_ac T l bk) p s q).2 q)) ((nI ((a_dr T C (a_ac T l bk) p s q).1 p) * nI (a_gv T p)) / 100) = nI (a_x T p q (a_dr T C (a_ac T l bk) p s q)) := by
      rw [pk_sub hS2, pk_mul, show (100 : Int32) = nI 100 from rfl, pk_div (by omega) (by decide) (by decide), mn_n (by omega) (by omega)]
      congr 1
      unfold a_x
      omega
    have body : sX0_drainPlace_24 i (nI p) (nI (a_gv T p)) (nI r) ν = if a_ac T l bk q = true then some (.inl (nI (r + 1), dw_st (dw_st ν (i + 2) p (nI ((a_dr T C (a_ac T l bk) p s q).1 p - a_x T p q (a_dr T C (a_ac T l bk) p s q)))) (i + 3) q (nI ((a_dr T C (a_ac T l bk) p s q).2 q + a_x T p q (a_dr T C (a_ac T l bk) p s q))))) else some (.inl (nI (r + 1), ν)) := by
      unfold sX0_drainPlace_24
      rw [pb_cl (x := nI p) rfl (by omega), i138, if_neg (nI_ge hr (by omega)), show (20 : Int32) = nI 20 from rfl, pk_mul, nI_add, show p * 20 + r = 20 * p + r by omega, pb_bd (pv_na dw_lc138 (by decide) (by omega)), i139, pb_bd idr, pb_gd (pb_ok rfl (by omega) (by decide)), pb_cl (x := nI q) rfl (by omega)]
      simp only [dw_nm]
      rw [nI_1, i4, f6 q hq, f5, etake, pb_o (c := i + 3) (by omega), f6 q hq, pk_sub hx20, nI_add]
      cases a_ac T l bk q <;> rfl
    left
    have hstep : a_dr T C (a_ac T l bk) p s (q + 1) = a_ds T C (a_ac T l bk) p q (a_dr T C (a_ac T l bk) p s q) := rfl
    by_cases hac : a_ac T l bk q = true
    · rw [if_pos hac] at body
      have hds : a_ds T C (a_ac T l bk) p q (a_dr T C (a_ac T l bk) p s q) = (uN (a_dr T C (a_ac T l bk) p s q).1 p ((a_dr T C (a_ac T l bk) p s q).1 p - a_x T p q (a_dr T C (a_ac T l bk) p s q)), uN (a_dr T C (a_ac T l bk) p s q).2 q ((a_dr T C (a_ac T l bk) p s q).2 q + a_x T p q (a_dr T C (a_ac T l bk) p s q))) := by
        rw [a_ds, if_pos (by rw [hpr, hac]; rfl)]
      refine ⟨_, body, rfl, fun c k h1 h2 => ?_, f3, q + 1, by omega, hsucc, ?_, fun k hk => ?_⟩
      · show (dw_st (dw_st ν (i + 2) p _) (i + 3) q _).1 c k = _
        rw [pb_o (by omega), pb_o (by omega)]
        exact f2 c k h1 h2
      · show (dw_st (dw_st ν (i + 2) p _) (i + 3) q _).1 (i + 2) p = _
        rw [pb_o (by omega), pb_i, hstep, hds]
        exact congrArg nI (uN_i _ _ _).symm
      · show (dw_st (dw_st ν (i + 2) p _) (i + 3) q _).1 (i + 3) k = _
        rw [hstep, hds]
        by_cases e : k = q
        · rw [e, pb_i]
          exact congrArg nI (uN_i _ _ _).symm
        · rw [pb_o (by omega), pb_o (by omega), f6 k hk]
          exact congrArg nI (uN_o e).symm
    · rw [if_neg hac] at body
      have hds : a_ds T C (a_ac T l bk) p q (a_dr T C (a_ac T l bk) p s q) = a_dr T C (a_ac T l bk) p s q := by
        rw [a_ds, if_neg (by rw [hpr]; simpa using hac)]
      refine ⟨_, body, rfl, f2, f3, q + 1, by omega, hsucc, ?_, fun k hk => ?_⟩
      · show ν.1 (i + 2) p = _
        rw [hstep, hds, f5]
      · show ν.1 (i + 3) k = _
        rw [hstep, hds, f6 k hk]) (fun x hx => by
    obtain ⟨x, ν⟩ := x
    obtain ⟨f1, f2, f3, q0, hq0, f4, f5, f6⟩ := hx
    have f1 : x = nI (fb_ct (a_pr T C p) N) := f1
    have f2 : ∀ c k, (c ≠ i + 2 ∨ k ≠ p) → (c ≠ i + 3 ∨ N ≤ k) → ν.1 c k = μ.1 c k := f2
    rw [a_dr_eq (y := N) f4] at f5 f6
    subst f1
    refine ⟨ν, ?_, f2, f3, f5, f6⟩
    show sX0_drainPlace_24 i (nI p) (nI (a_gv T p)) (nI (fb_ct (a_pr T C p) N)) ν = _
    unfold sX0_drainPlace_24
    rw [pb_cl (x := nI p) rfl (by omega), f2 _ _ (by omega) (by omega), hd.1 p (by omega), if_pos (nI_le (Nat.le_refl _) (by omega))]) (fuel := 1000) (by omega) (x := ((0 : Int32), μ)) ⟨rfl, fun _ _ _ _ => rfl, rfl, 0, by omega, rfl, ew, en⟩
  refine ⟨r, ?_, h4, h5, h2, h3⟩
  unfold fX0_drainPlace
  rw [pb_gd (pb_ok rfl (by omega) (by decide)), pb_cl rfl (by omega), e4, pb_bd (pv_na dw_lc6 (by decide) s2), e6, pb_bd h1]
end
