/-! trying -/
theorem anyB_ext {p p' : Nat → Bool} {P n : Nat} (h1 : ∀ k, P ≤ k → k < n → p k = false) (h2 : ∀ k, k < P → p k = p' k) (hn : P ≤ n) : anyB p n = anyB p' P := by
  cases e : anyB p' P with
  | true =>
    obtain ⟨k, hk, ek⟩ := anyB_t e
    cases e2 : anyB p n with
    | true => rfl
    | false =>
      have := anyB_f e2 k (by omega)
      rw [h2 k hk, ek] at this
      cases this
  | false =>
    cases e2 : anyB p n with
    | false => rfl
    | true =>
      obtain ⟨k, hk, ek⟩ := anyB_t e2
      by_cases c : k < P
      · rw [h2 k c, anyB_f e k c] at ek
        cases ek
      · rw [h1 k (by omega) hk] at ek
        cases ek
def isP (N : Nat) (a : Int32) : Prop := a = -1 ∨ ∃ p, p < N ∧ a = nI p
def bkx (T : dw_M) (a2 a3 : Int32) (x : Nat) : Bool := (pg_b (T.2 60) x || decide (a2 = nI x)) || decide (a3 = nI x)
def fitP (T : dw_M) (s : Nat → Nat) (j : Nat) : Bool := pg_b (T.2 63) j != decide (0 < s j)
def fitB (T : dw_M) (C P N : Nat) (o : Nat → Nat) (n : Nat) (a2 a3 : Int32) : Bool := !anyB (fitP T (hrs T C P N (bkx T a2 a3) o (w_0 T) n).1) P
/-- whether a pipe may be tried -/
def nbw (w : Int64) (a : Int32) : Bool := decide (a = -1) || !pg_b w a.toNatClampNeg
theorem nbw_m (w : Int64) : nbw w (-1) = true := by
  unfold nbw
  rw [decide_eq_true rfl]
  rfl
theorem nbw_p (w : Int64) {p : Nat} (hp : p < 20) : nbw w (nI p) = !pg_b w p := by
  unfold nbw
  rw [decide_eq_false (nI_nm1 (by omega)), nI_clamp (by omega), Bool.false_or]
theorem put1 (ρ : dw_M) {a : Int32} (ha : isP 20 a) : ∃ w, fX9_blockTried ρ a = (b2i (nbw (ρ.2 134) a), dw_sl ρ 134 w) ∧ ∀ x, x < 20 → pg_b w x = (pg_b (ρ.2 134) x || decide (a = nI x)) := by
  rcases ha with e | ⟨p, hp, e⟩
  · refine ⟨ρ.2 134, ?_, fun x hx => ?_⟩
    · unfold fX9_blockTried
      rw [if_pos e, pg_sl_id, e, nbw_m]
      rfl
    · rw [e, decide_eq_false (fun z => nI_nm1 (by omega) z.symm), Bool.or_false]
  · refine ⟨pg_s (ρ.2 134) p true, ?_, fun x hx => ?_⟩
    · unfold fX9_blockTried
      rw [if_neg (by rw [e]; exact nI_nm1 (by omega)), pb_n2 (pg_put ρ 134 (v := 1) e (by omega) (b := true) rfl), e, nbw_p _ hp]
      cases pg_b (ρ.2 134) p <;> rfl
    · rw [pg_s_b _ (by omega) _ _ (by omega), e]
      by_cases c : x = p
      · rw [if_pos c, c, decide_eq_true rfl, Bool.or_true]
      · rw [if_neg c, decide_eq_false (fun z => c ((nI_eq (by omega) (by omega)).mp z).symm), Bool.or_false]
section
variable {R C P N : Nat} {T μ : dw_M} {rk : Nat → Nat} {o : Nat → Nat}
/-- what the class keeps while it tries -/
def J_c (T : dw_M) (C N : Nat) (o : Nat → Nat) (ρ : dw_M) : Prop := (∀ c k, (c < 127 ∨ 139 ≤ c) → ρ.1 c k = T.1 c k) ∧ (∀ c, c ≠ 134 → ρ.2 c = T.2 c) ∧ d_ok T C N ρ ∧ p_ok N o ρ
theorem cl_just {ν : dw_M} {s : Nat → Nat} (hP : P ≤ 36) (hs : ∀ p, p < P → s p < 2 ^ 31 ∧ ν.1 128 p = nI (s p)) (h0 : ∀ p, P ≤ p → p < 36 → ν.1 128 p = 0 ∧ pg_b (ν.2 63) p = false) (e63 : ν.2 63 = T.2 63) : fX8_isStandingJustOn ν = some (b2i (!anyB (fitP T s) P)) := by
  have ext : anyB (fun j => pg_b (T.2 63) j != !decide (ν.1 128 j ≤ 0)) 36 = anyB (fitP T s) P := by
    refine anyB_ext (fun k h1 h2 => ?_) (fun k hk => ?_) hP
    · obtain ⟨z1, z2⟩ := h0 k h1 h2
      rw [e63] at z2
      show (pg_b (T.2 63) k != !decide (ν.1 128 k ≤ 0)) = false
      rw [z1, z2]
      rfl
    · obtain ⟨z1, z2⟩ := hs k hk
      show (pg_b (T.2 63) k != !decide (ν.1 128 k ≤ 0)) = (pg_b (T.2 63) k != decide (0 < s k))
      have : (!decide (ν.1 128 k ≤ 0)) = decide (0 < s k) := by
        rw [z2]
        by_cases c : 0 < s k
        · rw [decide_eq_true c, decide_eq_false (nI_nle c z1)]; rfl
        · rw [decide_eq_false c, show s k = 0 by omega]; rfl
      rw [this]
  have hhas : ∀ j, j < 36 → fX2_has ν 63 (nI j) = b2i (pg_b (T.2 63) j) := fun j hj => by rw [pg_has ν 63 (x := nI j) rfl (by omega), e63]; rfl
  have go : ∀ j, j < 36 → sX8_isStandingJustOn_2 ν (nI j) = if (pg_b (T.2 63) j != !decide (ν.1 128 j ≤ 0)) = true then some (.inr (.inr 0)) else some (.inl (nI (j + 1))) := by
    intro j hj
    unfold sX8_isStandingJustOn_2
    rw [if_neg (n_36 hj), pb_gd (pb_ok rfl hj (by decide)), pb_cl rfl (by omega), hhas j hj, nI_1]
    simp only [dw_jm, dw_nm]
    by_cases c : ν.1 128 j ≤ 0
    · rw [if_pos c, decide_eq_true c]
      cases pg_b (T.2 63) j <;> rfl
    · rw [if_neg c, decide_eq_false c]
      cases pg_b (T.2 63) j <;> rfl
  obtain ⟨f1, f2⟩ := pb_find (step := fun v => sX8_isStandingJustOn_2 ν v) (fun j => pg_b (T.2 63) j != !decide (ν.1 128 j ≤ 0)) (n := 36) (by omega) (fun _ => (0 : Int32)) (fun j hj e => by
    show sX8_isStandingJustOn_2 ν (nI j) = _
    rw [go j hj, if_neg (by rw [e]; decide)]) (fun j hj e => by
    show sX8_isStandingJustOn_2 ν (nI j) = _
    rw [go j hj, if_pos e]) rfl
  unfold fX8_isStandingJustOn
  rw [← ext]
  cases e : anyB (fun j => pg_b (T.2 63) j != !decide (ν.1 128 j ≤ 0)) 36 with
  | false => rw [pb_bd (f1 e)]; rfl
  | true =>
    obtain ⟨j, -, -, ej⟩ := f2 e
    rw [pb_bd ej]; rfl
theorem cl_fits (h : stt R C P N T) {hh : Nat} (hh1 : hh ≤ 29000) (wa : rl_wat P N hh (fun q => T.1 (1 + (12 + 2 * q)) 4) 53 143 T) (si : rl_set P (T.2 63) 260 143 T) {ρ : dw_M} (hJ : J_c T C N o ρ) {n : Nat} (hn : n ≤ 20) {a2 a3 : Int32} (h2 : isP 20 a2) (h3 : isP 20 a3) (hne : a2 = a3 → a2 = -1) : ∃ ν, fX9_fits ρ (nI n) a2 a3 = some (b2i (nbw (T.2 60) a2 && (nbw (T.2 60) a3 && fitB T C P N o n a2 a3)), ν) ∧ J_c T C N o ν := by
  obtain ⟨hN, hP, hC1, hC6⟩ := st_20 h
  obtain ⟨c0, m0, b0, z0⟩ := w_st wa (by omega)
  obtain ⟨j1, j2, j3, j4⟩ := hJ
  have hcp := cl_wcp ρ (i := 127) (j := 53) (Or.inr (by decide)) ⟨dw_lc128, dw_lc129, dw_lc130, dw_lc131, dw_lc132, dw_lc133⟩ ⟨dw_lc54, dw_lc55, dw_lc56, dw_lc57, dw_lc58, dw_lc59⟩
  have hco := fun c k hc => cp_Co (μ := ρ) (i := 127) (j := 53) c k hc
  have hcl := fun c => cp_Cl (μ := ρ) (i := 127) (j := 53) c
  obtain ⟨y1, y2, y3, y4, y5⟩ := cp_C1 (μ := ρ) (i := 127) (j := 53) (Or.inr (by decide))
  generalize cp_C ρ 127 53 = ρ2 at hcp hco hcl y1 y2 y3 y4 y5
  obtain ⟨w1, hw1, hb1⟩ := put1 ρ2 h2
  obtain ⟨w2, hw2, hb2⟩ := put1 (dw_sl ρ2 134 w1) h3
  obtain ⟨ρ4, hρ4⟩ : ∃ ρ4, ρ4 = dw_sl (dw_sl ρ2 134 w1) 134 w2 := ⟨_, rfl⟩
  have r1 : ∀ c k, ρ4.1 c k = ρ2.1 c k := fun c k => by rw [hρ4]; rfl
  have r2 : ∀ c, c ≠ 134 → ρ4.2 c = T.2 c := fun c hc => by
    rw [hρ4, pb_sl2, if_neg hc, pb_sl2, if_neg hc, hcl, if_neg hc, j2 c hc]
  have r3 : ∀ x, x < 20 → pg_b (ρ4.2 134) x = bkx T a2 a3 x := fun x hx => by
    rw [hρ4, pb_sl2, if_pos rfl, hb2 x hx, pb_sl2, if_pos rfl, hb1 x hx, hcl, if_pos rfl, j2 _ (by omega)]
    rfl
  have r0 : ∀ c k, (c < 127 ∨ 139 ≤ c) → ρ4.1 c k = T.1 c k := fun c k hc => by rw [r1, hco c k (by omega), j1 c k hc]
  have a4 : ag T ρ4 := ⟨fun c k hc => r0 c k (by omega), fun j hj hm => r0 143 j (by omega)⟩
  have d4 : d_ok T C N ρ4 := ⟨fun p hp => by rw [r1, hco _ _ (by omega)]; exact j3.1 p hp, fun p q u1 u2 u3 => by rw [r1, hco _ _ (by omega)]; exact j3.2 p q u1 u2 u3⟩
  have o4 : p_ok N o ρ4 := p_ok_c j4 (fun k => by rw [r1, hco _ _ (by omega)]) (by rw [r1, hco _ _ (by omega)])
  have hJ3 : J_c T C N o (dw_sl ρ2 134 w1) := ⟨fun c k hc => (hco c k (by omega)).trans (j1 c k hc), fun c hc => by rw [pb_sl2, if_neg hc, hcl, if_neg hc, j2 c hc], ⟨fun p hp => (hco _ _ (by omega)).trans (j3.1 p hp), fun p q u1 u2 u3 => (hco _ _ (by omega)).trans (j3.2 p q u1 u2 u3)⟩, p_ok_c j4 (fun k => hco _ _ (by omega)) (hco _ _ (by omega))⟩
  have e134 : ρ2.2 134 = T.2 60 := by rw [hcl, if_pos rfl, j2 _ (by omega)]
  have n2 : nbw ((dw_sl ρ2 134 w1).2 134) a3 = nbw (T.2 60) a3 := by
    rw [pb_sl2, if_pos rfl]
    rcases h3 with e | ⟨p, hp, e⟩
    · rw [e, nbw_m, nbw_m]
    · have hp2 : ¬ a2 = nI p := fun z => nI_nm1 (z := p) (by omega) (by rw [← z]; exact hne (by rw [z, e]))
      rw [e, nbw_p _ hp, nbw_p _ hp, hb1 p hp, e134, decide_eq_false hp2, Bool.or_false]
  have c4 : w_c 127 P N (w_0 T) ρ4 := by
    obtain ⟨x1, x2, x3, x4, x5, x6, x7, x8⟩ := c0
    refine ⟨fun p hp => ?_, fun p hp => ?_, fun q hq => ?_, fun q hq => ?_, fun q hq => ?_, fun d hd => ?_, ?_, ?_⟩
    · rw [r1, y1 1 (by omega) (by omega) p (by omega), j1 _ _ (by omega)]; exact x1 p hp
    · rw [r1, y1 2 (by omega) (by omega) p (by omega), j1 _ _ (by omega)]; exact x2 p hp
    · rw [r1, y2 3 (by omega) (by omega) q (by omega), j1 _ _ (by omega)]; exact x3 q hq
    · rw [r1, y2 4 (by omega) (by omega) q (by omega), j1 _ _ (by omega)]; exact x4 q hq
    · rw [r1, y2 5 (by omega) (by omega) q (by omega), j1 _ _ (by omega)]; exact x5 q hq
    · rw [r1, y3 d hd, j1 _ _ (by omega)]; exact x6 d hd
    · rw [r1, y4, j1 _ _ (by omega)]; exact x7
    · rw [r1, y5, j1 _ _ (by omega)]; exact x8
  obtain ⟨ν, f1, f2, f3⟩ := cl_hrs h a4 (Or.inr rfl) d4 o4 (bk := bkx T a2 a3) (fun q hq => (r3 q (by omega)).symm) (H := hh) (n := n) (by omega) (by omega) b0 c4 (S := sX9_fits_35 (nI n)) (fun x ρ => rfl)
  have hbn := hrs_b (bk := bkx T a2 a3) (o := o) h b0 j4.1 n
  have hju := cl_just (T := T) (ν := ν) (s := (hrs T C P N (bkx T a2 a3) o (w_0 T) n).1) hP (fun p hp => ⟨by have := hbn.1 p hp; omega, f2.1 p hp⟩) (fun p hp1 hp2 => by
    refine ⟨?_, ?_⟩
    · rw [f3.2.1 128 p (Or.inl rfl) hp1, r1, y1 1 (by omega) (by omega) p hp2, j1 _ _ (by omega)]
      exact (wa.2.1 p hp1 hp2).1
    · rw [f3.2.2.2, r2 _ (by omega)]
      exact si.2 p hp1 (by omega)) (by rw [f3.2.2.2, r2 _ (by omega)])
  have hJν : J_c T C N o ν := ⟨fun c k hc => by rw [f3.1 c k (by omega)]; exact r0 c k hc, fun c hc => by rw [f3.2.2.2]; exact r2 c hc, ⟨fun p hp => by rw [f3.1 _ _ (by omega)]; exact d4.1 p hp, fun p q u1 u2 u3 => by rw [f3.1 _ _ (by omega)]; exact d4.2 p q u1 u2 u3⟩, p_ok_c o4 (fun k => f3.1 _ _ (by omega)) (f3.1 _ _ (by omega))⟩
  have gen : fX9_fits ρ (nI n) a2 a3 = if b2i (nbw (T.2 60) a2) = 0 then some ((0 : Int32), dw_sl ρ2 134 w1) else if b2i (nbw (T.2 60) a3) = 0 then some ((0 : Int32), ρ4) else some (b2i (fitB T C P N o n a2 a3), ν) := by
    unfold fX9_fits
    rw [pb_bd hcp, pb_n2 hw1, pb_n2 hw2, n2, e134, ← hρ4, pb_bd f1, pb_bd hju, pb_gd (by cases anyB (fitP T (hrs T C P N (bkx T a2 a3) o (w_0 T) n).1) P <;> rfl)]
    rfl
  cases hA : nbw (T.2 60) a2 with
  | false =>
    refine ⟨_, ?_, hJ3⟩
    rw [gen, hA, if_pos (by decide)]
    rfl
  | true =>
    cases hA2 : nbw (T.2 60) a3 with
    | false =>
      refine ⟨_, ?_, ⟨r0, r2, d4, o4⟩⟩
      rw [gen, hA, hA2, if_neg (by decide), if_pos (by decide)]
      rfl
    | true =>
      refine ⟨_, ?_, hJν⟩
      rw [gen, hA, hA2, if_neg (by decide), if_neg (by decide)]
      rfl
end
theorem set1 {N : Nat} (hN : N ≤ 20) (ρ : dw_M) {a : Int32} (ha : isP 20 a) {f : Nat → Bool} (hf : ∀ x, x < N → ρ.1 143 (400 + 20 * x + 8) = b2i (f x)) : ∃ ξ, (∀ {β : Type} (A : dw_M → Option β), dw_jm A (fun k => if a < 0 then k ρ else dw_bd (fX10_setPipe ρ a (8 : Int32) (1 : Int32)) (fun m => k m)) = A ξ) ∧ (∀ x, x < N → ξ.1 143 (400 + 20 * x + 8) = b2i (f x || decide (a = nI x))) ∧ (∀ c j, (c ≠ 143 ∨ j < 400 ∨ (j - 400) % 20 ≠ 8) → ξ.1 c j = ρ.1 c j) ∧ ξ.2 = ρ.2 := by
  rcases ha with e | ⟨p, hp, e⟩
  · refine ⟨ρ, fun {β} A => ?_, fun x hx => ?_, fun _ _ _ => rfl, rfl⟩
    · show (if a < 0 then A ρ else dw_bd (fX10_setPipe ρ a (8 : Int32) (1 : Int32)) (fun m => A m)) = _
      rw [if_pos (by rw [e]; decide)]
    · rw [hf x hx, e, decide_eq_false (fun z => nI_nm1 (by omega) z.symm), Bool.or_false]
  · refine ⟨dw_st ρ 143 (400 + 20 * p + 8) 1, fun {β} A => ?_, fun x hx => ?_, fun c j hc => pb_o (by omega), rfl⟩
    · show (if a < 0 then A ρ else dw_bd (fX10_setPipe ρ a (8 : Int32) (1 : Int32)) (fun m => A m)) = _
      rw [if_neg (by rw [e]; exact nI_pos (by omega)), pb_bd (md_sp ρ (q := p) (w := 8) (x := a) (y := 8) e rfl hp (by decide))]
    · rw [e]
      by_cases c : x = p
      · rw [c, pb_i, decide_eq_true rfl, Bool.or_true]
        rfl
      · rw [pb_o (by omega), hf x hx, decide_eq_false (fun z => c ((nI_eq (by omega) (by omega)).mp z).symm), Bool.or_false]
section
variable {R C P N : Nat} {T μ : dw_M} {rk : Nat → Nat} {o : Nat → Nat}
/-- what the reference keeps while it tries -/
def J_m (T : dw_M) (ν ρ : dw_M) : Prop := (∀ c k, c ≠ 143 → c ≠ 145 → ρ.1 c k = ν.1 c k) ∧ (∀ j, j < 800 → ρ.1 143 j = T.1 143 j) ∧ ρ.2 = ν.2
theorem md_just {ν : dw_M} {s : Nat → Nat} (dR : ν.1 143 0 = nI R) (dC : ν.1 143 1 = nI C) (dP : P = R * C) (hP : P ≤ 36) (hs : ∀ p, p < P → s p < 2 ^ 31 ∧ ν.1 143 (100 + p) = nI (s p)) (hg : ∀ p, p < P → ν.1 143 (260 + p) = if pg_b (T.2 63) p then 1 else 0) : dw_wh (fun v => sX10_fits_62 ν v.1 v.2) 1000 ((1 : Int32), (0 : Int32)) = some (b2i (!anyB (fitP T s) P)) := by
  have p0 := pv_pl (μ := ν) dR dC dP
  refine pb_det (step := fun v => sX10_fits_62 ν v.1 v.2) (fun j => (b2i (!anyB (fitP T s) j), nI j)) P rfl (fun j hj => ?_) ?_ (by omega)
  · show sX10_fits_62 ν (b2i (!anyB (fitP T s) j)) (nI j) = some (.inl (b2i (!(anyB (fitP T s) j || fitP T s j)), nI (j + 1)))
    obtain ⟨z1, z2⟩ := hs j hj
    unfold sX10_fits_62
    rw [p0, if_neg (nI_ge hj (by omega)), pv_a (c := 100) (n := 100) rfl, pv_a (c := 260) (n := 260) rfl, pb_gd (pb_ok (j := 100 + j) rfl (by omega) (by decide)), pb_cl (x := nI (100 + j)) rfl (by omega), pb_cl (x := nI (260 + j)) rfl (by omega), z2, hg j hj, nI_1]
    simp only [dw_jm, dw_nm]
    rw [pb_gd (pb_ok (j := 260 + j) rfl (by omega) (by decide)), pb_gd (pb_ok (j := 260 + j) rfl (by omega) (by decide))]
    cases anyB (fitP T s) j with
    | true => rw [if_pos (by decide)]; rfl
    | false =>
      rw [if_neg (by decide)]
      unfold fitP
      by_cases c : 0 < s j
      · rw [if_neg (nI_nle c z1), decide_eq_true c]
        cases pg_b (T.2 63) j <;> rfl
      · rw [show s j = 0 by omega, if_pos (by decide), decide_eq_false (by decide)]
        cases pg_b (T.2 63) j <;> rfl
  · show sX10_fits_62 ν _ (nI P) = _
    unfold sX10_fits_62
    rw [p0, if_pos (nI_le (Nat.le_refl _) (by omega))]
theorem md_fhr (h : stt R C P N T) (a : ag T μ) (hrk : ∀ q, q < N → rk q < N ∧ ∃ c, ch N T q (rk q) c) (ho : o_f rk N o) {bk : Nat → Bool} (hk : ∀ q, q < N → μ.1 143 (400 + 20 * q + 8) = b2i (bk q)) {H n : Nat} (hn : n ≤ 50) (hH : H + n ≤ 30000) {W : wt} (hb : w_b T P N H W) (hw : w_m P N W μ) : ∃ ν, dw_wh (fun v => sX10_fits_38 (nI n) v.1 v.2) 1000 ((0 : Int32), μ) = some ν ∧ w_m P N (hrs T C P N bk o W n) ν ∧ m_f μ ν := by
  obtain ⟨hN, hP, -⟩ := st_20 h
  refine pb_inv (step := fun v : Int32 × dw_M => sX10_fits_38 (nI n) v.1 v.2) (fun j x => x.1 = nI j ∧ w_m P N (hrs T C P N bk o W j) x.2 ∧ m_f μ x.2) n _ (fun j x hj hx => ?_) (fun x hx => ?_) (fuel := 1000) (by omega) (x := ((0 : Int32), μ)) ⟨rfl, hw, m_f0 μ⟩
  · obtain ⟨x, ν⟩ := x
    obtain ⟨f1, f2, f4⟩ := hx
    have f1 : x = nI j := f1
    have f2 : w_m P N (hrs T C P N bk o W j) ν := f2
    have f4 : m_f μ ν := f4
    subst f1
    left
    obtain ⟨ν1, v, g1, g2, g3, g4⟩ := md_hr h (m_fag a f4) hrk ho (bk := bk) (fun q hq => by rw [f4.2.1 _ (by omega) (by omega) (by omega)]; exact hk q hq) (H := H + j) (by omega) (hrs_b h hb (fun t ht => (ho t ht).1) j) f2
    refine ⟨(nI (j + 1), ν1), ?_, rfl, g2, m_ft f4 g4⟩
    show sX10_fits_38 (nI n) (nI j) ν = _
    unfold sX10_fits_38
    rw [if_neg (nI_ge hj (by omega)), pb_b2 g1, nI_1]
    rfl
  · obtain ⟨x, ν⟩ := x
    obtain ⟨f1, f2, f4⟩ := hx
    have f1 : x = nI n := f1
    subst f1
    refine ⟨ν, ?_, f2, f4⟩
    show sX10_fits_38 (nI n) (nI n) ν = _
    unfold sX10_fits_38
    rw [if_pos (nI_le (Nat.le_refl _) (by omega))]
theorem md_fits (h : stt R C P N T) {hh : Nat} (hh1 : hh ≤ 29000) (wa : rl_wat P N hh (fun q => T.1 (1 + (12 + 2 * q)) 4) 53 143 T) (si : rl_set P (T.2 63) 260 143 T) (bl : rl_blk N (T.2 60) 143 T) (hrk : ∀ q, q < N → rk q < N ∧ ∃ c, ch N T q (rk q) c) (ho : o_f rk N o) {ν0 ρ : dw_M} (h0 : ∀ c k, (c < 127 ∨ 139 ≤ c) → ν0.1 c k = T.1 c k) (hJ : J_m T ν0 ρ) {n : Nat} (hn : n ≤ 20) {a2 a3 : Int32} (h2 : isP 20 a2) (h3 : isP 20 a3) : ∃ ν, fX10_fits ρ (nI n) a2 a3 = some (b2i (fitB T C P N o n a2 a3), ν) ∧ J_m T ν0 ν := by
  obtain ⟨hN, hP, hC1, hC6⟩ := st_20 h
  obtain ⟨e0, e1, e2, e3, e4, e5⟩ := st_dim h
  obtain ⟨c0, m0, b0, z0⟩ := w_st wa (by omega)
  obtain ⟨j1, j2, j3⟩ := hJ
  obtain ⟨ρ2, hρ2⟩ : ∃ ρ2, ρ2 = pb_K ρ 143 145 800 := ⟨_, rfl⟩
  have k1 : ∀ c j, c ≠ 145 → ρ2.1 c j = ρ.1 c j := fun c j hc => by rw [hρ2, pb_Ko (Or.inl hc)]
  have k2 : ∀ j, j < 800 → ρ2.1 145 j = T.1 143 j := fun j hj => by rw [hρ2, pb_Ki hj, j2 j hj]
  have k3 : ρ2.2 = ν0.2 := by rw [hρ2, pb_K2, j3]
  have hcp : fX10_copy ρ 143 145 = some ρ2 := by rw [hρ2]; exact md_copy ρ dw_lc143 dw_lc145 (by decide)
  obtain ⟨ρ3, s1, s2, s3, s4⟩ := set1 hN ρ2 h2 (f := fun x => pg_b (T.2 60) x) (fun x hx => by rw [k1 _ _ (by omega), j2 _ (by omega)]; exact bl.1 x hx)
  obtain ⟨ρ4, t1, t2, t3, t4⟩ := set1 hN ρ3 h3 s2
  have r0 : ∀ c j, c ≠ 143 → c ≠ 145 → ρ4.1 c j = ν0.1 c j := fun c j h1 h2 => by rw [t3 _ _ (by omega), s3 _ _ (by omega), k1 _ _ h2, j1 _ _ h1 h2]
  have r1 : ∀ j, j < 800 → (j < 400 ∨ (j - 400) % 20 ≠ 8) → ρ4.1 143 j = T.1 143 j := fun j h1 h2 => by rw [t3 _ _ (by omega), s3 _ _ (by omega), k1 _ _ (by omega), j2 _ h1]
  have r2 : ∀ j, j < 800 → ρ4.1 145 j = T.1 143 j := fun j h1 => by rw [t3 _ _ (by omega), s3 _ _ (by omega), k2 _ h1]
  have r3 : ρ4.2 = ν0.2 := by rw [t4, s4, k3]
  have a4 : ag T ρ4 := ⟨fun c k hc => by rw [r0 _ _ (by omega) (by omega), h0 _ _ (by omega)], fun j hj hm => r1 j hj (by
    unfold msl at hm
    omega)⟩
  have m4 : w_m P N (w_0 T) ρ4 := by
    obtain ⟨x1, x2, x3, x4, x5, x6, x7, x8⟩ := m0
    exact ⟨fun p hp => by rw [r1 _ (by omega) (by omega)]; exact x1 p hp, fun p hp => by rw [r1 _ (by omega) (by omega)]; exact x2 p hp, fun p hp => by rw [r1 _ (by omega) (by omega)]; exact x3 p hp, fun p hp => by rw [r1 _ (by omega) (by omega)]; exact x4 p hp, fun p hp => by rw [r1 _ (by omega) (by omega)]; exact x5 p hp, fun p hp => by rw [r1 _ (by omega) (by omega)]; exact x6 p hp, by rw [r1 _ (by omega) (by omega)]; exact x7, by rw [r1 _ (by omega) (by omega)]; exact x8⟩
  obtain ⟨ν, f1, f2, f3⟩ := md_fhr h a4 hrk ho (bk := bkx T a2 a3) t2 (H := hh) (n := n) (by omega) (by omega) b0 m4
  have hbn := hrs_b (bk := bkx T a2 a3) (o := o) h b0 (fun t ht => (ho t ht).1) n
  have hju := md_just (T := T) (ν := ν) (s := (hrs T C P N (bkx T a2 a3) o (w_0 T) n).1) (R := R) (C := C) (by rw [f3.2.1 _ (by omega) (by omega) (by omega), r1 _ (by omega) (by omega), e0]) (by rw [f3.2.1 _ (by omega) (by omega) (by omega), r1 _ (by omega) (by omega), e1]) e2 hP (fun p hp => ⟨by have := hbn.1 p hp; omega, f2.1 p hp⟩) (fun p hp => by rw [f3.2.1 _ (by omega) (by omega) (by omega), r1 _ (by omega) (by omega)]; exact si.1 p hp)
  refine ⟨pb_K ν 145 143 800, ?_, fun c k h1 h2 => ?_, fun j hj => ?_, ?_⟩
  · unfold fX10_fits
    rw [pb_bd hcp, s1, t1, pb_bd f1, pb_bd hju, pb_bd (md_copy ν dw_lc145 dw_lc143 (by decide)), pb_gd (by cases anyB (fitP T (hrs T C P N (bkx T a2 a3) o (w_0 T) n).1) P <;> rfl)]
    rfl
  · rw [pb_Ko (Or.inl h1), f3.1 _ _ h1, r0 _ _ h1 h2]
  · rw [pb_Ki hj, f3.1 _ _ (by omega), r2 j hj]
  · rw [pb_K2, f3.2.2, r3]
end
