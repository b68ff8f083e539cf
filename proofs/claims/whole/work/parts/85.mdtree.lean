/-! the reference's tree -/
def t_en : Option (Nat × Nat) → Int32
  | none => -1
  | some v => nI (100 * v.1 + v.2)
section
variable {R C P N : Nat} {T μ : dw_M} {f : Nat → Nat}
theorem md_cost (h : stt R C P N T) {ρ : dw_M} (hρ : ∀ j, ρ.1 143 j = T.1 143 j) {a b : Nat} (ha : a < P) (hb : b < P) : fX10_cost ρ (nI a) (nI b) = some (nI (t_co T C a b)) := by
  obtain ⟨hN, hP, hC1, hC6⟩ := st_20 h
  obtain ⟨e0, e1, e2, e3, e4, e5⟩ := st_dim h
  have dC : ρ.1 143 1 = nI C := by rw [hρ, e1]
  have h1 := t_hh h ha
  have h2 := t_hh h hb
  have b1 : ∀ x, x < 36 → x / C < 100000 ∧ x % C < 100000 := fun x hx => by
    have := Nat.div_le_self x C
    have := Nat.mod_le x C
    exact ⟨Nat.lt_of_le_of_lt (Nat.div_le_self x C) (by omega), Nat.lt_of_le_of_lt (Nat.mod_le x C) (by omega)⟩
  unfold fX10_cost
  rw [pb_bd (pv_row10 dC hC1 hC6 (by omega)), pb_bd (pv_row10 dC hC1 hC6 (by omega)), pb_bd (pv_col10 dC hC1 hC6 (by omega)), pb_bd (pv_col10 dC hC1 hC6 (by omega)), pv_a (c := 20) (n := 20) rfl, pv_a (c := 20) (n := 20) rfl, pb_gd (pb_ok rfl (by omega) (by decide)), pb_gd (pb_ok rfl (by omega) (by decide)), pb_cl (x := nI (20 + a)) rfl (by omega), pb_cl (x := nI (20 + b)) rfl (by omega), hρ, hρ, h1.1, h2.1, nd_size (b1 a (by omega)).1 (b1 b (by omega)).1, nd_size (b1 a (by omega)).2 (b1 b (by omega)).2, nd_size (by omega) (by omega), nI_add, show (10 : Int32) = nI 10 from rfl, pk_mul, nI_add]
  rfl
theorem re_n {a : Nat} (ha : a < 2 ^ 31) : dw_re (nI a) 100 = nI (a % 100) := pk_rem (d := 100) ha (by decide) (by decide)
theorem di_n {a : Nat} (ha : a < 2 ^ 31) : nI a / 100 = nI (a / 100) := pk_div (d := 100) ha (by decide) (by decide)
theorem jm_jn {β : Type} (K : Int32 → Option β) (ρ : dw_M) {a b : Nat} (ha : a < P) (hb : b < P) (hP : P ≤ 36) (hm : ∀ p, p < P → ρ.1 143 (220 + p) = b2i (t_mk T p)) (hf : ∀ p, p < P → f p < 36 ∧ ρ.1 146 p = nI (f p)) : dw_jm K (fun k72 => dw_jm (k72 (0 : Int32)) (fun k71 => if (ρ.1 143 ((220 : Int32) + nI a).toNatClampNeg) = (1 : Int32) then dw_gd (dw_ok ((220 : Int32) + nI b) 800) (if (ρ.1 143 ((220 : Int32) + nI b).toNatClampNeg) = (1 : Int32) then dw_gd (dw_ok (nI a) 36) (dw_gd (dw_ok (nI b) 36) (if (ρ.1 146 (nI a).toNatClampNeg) = (ρ.1 146 (nI b).toNatClampNeg) then k71 else k72 (1 : Int32))) else k71) else k71)) = K (b2i (t_jn (t_mk T) f a b)) := by
  show (if (ρ.1 143 ((220 : Int32) + nI a).toNatClampNeg) = (1 : Int32) then dw_gd (dw_ok ((220 : Int32) + nI b) 800) (if (ρ.1 143 ((220 : Int32) + nI b).toNatClampNeg) = (1 : Int32) then dw_gd (dw_ok (nI a) 36) (dw_gd (dw_ok (nI b) 36) (if (ρ.1 146 (nI a).toNatClampNeg) = (ρ.1 146 (nI b).toNatClampNeg) then K 0 else K 1)) else K 0) else K 0) = _
  rw [pv_a (c := 220) (n := 220) rfl, pv_a (c := 220) (n := 220) rfl, pb_gd (pb_ok (j := 220 + b) rfl (by omega) (by decide)), pb_gd (pb_ok (j := a) (n := 36) rfl (by omega) (by decide)), pb_gd (pb_ok (j := b) (n := 36) rfl (by omega) (by decide)), pb_cl (x := nI (220 + a)) rfl (by omega), pb_cl (x := nI (220 + b)) rfl (by omega), pb_cl (x := nI a) rfl (by omega), pb_cl (x := nI b) rfl (by omega), hm a ha, hm b hb, (hf a ha).2, (hf b hb).2]
  unfold t_jn
  have fa := (hf a ha).1
  have fb := (hf b hb).1
  cases t_mk T a with
  | false => rw [if_neg (by decide)]; rfl
  | true =>
    rw [if_pos (by decide)]
    cases t_mk T b with
    | false => rw [if_neg (by decide)]; rfl
    | true =>
      rw [if_pos (by decide)]
      by_cases c : f a = f b
      · rw [if_pos (by rw [c]), decide_eq_true c]; rfl
      · rw [if_neg (fun z => c ((nI_eq (by omega) (by omega)).mp z)), decide_eq_false c]; rfl
/-- the search of the reference -/
theorem md_find (h : stt R C P N T) (hs : rl_set P (T.2 62) 220 143 T) {ρ : dw_M} (hρ : ∀ j, ρ.1 143 j = T.1 143 j) (hf : ∀ p, p < P → f p < 36 ∧ ρ.1 146 p = nI (f p)) : dw_wh (fun v => sX10_takePair_4 ρ v.1 v.2) 1000 ((-1 : Int32), (0 : Int32)) = some (t_en (t_out (t_mk T) (t_co T C) P f P)) := by
  obtain ⟨hN, hP, hC1, hC6⟩ := st_20 h
  obtain ⟨e0, e1, e2, e3, e4, e5⟩ := st_dim h
  have p0 : fX10_places ρ = nI P := pv_pl (R := R) (C := C) (by rw [hρ, e0]) (by rw [hρ, e1]) e2
  have hm : ∀ p, p < P → ρ.1 143 (220 + p) = b2i (t_mk T p) := fun p hp => by rw [hρ]; exact hs.1 p hp
  have inner : ∀ a s, a < P → (∀ v, s = some v → t_gd (t_mk T) P f v) → dw_wh (fun v => sX10_takePair_16 ρ (nI a) v.1 v.2) 1000 (t_en s, nI (a + 1)) = some (t_en (t_in (t_mk T) (t_co T C) f a s (P - (a + 1)))) := by
    intro a s ha hs
    refine pb_det (step := fun v => sX10_takePair_16 ρ (nI a) v.1 v.2) (fun d => (t_en (t_in (t_mk T) (t_co T C) f a s d), nI (a + 1 + d))) (P - (a + 1)) rfl (fun d hd => ?_) ?_ (by omega)
    · have hgd := t_in_g (mk := t_mk T) (co := t_co T C) (P := P) (f := f) (a := a) hs d (by omega)
      show sX10_takePair_16 ρ (nI a) (t_en (t_in (t_mk T) (t_co T C) f a s d)) (nI (a + 1 + d)) = some (.inl (t_en (t_st (t_mk T) (t_co T C) f a (a + 1 + d) (t_in (t_mk T) (t_co T C) f a s d)), nI (a + 1 + d + 1)))
      generalize t_in (t_mk T) (t_co T C) f a s d = S at hgd
      obtain ⟨b, hb⟩ : ∃ b, b = a + 1 + d := ⟨_, rfl⟩
      rw [← hb]
      have hbP : b < P := by omega
      unfold sX10_takePair_16
      rw [p0, if_neg (nI_ge hbP (by omega)), pb_gd (pb_ok (j := 220 + a) (by rw [pv_a (c := 220) (n := 220) rfl]) (by omega) (by decide)), jm_jn (T := T) (f := f) _ ρ ha hbP hP hm hf]
      simp only [dw_nm]
      rw [nI_1, show (100 : Int32) * nI a = nI (100 * a) from pk_mul 100 a, nI_add]
      unfold t_st
      cases hj : t_jn (t_mk T) f a b with
      | false => rw [if_pos (by decide), if_neg (by decide)]
      | true =>
        rw [if_neg (by decide), if_pos rfl]
        cases S with
        | none => rw [if_pos (show t_en none < 0 by decide)]; rfl
        | some v =>
          obtain ⟨q1, q2, -⟩ := hgd v rfl
          have ev : t_en (some v) = nI (100 * v.1 + v.2) := rfl
          have hd1 : (100 * v.1 + v.2) / 100 = v.1 := by omega
          have hd2 : (100 * v.1 + v.2) % 100 = v.2 := by omega
          have hcl := t_co_lt h ha hbP
          have hcl2 := t_co_lt h (show v.1 < P by omega) q2
          rw [ev, if_neg (nI_pos (by omega)), pb_bd (md_cost h hρ ha hbP), di_n (by omega), re_n (by omega), hd1, hd2, pb_bd (md_cost h hρ (by omega) q2)]
          show _ = some (Sum.inl (t_en (if t_co T C a b < t_co T C v.1 v.2 then some (a, b) else some v), nI (b + 1)))
          by_cases c : t_co T C a b < t_co T C v.1 v.2
          · rw [if_pos c, if_neg (nI_ge c (by omega))]; rfl
          · rw [if_neg c, if_pos (nI_le (by omega) (by omega))]; rfl
    · show sX10_takePair_16 ρ (nI a) _ (nI (a + 1 + (P - (a + 1)))) = _
      unfold sX10_takePair_16
      rw [p0, if_pos (nI_le (by omega) (by omega))]
  refine pb_det (step := fun v => sX10_takePair_4 ρ v.1 v.2) (fun a => (t_en (t_out (t_mk T) (t_co T C) P f a), nI a)) P rfl (fun a ha => ?_) ?_ (by omega)
  · show sX10_takePair_4 ρ (t_en (t_out (t_mk T) (t_co T C) P f a)) (nI a) = some (.inl (t_en (t_in (t_mk T) (t_co T C) f a (t_out (t_mk T) (t_co T C) P f a) (P - (a + 1))), nI (a + 1)))
    unfold sX10_takePair_4
    rw [p0, if_neg (nI_ge ha (by omega)), nI_1]
    simp only [dw_nm]
    rw [pb_bd (inner a _ ha (t_out_g (mk := t_mk T) (co := t_co T C) (f := f) a (by omega)))]
  · show sX10_takePair_4 ρ _ (nI P) = _
    unfold sX10_takePair_4
    rw [p0, if_pos (nI_le (Nat.le_refl _) (by omega))]
/-- the reference's state behind j pairs -/
def t_m (T σ : dw_M) (C P j : Nat) (ρ : dw_M) : Prop := (∀ c k, c ≠ 146 → c ≠ 147 → (c ≠ 142 ∨ k ≠ 6) → ρ.1 c k = σ.1 c k) ∧ ρ.2 = σ.2 ∧ (∀ p, p < P → ρ.1 146 p = nI (tr (t_mk T) (t_co T C) P j p)) ∧ ρ.1 142 6 = nI j ∧ ∀ t, t < j → ρ.1 147 t = nI (100 * (tr_v (t_mk T) (t_co T C) P t).1 + (tr_v (t_mk T) (t_co T C) P t).2)
theorem md_step (h : stt R C P N T) (hs : rl_set P (T.2 62) 220 143 T) {σ : dw_M} (hσ : ∀ j, σ.1 143 j = T.1 143 j) {j : Nat} (hj : j < fb_ct (t_mk T) P - 1) {ρ : dw_M} (hc : t_m T σ C P j ρ) : ∃ ξ, fX10_takePair ρ = some (1, ξ) ∧ t_m T σ C P (j + 1) ξ := by
  obtain ⟨hN, hP, hC1, hC6⟩ := st_20 h
  obtain ⟨e0, e1, e2, e3, e4, e5⟩ := st_dim h
  obtain ⟨c1, c2, c3, c4, c5⟩ := hc
  have hct := fb_ct_le (t_mk T) P
  have hlt := tr_lt (mk := t_mk T) (co := t_co T C) hP j (by omega)
  have hfi := md_find h hs (ρ := ρ) (f := tr (t_mk T) (t_co T C) P j) (fun j => by rw [c1 _ _ (by omega) (by omega) (by omega), hσ]) (fun p hp => ⟨hlt p (by omega), c3 p hp⟩)
  obtain ⟨e, g1, g2, g3⟩ := tr_some (mk := t_mk T) (co := t_co T C) hj
  obtain ⟨-, -, hne⟩ := t_jn_t g3
  have hmg : tr (t_mk T) (t_co T C) P (j + 1) = t_mg (tr (t_mk T) (t_co T C) P j) (some (tr_v (t_mk T) (t_co T C) P j)) := by
    show t_mg (tr (t_mk T) (t_co T C) P j) (t_out (t_mk T) (t_co T C) P (tr (t_mk T) (t_co T C) P j) P) = _
    rw [e]
  rw [e] at hfi
  obtain ⟨x, hx⟩ : ∃ x, x = (tr_v (t_mk T) (t_co T C) P j).1 := ⟨_, rfl⟩
  obtain ⟨y, hy⟩ : ∃ y, y = (tr_v (t_mk T) (t_co T C) P j).2 := ⟨_, rfl⟩
  have hmg2 : ∀ p, tr (t_mk T) (t_co T C) P (j + 1) p = if tr (t_mk T) (t_co T C) P j p = tr (t_mk T) (t_co T C) P j y then tr (t_mk T) (t_co T C) P j x else tr (t_mk T) (t_co T C) P j p := fun p => by rw [hmg, hx, hy]; rfl
  have ev : t_en (some (tr_v (t_mk T) (t_co T C) P j)) = nI (100 * x + y) := by rw [hx, hy]; rfl
  have hn : nI (100 * x + y) = nI (100 * (tr_v (t_mk T) (t_co T C) P j).1 + (tr_v (t_mk T) (t_co T C) P j).2) := by rw [hx, hy]
  rw [ev] at hfi
  rw [← hx] at g1 hne
  rw [← hy] at g1 g2 hne
  generalize tr (t_mk T) (t_co T C) P j = F at c3 hlt hmg2 hne
  have hd1 : (100 * x + y) / 100 = x := by omega
  have hd2 : (100 * x + y) % 100 = y := by omega
  obtain ⟨τ, k1, k2, k3, k4⟩ := pb_inv (step := fun v : Int32 × dw_M => sX10_takePair_141 (nI (100 * x + y)) (nI (F y)) v.1 v.2) (fun p z => z.1 = nI p ∧ (∀ k, k < P → z.2.1 146 k = nI (if k < p then (if F k = F y then F x else F k) else F k)) ∧ (∀ c k, c ≠ 146 → z.2.1 c k = ρ.1 c k) ∧ z.2.2 = ρ.2) P (fun ξ => (∀ k, k < P → ξ.1 146 k = nI (if F k = F y then F x else F k)) ∧ (∀ c k, c ≠ 146 → ξ.1 c k = ρ.1 c k) ∧ ξ.2 = ρ.2) (fun p z hp hz => by
    obtain ⟨z, τ⟩ := z
    obtain ⟨f1, f2, f3, f4⟩ := hz
    have f1 : z = nI p := f1
    have f2 : ∀ k, k < P → τ.1 146 k = nI (if k < p then (if F k = F y then F x else F k) else F k) := f2
    have f3 : ∀ c k, c ≠ 146 → τ.1 c k = ρ.1 c k := f3
    have f4 : τ.2 = ρ.2 := f4
    subst f1
    left
    have p0 : fX10_places τ = nI P := pv_pl (R := R) (C := C) (by rw [f3 _ _ (by omega), c1 _ _ (by omega) (by omega) (by omega), hσ, e0]) (by rw [f3 _ _ (by omega), c1 _ _ (by omega) (by omega) (by omega), hσ, e1]) e2
    have tp : τ.1 146 p = nI (F p) := by rw [f2 p hp, if_neg (by omega)]
    have tx : τ.1 146 x = nI (F x) := by
      rw [f2 x (by omega), if_neg hne]
      by_cases c : x < p
      · rw [if_pos c]
      · rw [if_neg c]
    have l1 := hlt p (by omega)
    have l2 := hlt y (by omega)
    refine ⟨(nI (p + 1), dw_st τ 146 p (nI (if F p = F y then F x else F p))), ?_, rfl, fun k hk => ?_, fun c k hc => ?_, f4⟩
    · show sX10_takePair_141 (nI (100 * x + y)) (nI (F y)) (nI p) τ = _
      unfold sX10_takePair_141
      rw [p0, if_neg (nI_ge hp (by omega)), pb_gd (pb_ok rfl (by omega) (by decide)), pb_cl (x := nI p) rfl (by omega), tp, di_n (by omega), hd1, pb_gd (pb_ok (j := x) rfl (by omega) (by decide)), pb_cl (x := nI x) rfl (by omega), tx, nI_1]
      by_cases c : F p = F y
      · rw [if_pos (by rw [c]), if_pos c]; rfl
      · rw [if_neg (fun z => c ((nI_eq (by omega) (by omega)).mp z)), if_neg c]; rfl
    · show (dw_st τ 146 p _).1 146 k = _
      by_cases e : k = p
      · rw [e, pb_i, if_pos (show p < p + 1 by omega)]
      · rw [pb_o (by omega), f2 k hk]
        by_cases c2 : k < p
        · rw [if_pos c2, if_pos (show k < p + 1 by omega)]
        · rw [if_neg c2, if_neg (show ¬ k < p + 1 by omega)]
    · show (dw_st τ 146 p _).1 c k = _
      rw [pb_o (by omega)]
      exact f3 c k hc) (fun z hz => by
    obtain ⟨z, τ⟩ := z
    obtain ⟨f1, f2, f3, f4⟩ := hz
    have f1 : z = nI P := f1
    have f2 : ∀ k, k < P → τ.1 146 k = nI (if k < P then (if F k = F y then F x else F k) else F k) := f2
    have f3 : ∀ c k, c ≠ 146 → τ.1 c k = ρ.1 c k := f3
    subst f1
    have p0 : fX10_places τ = nI P := pv_pl (R := R) (C := C) (by rw [f3 _ _ (by omega), c1 _ _ (by omega) (by omega) (by omega), hσ, e0]) (by rw [f3 _ _ (by omega), c1 _ _ (by omega) (by omega) (by omega), hσ, e1]) e2
    refine ⟨τ, ?_, fun k hk => by rw [f2 k hk, if_pos hk], f3, f4⟩
    show sX10_takePair_141 (nI (100 * x + y)) (nI (F y)) (nI P) τ = _
    unfold sX10_takePair_141
    rw [p0, if_pos (nI_le (Nat.le_refl _) (by omega))]) (fuel := 1000) (by omega) (x := ((0 : Int32), ρ)) ⟨rfl, fun k hk => by rw [if_neg (by omega)]; exact c3 k hk, fun _ _ _ => rfl, rfl⟩
  have t6 : τ.1 142 6 = nI j := by rw [k3 _ _ (by omega), c4]
  refine ⟨dw_st (dw_st τ 147 j (nI (100 * x + y))) 142 6 (nI (j + 1)), ?_, fun c k h1 h2 h3 => ?_, ?_, fun p hp => ?_, pb_i, fun t ht => ?_⟩
  · unfold fX10_takePair
    rw [pb_bd hfi, if_pos (nI_pos' (by omega)), re_n (by omega), hd2, pb_gd (pb_ok (j := y) rfl (by omega) (by decide)), pb_cl (x := nI y) rfl (by omega), c3 y g2]
    simp only [dw_nm]
    rw [pb_bd k1, t6, pb_gd (pb_ok (j := j) rfl (by omega) (by decide)), pb_cl rfl (by omega), pb_o (c := 142) (j := 6) (by omega), t6, nI_1]
  · rw [pb_o (by omega), pb_o (by omega), k3 _ _ h1, c1 _ _ h1 h2 h3]
  · show τ.2 = _
    rw [k4, c2]
  · rw [pb_o (by omega), pb_o (by omega), k2 p hp, hmg2 p]
  · rw [pb_o (by omega)]
    by_cases e : t = j
    · rw [e, pb_i, hn]
    · rw [pb_o (by omega), k3 _ _ (by omega), c5 t (by omega)]
theorem md_tfind (h : stt R C P N T) (hs : rl_set P (T.2 62) 220 143 T) {σ : dw_M} (hσ : ∀ j, σ.1 143 j = T.1 143 j) : ∃ ν, fX10_findTree σ = some ν ∧ t_m T σ C P (fb_ct (t_mk T) P - 1) ν := by
  obtain ⟨hN, hP, hC1, hC6⟩ := st_20 h
  have hct := fb_ct_le (t_mk T) P
  obtain ⟨ρ, k1, k2, k3, k4⟩ := pb_inv (step := fun v : Int32 × dw_M => sX10_findTree_7 v.1 v.2) (fun p z => z.1 = nI p ∧ (∀ k, k < p → z.2.1 146 k = nI k) ∧ (∀ c k, c ≠ 146 → z.2.1 c k = (dw_st σ 142 6 0).1 c k) ∧ z.2.2 = σ.2) 36 (fun ξ => (∀ k, k < 36 → ξ.1 146 k = nI k) ∧ (∀ c k, c ≠ 146 → ξ.1 c k = (dw_st σ 142 6 0).1 c k) ∧ ξ.2 = σ.2) (fun p z hp hz => by
    obtain ⟨z, τ⟩ := z
    obtain ⟨f1, f2, f3, f4⟩ := hz
    have f1 : z = nI p := f1
    have f2 : ∀ k, k < p → τ.1 146 k = nI k := f2
    have f3 : ∀ c k, c ≠ 146 → τ.1 c k = (dw_st σ 142 6 0).1 c k := f3
    have f4 : τ.2 = σ.2 := f4
    subst f1
    left
    refine ⟨(nI (p + 1), dw_st τ 146 p (nI p)), ?_, rfl, fun k hk => ?_, fun c k hc => ?_, f4⟩
    · show sX10_findTree_7 (nI p) τ = _
      unfold sX10_findTree_7
      rw [if_neg (n_36 hp), pb_gd (pb_ok rfl hp (by decide)), pb_cl rfl (by omega), nI_1]
      rfl
    · show (dw_st τ 146 p _).1 146 k = _
      by_cases e : k = p
      · rw [e, pb_i]
      · rw [pb_o (by omega)]
        exact f2 k (by omega)
    · show (dw_st τ 146 p _).1 c k = _
      rw [pb_o (c := c) (by omega)]
      exact f3 c k hc) (fun z hz => by
    obtain ⟨z, τ⟩ := z
    obtain ⟨f1, f2, f3, f4⟩ := hz
    have f1 : z = nI 36 := f1
    subst f1
    exact ⟨τ, rfl, f2, f3, f4⟩) (fuel := 1000) (by omega) (x := ((0 : Int32), dw_st σ 142 6 0)) ⟨rfl, fun k hk => absurd hk (by omega), fun _ _ _ => rfl, rfl⟩
  have st0 : t_m T σ C P 0 ρ := by
    refine ⟨fun c k h1 h2 h3 => ?_, k4, fun p hp => ?_, ?_, fun t ht => absurd ht (by omega)⟩
    · rw [k3 _ _ h1, pb_o h3]
    · rw [k2 p (by omega)]
      rfl
    · rw [k3 _ _ (by omega), pb_i]
      rfl
  obtain ⟨ν, g1, g2⟩ := pb_inv (step := fun v : Int32 × dw_M => sX10_findTree_28 v.1 v.2) (fun j z => (j ≤ fb_ct (t_mk T) P - 1 → z.1 = 1 ∧ t_m T σ C P j z.2) ∧ (j = fb_ct (t_mk T) P - 1 + 1 → z.1 = 0 ∧ t_m T σ C P (fb_ct (t_mk T) P - 1) z.2)) (fb_ct (t_mk T) P - 1 + 1) (fun ξ => t_m T σ C P (fb_ct (t_mk T) P - 1) ξ) (fun j z hj hz => by
    obtain ⟨z, τ⟩ := z
    obtain ⟨f1, f2⟩ := hz.1 (by omega)
    have f1 : z = 1 := f1
    have f2 : t_m T σ C P j τ := f2
    subst f1
    left
    by_cases c : j < fb_ct (t_mk T) P - 1
    · obtain ⟨ξ, q1, q2⟩ := md_step h hs hσ c f2
      refine ⟨(1, ξ), ?_, fun _ => ⟨rfl, q2⟩, fun z => absurd z (by omega)⟩
      show sX10_findTree_28 1 τ = _
      unfold sX10_findTree_28
      rw [if_neg (by decide), pb_b2 q1]
    · have ej : j = fb_ct (t_mk T) P - 1 := by omega
      have hlt := tr_lt (mk := t_mk T) (co := t_co T C) hP j (by omega)
      have hfi := md_find h hs (ρ := τ) (f := tr (t_mk T) (t_co T C) P j) (fun j => by rw [f2.1 _ _ (by omega) (by omega) (by omega), hσ]) (fun p hp => ⟨hlt p (by omega), f2.2.2.1 p hp⟩)
      rw [ej] at hfi f2
      rw [tr_none] at hfi
      refine ⟨(0, τ), ?_, fun z => absurd z (by omega), fun _ => ⟨rfl, f2⟩⟩
      show sX10_findTree_28 1 τ = _
      unfold sX10_findTree_28 fX10_takePair
      rw [if_neg (by decide), pb_bd hfi]
      rfl) (fun z hz => by
    obtain ⟨z, τ⟩ := z
    obtain ⟨f1, f2⟩ := hz.2 rfl
    have f1 : z = 0 := f1
    subst f1
    exact ⟨τ, rfl, f2⟩) (fuel := 1000) (by omega) (x := ((1 : Int32), ρ)) ⟨fun _ => ⟨rfl, st0⟩, fun z => absurd z (by omega)⟩
  refine ⟨ν, ?_, g2⟩
  unfold fX10_findTree
  simp only [dw_nm]
  rw [pb_bd k1, pb_bd g1]
theorem md_tsum (h : stt R C P N T) {σ ν : dw_M} (hσ : ∀ j, σ.1 143 j = T.1 143 j) (hm : t_m T σ C P (fb_ct (t_mk T) P - 1) ν) : dw_wh (fun v => sX10_tree_8 ν v.1 v.2) 1000 ((0 : Int32), (0 : Int32)) = some (nI (tr_c (t_mk T) (t_co T C) P (fb_ct (t_mk T) P - 1))) := by
  obtain ⟨hN, hP, hC1, hC6⟩ := st_20 h
  have hct := fb_ct_le (t_mk T) P
  obtain ⟨c1, c2, c3, c4, c5⟩ := hm
  refine pb_det (step := fun v => sX10_tree_8 ν v.1 v.2) (fun j => (nI (tr_c (t_mk T) (t_co T C) P j), nI j)) (fb_ct (t_mk T) P - 1) rfl (fun j hj => ?_) ?_ (by omega)
  · show sX10_tree_8 ν (nI (tr_c (t_mk T) (t_co T C) P j)) (nI j) = some (.inl (nI (tr_c (t_mk T) (t_co T C) P j + t_co T C (tr_v (t_mk T) (t_co T C) P j).1 (tr_v (t_mk T) (t_co T C) P j).2), nI (j + 1)))
    obtain ⟨e, g1, g2, g3⟩ := tr_some (mk := t_mk T) (co := t_co T C) hj
    have c5j := c5 j hj
    generalize tr_v (t_mk T) (t_co T C) P j = v at g1 g2 c5j
    have hd1 : (100 * v.1 + v.2) / 100 = v.1 := by omega
    have hd2 : (100 * v.1 + v.2) % 100 = v.2 := by omega
    unfold sX10_tree_8
    rw [c4, if_neg (nI_ge hj (by omega)), pb_gd (pb_ok rfl (by omega) (by decide)), pb_cl rfl (by omega), c5j, di_n (by omega), re_n (by omega), hd1, hd2, pb_bd (md_cost h (fun j => by rw [c1 _ _ (by omega) (by omega) (by omega), hσ]) (by omega) g2), nI_add, nI_1]
    rfl
  · show sX10_tree_8 ν _ (nI (fb_ct (t_mk T) P - 1)) = _
    unfold sX10_tree_8
    rw [c4, if_pos (nI_le (Nat.le_refl _) (by omega))]
end
theorem tree_G {k C P : Nat} {μ ν ξ : dw_M} (g : pl_G k μ) {m : Nat} (hc : t_c μ C P m ν) (hm : t_m μ ν C P m ξ) : pl_G (k + 1) ξ := by
  have tot : ∀ c j, (c < 139 ∨ 142 < c) → c ≠ 146 → c ≠ 147 → ξ.1 c j = μ.1 c j := fun c j h1 h2 h3 => by rw [hm.1 c j h2 h3 (by omega), hc.1 c j (by omega)]
  refine pl_same g (fun c h1 => by funext j; exact tot c j (by omega) (by omega) (by omega)) (fun c _ => by rw [hm.2.1, hc.2.1]) (by funext j; exact tot _ j (by omega) (by omega) (by omega)) (by funext j; exact tot _ j (by omega) (by omega) (by omega)) ?_
  rw [hm.1 _ _ (by omega) (by omega) (by omega), hc.1 _ _ (by omega)]
theorem ok_tree : pl_tree pl_G := by
  intro k μ hk g
  obtain ⟨R, C, P, N, hh, d, gn, so, di, hn, pi, it, ac, ⟨hk5, wa⟩, bl, ra, mk, si⟩ := id g.1
  have hst : stt R C P N μ := ⟨d, gn, so, di, pi, it, ac, ra⟩
  obtain ⟨ν, f1, f2⟩ := cl_grow hst mk
  have e144 : ∀ j, ν.1 143 j = μ.1 143 j := fun j => f2.1 143 j (by omega)
  obtain ⟨ξ, q1, q2⟩ := md_tfind hst mk (σ := ν) e144
  refine ⟨nI (tr_c (t_mk μ) (t_co μ C) P (fb_ct (t_mk μ) P - 1)), ν, ξ, ?_, ?_, tree_G g f2 q2⟩
  · unfold fX9_tree
    rw [pb_bd f1, f2.2.2.2.2.1]
  · unfold fX10_tree
    rw [pb_bd q1, pb_bd (md_tsum hst e144 q2)]
theorem ok_pair : pl_pair pl_G := by
  intro k μ hk g a1
  obtain ⟨R, C, P, N, hh, d, gn, so, di, hn, pi, it, ac, ⟨hk5, wa⟩, bl, ra, mk, si⟩ := id g.1
  have hst : stt R C P N μ := ⟨d, gn, so, di, pi, it, ac, ra⟩
  obtain ⟨⟨d1, d2, d3, d4, dP, d5, d36, d20⟩, -⟩ := id d
  obtain ⟨ν, f1, f2⟩ := cl_grow hst mk
  have e144 : ∀ j, ν.1 143 j = μ.1 143 j := fun j => f2.1 143 j (by omega)
  obtain ⟨ξ, q1, q2⟩ := md_tfind hst mk (σ := ν) e144
  have hct := fb_ct_le (t_mk μ) P
  have hG := tree_G g f2 q2
  obtain ⟨-, -, -, f4, -, f6⟩ := f2
  obtain ⟨-, -, -, q4, q6⟩ := q2
  rcases pv_tri a1 (n := fb_ct (t_mk μ) P - 1) (by omega) with h0 | ⟨j, hj, ej⟩
  · refine ⟨-6, ν, ξ, ?_, ?_, hG⟩
    · unfold fX9_pair
      rw [pb_bd f1, pv_w, f4, pv_nin0 (by omega) h0, if_pos rfl]
    · unfold fX10_pair
      rw [pb_bd q1, q4, pv_nin0 (by omega) h0, if_pos rfl]
  · subst ej
    refine ⟨nI (100 * (tr_v (t_mk μ) (t_co μ C) P j).1 + (tr_v (t_mk μ) (t_co μ C) P j).2), ν, ξ, ?_, ?_, hG⟩
    · unfold fX9_pair
      rw [pb_bd f1, pv_w, f4, pv_nin1 (by omega) hj, if_neg (by decide), pb_gd (pb_ok rfl (by omega) (by decide)), pb_cl rfl (by omega), f6 j hj]
    · unfold fX10_pair
      rw [pb_bd q1, q4, pv_nin1 (by omega) hj, if_neg (by decide), pb_gd (pb_ok rfl (by omega) (by decide)), pb_cl rfl (by omega), q6 j hj]
