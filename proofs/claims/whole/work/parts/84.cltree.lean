/-! the class's tree -/
def t_h (T : dw_M) (p : Nat) : Nat := nt (T.1 143 (20 + p))
def t_co (T : dw_M) (C a b : Nat) : Nat := 10 * (nd (a / C) (b / C) + nd (a % C) (b % C)) + nd (t_h T a) (t_h T b)
def t_mk (T : dw_M) (p : Nat) : Bool := pg_b (T.2 62) p
section
variable {R C P N : Nat} {T μ : dw_M} {f : Nat → Nat}
theorem t_hh (h : stt R C P N T) {p : Nat} (hp : p < P) : T.1 143 (20 + p) = nI (t_h T p) ∧ t_h T p ≤ 2000 ∧ T.1 3 p = nI (t_h T p) := by
  obtain ⟨g1, g2, -, ⟨x, hx, ex⟩⟩ := h.2.1 p hp
  have e : t_h T p = x := by unfold t_h; rw [ex, nt_n (by omega)]
  rw [e]
  exact ⟨ex, hx, by rw [← ex]; exact g1⟩
theorem t_co_lt (h : stt R C P N T) {a b : Nat} (ha : a < P) (hb : b < P) : t_co T C a b < 100000 := by
  obtain ⟨hN, hP, hC1, hC6⟩ := st_20 h
  have h1 := (t_hh h ha).2.1
  have h2 := (t_hh h hb).2.1
  have h3 := Nat.div_le_self a C
  have h4 := Nat.div_le_self b C
  have h5 := Nat.mod_le a C
  have h6 := Nat.mod_le b C
  unfold t_co nd
  generalize a / C = u1 at *
  generalize b / C = u2 at *
  generalize a % C = u3 at *
  generalize b % C = u4 at *
  generalize t_h T a = u5 at *
  generalize t_h T b = u6 at *
  omega
theorem cl_cost (h : stt R C P N T) {ρ : dw_M} (hρ : ∀ c k, c < 53 → ρ.1 c k = T.1 c k) {a b : Nat} (ha : a < P) (hb : b < P) : fX1_costBetween ρ (nI a) (nI b) = some (nI (t_co T C a b)) := by
  obtain ⟨hN, hP, hC1, hC6⟩ := st_20 h
  have cC : ρ.1 2 0 = nI C := by
    obtain ⟨⟨-, -, -, -, e4, -⟩, -⟩ := h
    rw [hρ _ _ (by omega)]
    exact e4
  have h1 := t_hh h ha
  have h2 := t_hh h hb
  unfold fX1_costBetween
  rw [pb_bd (pv_ra9 cC hC1 hC6 (by omega) (by omega)), pb_bd (pv_ca9 cC hC1 hC6 (by omega) (by omega)), pb_gd (pb_ok rfl (by omega) (by decide)), pb_gd (pb_ok rfl (by omega) (by decide)), pb_cl (x := nI a) rfl (by omega), pb_cl (x := nI b) rfl (by omega), hρ _ _ (by omega), hρ _ _ (by omega), h1.2.2, h2.2.2, nd_ab (by omega) (by omega), nI_add, show (10 : Int32) = nI 10 from rfl, pk_mul, nI_add]
  rfl
/-- the best so far, in the class -/
def t_b (T : dw_M) (C : Nat) (f : Nat → Nat) (σ : dw_M) (s : Option (Nat × Nat)) (ρ : dw_M) : Prop := (∀ c k, (c ≠ 139 ∨ k < 4 ∨ 7 < k) → ρ.1 c k = σ.1 c k) ∧ ρ.2 = σ.2 ∧ (s = none → ρ.1 139 4 = 2147483647) ∧ ∀ v, s = some v → ρ.1 139 4 = nI (t_co T C v.1 v.2) ∧ ρ.1 139 5 = nI (100 * v.1 + v.2) ∧ ρ.1 139 6 = nI (f v.1) ∧ ρ.1 139 7 = nI (f v.2)
theorem cl_find (h : stt R C P N T) {σ : dw_M} (hσ : ∀ c k, (c < 139 ∨ 142 ≤ c) → σ.1 c k = T.1 c k) (hσ2 : σ.2 = T.2) (hf : ∀ p, p < 36 → f p < 36 ∧ σ.1 140 p = nI (f p)) : ∃ r ν, fX7_findLeast σ = some (r, ν) ∧ t_b T C f σ (t_out (t_mk T) (t_co T C) P f P) ν ∧ (t_out (t_mk T) (t_co T C) P f P = none → r = 0) ∧ ∀ v, t_out (t_mk T) (t_co T C) P f P = some v → r = 1 := by
  obtain ⟨hN, hP, hC1, hC6⟩ := st_20 h
  obtain ⟨e0, e1, e2, e3, e4, e5⟩ := st_dim h
  have inner : ∀ a s ρ, a < P → (∀ v, s = some v → t_gd (t_mk T) P f v) → t_b T C f σ s ρ → ∃ ν, dw_wh (fun v => sX7_findLeast_21 (nI a) v.1 v.2) 1000 (nI (a + 1), ρ) = some ν ∧ t_b T C f σ (t_in (t_mk T) (t_co T C) f a s (P - (a + 1))) ν := by
    intro a s ρ ha hs hb
    refine pb_inv (step := fun v : Int32 × dw_M => sX7_findLeast_21 (nI a) v.1 v.2) (fun d x => x.1 = nI (a + 1 + d) ∧ t_b T C f σ (t_in (t_mk T) (t_co T C) f a s d) x.2) (P - (a + 1)) _ (fun d x hd hx => ?_) (fun x hx => ?_) (fuel := 1000) (by omega) (x := (nI (a + 1), ρ)) ⟨rfl, hb⟩
    · obtain ⟨x, ν⟩ := x
      obtain ⟨f1, f2⟩ := hx
      have f1 : x = nI (a + 1 + d) := f1
      have f2 : t_b T C f σ (t_in (t_mk T) (t_co T C) f a s d) ν := f2
      subst f1
      left
      have hgd := t_in_g (mk := t_mk T) (co := t_co T C) (P := P) (f := f) (a := a) hs d (by omega)
      obtain ⟨b, hb⟩ : ∃ b, b = a + 1 + d := ⟨_, rfl⟩
      have hst : t_in (t_mk T) (t_co T C) f a s (d + 1) = t_st (t_mk T) (t_co T C) f a b (t_in (t_mk T) (t_co T C) f a s d) := by rw [hb]; rfl
      rw [← hb]
      generalize t_in (t_mk T) (t_co T C) f a s d = S at f2 hst hgd
      have hbP : b < P := by omega
      have k1 : ∀ p, p < 36 → fX2_has ν 62 (nI p) = b2i (t_mk T p) := fun p hp => by rw [pg_has ν 62 (x := nI p) rfl (by omega), f2.2.1, hσ2]; rfl
      have k2 : ∀ p, p < 36 → ν.1 140 p = nI (f p) := fun p hp => by rw [f2.1 _ _ (by omega)]; exact (hf p hp).2
      have k3 : ν.1 2 1 = nI P := by rw [f2.1 _ _ (by omega), hσ _ _ (by omega), e4]
      have hcost := cl_cost h (ρ := ν) (fun c k hc => by rw [f2.1 _ _ (by omega), hσ _ _ (by omega)]) ha hbP
      have go : sX7_findLeast_21 (nI a) (nI b) ν = if t_jn (t_mk T) f a b = true then dw_bd (fX7_offer ν (nI a) (nI b) (nI (t_co T C a b))) (fun m => some (.inl (nI (b + 1), m))) else some (.inl (nI (b + 1), ν)) := by
        unfold sX7_findLeast_21 t_jn
        rw [k3, if_neg (nI_ge hbP (by omega)), k1 a (by omega), k1 b (by omega), nI_1]
        cases h1 : t_mk T a with
        | false => rw [if_pos (by decide)]; rfl
        | true =>
          rw [if_neg (by decide)]
          cases h2 : t_mk T b with
          | false => rw [if_pos (by decide)]; rfl
          | true =>
            rw [if_neg (by decide), pb_gd (pb_ok rfl (by omega) (by decide)), pb_gd (pb_ok rfl (by omega) (by decide)), pb_cl (x := nI a) rfl (by omega), pb_cl (x := nI b) rfl (by omega), k2 a (by omega), k2 b (by omega)]
            have fa := (hf a (by omega)).1
            have fb := (hf b (by omega)).1
            by_cases c : f a = f b
            · rw [if_pos (by rw [c]), decide_eq_true c]; rfl
            · rw [if_neg (fun z => c ((nI_eq (by omega) (by omega)).mp z)), decide_eq_false c, pb_bd hcost]; rfl
      have hcl := t_co_lt h ha hbP
      have eb : a + 1 + (d + 1) = b + 1 := by omega
      cases hj : t_jn (t_mk T) f a b with
      | false =>
        rw [hj, if_neg (by decide)] at go
        refine ⟨_, go, by rw [eb], ?_⟩
        rw [hst]
        unfold t_st
        rw [hj, if_neg (by decide)]
        exact f2
      | true =>
        rw [hj, if_pos rfl] at go
        have hput : t_b T C f σ (some (a, b)) (dw_st (dw_st (dw_st (dw_st ν 139 4 (nI (t_co T C a b))) 139 5 (nI (100 * a + b))) 139 6 (nI (f a))) 139 7 (nI (f b))) := by
          refine ⟨fun c k hc => ?_, f2.2.1, fun z => (by cases z), fun v hv => ?_⟩
          · rw [pb_o (by omega), pb_o (by omega), pb_o (by omega), pb_o (by omega)]
            exact f2.1 c k hc
          · cases hv
            refine ⟨?_, ?_, ?_, pb_i⟩
            · rw [pb_o (by omega), pb_o (by omega), pb_o (by omega), pb_i]
            · rw [pb_o (by omega), pb_o (by omega), pb_i]
            · rw [pb_o (by omega), pb_i]
        have hoff : ¬ ν.1 139 4 ≤ nI (t_co T C a b) → fX7_offer ν (nI a) (nI b) (nI (t_co T C a b)) = some (dw_st (dw_st (dw_st (dw_st ν 139 4 (nI (t_co T C a b))) 139 5 (nI (100 * a + b))) 139 6 (nI (f a))) 139 7 (nI (f b))) := by
          intro z
          unfold fX7_offer
          rw [if_neg z]
          simp only [dw_nm]
          rw [pb_gd (pb_ok rfl (by omega) (by decide)), pb_gd (pb_ok rfl (by omega) (by decide)), pb_cl (x := nI a) rfl (by omega), pb_cl (x := nI b) rfl (by omega), pb_o (c := 140) (j := a) (by omega), pb_o (c := 140) (j := a) (by omega), k2 a (by omega), pb_o (c := 140) (j := b) (by omega), pb_o (c := 140) (j := b) (by omega), pb_o (c := 140) (j := b) (by omega), k2 b (by omega), show (100 : Int32) = nI 100 from rfl, pk_mul, nI_add]
        have hoff2 : ν.1 139 4 ≤ nI (t_co T C a b) → fX7_offer ν (nI a) (nI b) (nI (t_co T C a b)) = some ν := fun z => by
          unfold fX7_offer
          rw [if_pos z]
        have ho : ∃ ν', fX7_offer ν (nI a) (nI b) (nI (t_co T C a b)) = some ν' ∧ t_b T C f σ (t_st (t_mk T) (t_co T C) f a b S) ν' := by
          unfold t_st
          rw [hj, if_pos rfl]
          cases S with
          | none =>
            have z := f2.2.2.1 rfl
            refine ⟨_, hoff ?_, hput⟩
            rw [z, fa_le, nI_toInt (by omega)]
            have : (2147483647 : Int32).toInt = 2147483647 := rfl
            omega
          | some v =>
            obtain ⟨z1, z2, z3⟩ := f2.2.2.2 v rfl
            obtain ⟨q1, q2, -⟩ := hgd v rfl
            have hcl2 := t_co_lt h (show v.1 < P by omega) q2
            show ∃ ν', fX7_offer ν (nI a) (nI b) (nI (t_co T C a b)) = some ν' ∧ t_b T C f σ (if t_co T C a b < t_co T C v.1 v.2 then some (a, b) else some v) ν'
            by_cases c : t_co T C a b < t_co T C v.1 v.2
            · rw [if_pos c]
              exact ⟨_, hoff (by rw [z1]; exact nI_ge c (by omega)), hput⟩
            · rw [if_neg c]
              exact ⟨_, hoff2 (by rw [z1]; exact nI_le (by omega) (by omega)), f2⟩
        obtain ⟨ν', o1, o2⟩ := ho
        rw [pb_bd o1] at go
        refine ⟨_, go, by rw [eb], ?_⟩
        show t_b T C f σ _ ν'
        rw [hst]
        exact o2
    · obtain ⟨x, ν⟩ := x
      obtain ⟨f1, f2⟩ := hx
      have f1 : x = nI (a + 1 + (P - (a + 1))) := f1
      have f2 : t_b T C f σ (t_in (t_mk T) (t_co T C) f a s (P - (a + 1))) ν := f2
      subst f1
      refine ⟨ν, ?_, f2⟩
      show sX7_findLeast_21 (nI a) (nI (a + 1 + (P - (a + 1)))) ν = _
      unfold sX7_findLeast_21
      rw [f2.1 2 1 (by omega), hσ _ _ (by omega), e4, if_pos (nI_le (by omega) (by omega))]
  obtain ⟨ν, k1, k2⟩ := pb_inv (step := fun v : Int32 × dw_M => sX7_findLeast_8 v.1 v.2) (fun a x => x.1 = nI a ∧ t_b T C f σ (t_out (t_mk T) (t_co T C) P f a) x.2) P (fun ν => t_b T C f σ (t_out (t_mk T) (t_co T C) P f P) ν) (fun a x ha hx => by
    obtain ⟨x, ν⟩ := x
    obtain ⟨f1, f2⟩ := hx
    have f1 : x = nI a := f1
    have f2 : t_b T C f σ (t_out (t_mk T) (t_co T C) P f a) ν := f2
    subst f1
    left
    obtain ⟨ν2, q1, q2⟩ := inner a _ ν ha (t_out_g (mk := t_mk T) (co := t_co T C) (f := f) a (by omega)) f2
    refine ⟨(nI (a + 1), ν2), ?_, rfl, q2⟩
    show sX7_findLeast_8 (nI a) ν = _
    unfold sX7_findLeast_8
    rw [f2.1 2 1 (by omega), hσ _ _ (by omega), e4, if_neg (nI_ge ha (by omega)), nI_1]
    simp only [dw_nm]
    rw [pb_bd q1]) (fun x hx => by
    obtain ⟨x, ν⟩ := x
    obtain ⟨f1, f2⟩ := hx
    have f1 : x = nI P := f1
    have f2 : t_b T C f σ (t_out (t_mk T) (t_co T C) P f P) ν := f2
    subst f1
    refine ⟨ν, ?_, f2⟩
    show sX7_findLeast_8 (nI P) ν = _
    unfold sX7_findLeast_8
    rw [f2.1 2 1 (by omega), hσ _ _ (by omega), e4, if_pos (nI_le (Nat.le_refl _) (by omega))]) (fuel := 1000) (by omega) (x := ((0 : Int32), dw_st σ 139 4 2147483647)) ⟨rfl, fun c k hc => pb_o (by omega), rfl, fun _ => pb_i, fun v hv => (by cases hv)⟩
  have go : fX7_findLeast σ = if (2147483647 : Int32) ≤ ν.1 139 4 then some ((0 : Int32), ν) else some ((1 : Int32), ν) := by
    unfold fX7_findLeast
    simp only [dw_nm]
    rw [pb_bd k1]
  cases hS : t_out (t_mk T) (t_co T C) P f P with
  | none =>
    refine ⟨0, ν, ?_, by rw [← hS]; exact k2, fun _ => rfl, fun v hv => by cases hv⟩
    rw [go, k2.2.2.1 hS, if_pos (by decide)]
  | some v =>
    obtain ⟨g1, g2, -⟩ := t_out_g (mk := t_mk T) (co := t_co T C) (f := f) P (Nat.le_refl _) v hS
    have hcl := t_co_lt h (show v.1 < P by omega) g2
    refine ⟨1, ν, ?_, by rw [← hS]; exact k2, (fun z => by cases z), fun _ _ => rfl⟩
    rw [go, (k2.2.2.2 v hS).1, if_neg (by
      rw [fa_le, nI_toInt (by omega)]
      have : (2147483647 : Int32).toInt = 2147483647 := rfl
      omega)]
/-- the class's state behind j pairs -/
def t_c (T : dw_M) (C P j : Nat) (ρ : dw_M) : Prop := (∀ c k, (c < 139 ∨ 142 ≤ c) → ρ.1 c k = T.1 c k) ∧ ρ.2 = T.2 ∧ (∀ p, p < 36 → ρ.1 140 p = nI (tr (t_mk T) (t_co T C) P j p)) ∧ ρ.1 139 2 = nI j ∧ ρ.1 139 3 = nI (tr_c (t_mk T) (t_co T C) P j) ∧ ∀ t, t < j → ρ.1 141 t = nI (100 * (tr_v (t_mk T) (t_co T C) P t).1 + (tr_v (t_mk T) (t_co T C) P t).2)
theorem cl_step (h : stt R C P N T) {j : Nat} (hj : j < fb_ct (t_mk T) P - 1) {ρ : dw_M} (hc : t_c T C P j ρ) : ∃ ξ, sX7_grow_31 ρ = some (.inl ξ) ∧ t_c T C P (j + 1) ξ := by
  obtain ⟨hN, hP, hC1, hC6⟩ := st_20 h
  obtain ⟨c1, c2, c3, c4, c5, c6⟩ := hc
  have hct := fb_ct_le (t_mk T) P
  have hlt := tr_lt (mk := t_mk T) (co := t_co T C) hP j (by omega)
  obtain ⟨r, ν, q1, ⟨q2, q3, q4, q5⟩, -, q6⟩ := cl_find h c1 c2 (f := tr (t_mk T) (t_co T C) P j) (fun p hp => ⟨hlt p hp, c3 p hp⟩)
  obtain ⟨e, g1, g2, g3⟩ := tr_some (mk := t_mk T) (co := t_co T C) hj
  have hr := q6 _ e
  subst hr
  have hmg : tr (t_mk T) (t_co T C) P (j + 1) = t_mg (tr (t_mk T) (t_co T C) P j) (some (tr_v (t_mk T) (t_co T C) P j)) := by
    show t_mg (tr (t_mk T) (t_co T C) P j) (t_out (t_mk T) (t_co T C) P (tr (t_mk T) (t_co T C) P j) P) = _
    rw [e]
  have hcc : tr_c (t_mk T) (t_co T C) P (j + 1) = tr_c (t_mk T) (t_co T C) P j + t_co T C (tr_v (t_mk T) (t_co T C) P j).1 (tr_v (t_mk T) (t_co T C) P j).2 := rfl
  obtain ⟨z1, z2, z3, z4⟩ := q5 _ e
  obtain ⟨x, hx⟩ : ∃ x, x = (tr_v (t_mk T) (t_co T C) P j).1 := ⟨_, rfl⟩
  obtain ⟨y, hy⟩ : ∃ y, y = (tr_v (t_mk T) (t_co T C) P j).2 := ⟨_, rfl⟩
  have hmg2 : ∀ p, tr (t_mk T) (t_co T C) P (j + 1) p = if tr (t_mk T) (t_co T C) P j p = tr (t_mk T) (t_co T C) P j y then tr (t_mk T) (t_co T C) P j x else tr (t_mk T) (t_co T C) P j p := fun p => by rw [hmg, hx, hy]; rfl
  have hn : nI (100 * x + y) = nI (100 * (tr_v (t_mk T) (t_co T C) P j).1 + (tr_v (t_mk T) (t_co T C) P j).2) := by rw [hx, hy]
  rw [← hx, ← hy] at hcc z1 z2
  rw [← hx] at z3 g1
  rw [← hy] at z4 g1 g2
  clear q4 q5 q6 e g3 hmg
  generalize tr (t_mk T) (t_co T C) P j = F at c3 hlt hmg2 z3 z4
  obtain ⟨m4, hm4⟩ : ∃ m4, m4 = dw_st (dw_st (dw_st ν 141 j (nI (100 * x + y))) 139 2 (nI (j + 1))) 139 3 (nI (tr_c (t_mk T) (t_co T C) P (j + 1))) := ⟨_, rfl⟩
  have m41 : ∀ c k, (c ≠ 141 ∨ k ≠ j) → (c ≠ 139 ∨ (k ≠ 2 ∧ k ≠ 3)) → m4.1 c k = ν.1 c k := fun c k h1 h2 => by rw [hm4, pb_o (by omega), pb_o (by omega), pb_o (by omega)]
  have m42 : m4.1 141 j = nI (100 * x + y) := by rw [hm4, pb_o (by omega), pb_o (by omega), pb_i]
  have m43 : m4.1 139 2 = nI (j + 1) := by rw [hm4, pb_o (by omega), pb_i]
  have m44 : m4.1 139 3 = nI (tr_c (t_mk T) (t_co T C) P (j + 1)) := by rw [hm4, pb_i]
  have m45 : m4.2 = ρ.2 := by rw [hm4]; exact q3
  have m46 : ∀ p, p < 36 → m4.1 140 p = nI (F p) := fun p hp => by rw [m41 _ _ (by omega) (by omega), q2 _ _ (by omega), c3 p hp]
  have m47 : m4.1 139 6 = nI (F x) := by rw [m41 _ _ (by omega) (by omega), z3]
  have m48 : m4.1 139 7 = nI (F y) := by rw [m41 _ _ (by omega) (by omega), z4]
  obtain ⟨ξ, k1, k2, k3, k4⟩ := pb_inv (step := fun v : Int32 × dw_M => sX7_joinPieces_2 v.1 v.2) (fun p z => z.1 = nI p ∧ (∀ k, k < 36 → z.2.1 140 k = nI (if k < p then (if F k = F y then F x else F k) else F k)) ∧ (∀ c k, (c ≠ 140) → z.2.1 c k = m4.1 c k) ∧ z.2.2 = m4.2) 36 (fun ξ => (∀ k, k < 36 → ξ.1 140 k = nI (if F k = F y then F x else F k)) ∧ (∀ c k, (c ≠ 140) → ξ.1 c k = m4.1 c k) ∧ ξ.2 = m4.2) (fun p z hp hz => by
    obtain ⟨z, τ⟩ := z
    obtain ⟨f1, f2, f3, f4⟩ := hz
    have f1 : z = nI p := f1
    have f2 : ∀ k, k < 36 → τ.1 140 k = nI (if k < p then (if F k = F y then F x else F k) else F k) := f2
    have f3 : ∀ c k, (c ≠ 140) → τ.1 c k = m4.1 c k := f3
    have f4 : τ.2 = m4.2 := f4
    subst f1
    left
    have tp : τ.1 140 p = nI (F p) := by rw [f2 p hp, if_neg (by omega)]
    have l1 := hlt p hp
    have l2 := hlt y (by omega)
    have go : sX7_joinPieces_2 (nI p) τ = if F p = F y then some (.inl (nI (p + 1), dw_st τ 140 p (nI (F x)))) else some (.inl (nI (p + 1), τ)) := by
      unfold sX7_joinPieces_2
      rw [if_neg (n_36 hp), pb_gd (pb_ok rfl hp (by decide)), pb_cl rfl (by omega), tp, f3 139 7 (by omega), m48, f3 139 6 (by omega), m47, nI_1]
      by_cases c : F p = F y
      · rw [if_pos (by rw [c]), if_pos c]; rfl
      · rw [if_neg (fun z => c ((nI_eq (by omega) (by omega)).mp z)), if_neg c]; rfl
    by_cases c : F p = F y
    · rw [if_pos c] at go
      refine ⟨_, go, rfl, fun k hk => ?_, fun c k hc => ?_, f4⟩
      · show (dw_st τ 140 p _).1 140 k = _
        by_cases e : k = p
        · rw [e, pb_i, if_pos (by omega), if_pos c]
        · rw [pb_o (by omega), f2 k hk]
          by_cases c2 : k < p
          · rw [if_pos c2, if_pos (show k < p + 1 by omega)]
          · rw [if_neg c2, if_neg (show ¬ k < p + 1 by omega)]
      · show (dw_st τ 140 p _).1 c k = _
        rw [pb_o (by omega)]
        exact f3 c k hc
    · rw [if_neg c] at go
      refine ⟨_, go, rfl, fun k hk => ?_, f3, f4⟩
      show τ.1 140 k = _
      by_cases e : k = p
      · rw [e, tp, if_pos (by omega), if_neg c]
      · rw [f2 k hk]
        by_cases c2 : k < p
        · rw [if_pos c2, if_pos (show k < p + 1 by omega)]
        · rw [if_neg c2, if_neg (show ¬ k < p + 1 by omega)]) (fun z hz => by
    obtain ⟨z, τ⟩ := z
    obtain ⟨f1, f2, f3, f4⟩ := hz
    have f1 : z = nI 36 := f1
    have f2 : ∀ k, k < 36 → τ.1 140 k = nI (if k < 36 then (if F k = F y then F x else F k) else F k) := f2
    subst f1
    exact ⟨τ, rfl, fun k hk => by rw [f2 k hk, if_pos hk], f3, f4⟩) (fuel := 1000) (by omega) (x := ((0 : Int32), m4)) ⟨rfl, fun k hk => by rw [if_neg (by omega)]; exact m46 k hk, fun _ _ _ => rfl, rfl⟩
  have hjn : fX7_joinPieces m4 = some ξ := by
    unfold fX7_joinPieces
    rw [pb_bd k1]
  refine ⟨ξ, ?_, fun c k hc => ?_, by rw [k4, m45, c2], fun p hp => ?_, ?_, ?_, fun t ht => ?_⟩
  · unfold sX7_grow_31
    rw [c4, if_neg (n_36 (by omega)), pb_b2 q1, if_neg (show ¬ (1 : Int32) = 0 by decide), q2 139 2 (by omega), c4, pb_gd (pb_ok rfl (by omega) (by decide)), pb_cl rfl (by omega), z2]
    simp only [dw_nm]
    rw [pb_o (c := 139) (j := 2) (by omega), q2 139 2 (by omega), c4, nI_1, pb_o (c := 139) (j := 3) (by omega), pb_o (c := 139) (j := 3) (by omega), q2 139 3 (by omega), c5, pb_o (c := 139) (j := 4) (by omega), pb_o (c := 139) (j := 4) (by omega), z1, nI_add, ← hcc, ← hm4, pb_bd hjn]
  · rw [k3 _ _ (by omega), m41 _ _ (by omega) (by omega), q2 _ _ (by omega), c1 _ _ hc]
  · rw [k2 p hp, hmg2 p]
  · rw [k3 _ _ (by omega), m43]
  · rw [k3 _ _ (by omega), m44]
  · rw [k3 _ _ (by omega)]
    by_cases e : t = j
    · rw [e, m42, hn]
    · rw [m41 _ _ (by omega) (by omega), q2 _ _ (by omega), c6 t (by omega)]
theorem cl_last (h : stt R C P N T) {ρ : dw_M} (hc : t_c T C P (fb_ct (t_mk T) P - 1) ρ) : ∃ ξ, sX7_grow_31 ρ = some (.inr ξ) ∧ t_c T C P (fb_ct (t_mk T) P - 1) ξ := by
  obtain ⟨hN, hP, hC1, hC6⟩ := st_20 h
  obtain ⟨c1, c2, c3, c4, c5, c6⟩ := hc
  have hct := fb_ct_le (t_mk T) P
  have hlt := tr_lt (mk := t_mk T) (co := t_co T C) hP (fb_ct (t_mk T) P - 1) (Nat.le_refl _)
  obtain ⟨r, ν, q1, ⟨q2, q3, q4, q5⟩, q6, -⟩ := cl_find h c1 c2 (f := tr (t_mk T) (t_co T C) P (fb_ct (t_mk T) P - 1)) (fun p hp => ⟨hlt p hp, c3 p hp⟩)
  have hr := q6 tr_none
  subst hr
  by_cases h36 : 36 ≤ fb_ct (t_mk T) P - 1
  · omega
  refine ⟨ν, ?_, fun c k hc => ?_, by rw [q3, c2], fun p hp => ?_, ?_, ?_, fun t ht => ?_⟩
  · unfold sX7_grow_31
    rw [c4, if_neg (n_36 (by omega)), pb_b2 q1, if_pos rfl]
  · rw [q2 _ _ (by omega), c1 _ _ hc]
  · rw [q2 _ _ (by omega), c3 p hp]
  · rw [q2 _ _ (by omega), c4]
  · rw [q2 _ _ (by omega), c5]
  · rw [q2 _ _ (by omega), c6 t ht]
theorem cl_grow (h : stt R C P N T) (hm : rl_set P (T.2 62) 220 143 T) : ∃ ν, fX7_grow T = some ν ∧ t_c T C P (fb_ct (t_mk T) P - 1) ν := by
  obtain ⟨hN, hP, hC1, hC6⟩ := st_20 h
  have hct := fb_ct_le (t_mk T) P
  obtain ⟨ρ, k1, k2, k3, k4⟩ := pb_inv (step := fun v : Int32 × dw_M => sX7_grow_2 v.1 v.2) (fun p z => z.1 = nI p ∧ (∀ k, k < p → z.2.1 140 k = nI k) ∧ (∀ c k, c ≠ 140 → z.2.1 c k = T.1 c k) ∧ z.2.2 = T.2) 36 (fun ξ => (∀ k, k < 36 → ξ.1 140 k = nI k) ∧ (∀ c k, c ≠ 140 → ξ.1 c k = T.1 c k) ∧ ξ.2 = T.2) (fun p z hp hz => by
    obtain ⟨z, τ⟩ := z
    obtain ⟨f1, f2, f3, f4⟩ := hz
    have f1 : z = nI p := f1
    have f2 : ∀ k, k < p → τ.1 140 k = nI k := f2
    have f3 : ∀ c k, c ≠ 140 → τ.1 c k = T.1 c k := f3
    have f4 : τ.2 = T.2 := f4
    subst f1
    left
    refine ⟨(nI (p + 1), dw_st τ 140 p (nI p)), ?_, rfl, fun k hk => ?_, fun c k hc => ?_, f4⟩
    · show sX7_grow_2 (nI p) τ = _
      unfold sX7_grow_2
      rw [if_neg (n_36 hp), pb_gd (pb_ok rfl hp (by decide)), pb_cl rfl (by omega), nI_1]
      rfl
    · show (dw_st τ 140 p _).1 140 k = _
      by_cases e : k = p
      · rw [e, pb_i]
      · rw [pb_o (by omega)]
        exact f2 k (by omega)
    · show (dw_st τ 140 p _).1 c k = _
      rw [pb_o (by omega)]
      exact f3 c k hc) (fun z hz => by
    obtain ⟨z, τ⟩ := z
    obtain ⟨f1, f2, f3, f4⟩ := hz
    have f1 : z = nI 36 := f1
    subst f1
    exact ⟨τ, rfl, f2, f3, f4⟩) (fuel := 1000) (by omega) (x := ((0 : Int32), T)) ⟨rfl, fun k hk => absurd hk (by omega), fun _ _ _ => rfl, rfl⟩
  have st0 : t_c T C P 0 (dw_st (dw_st ρ 139 2 0) 139 3 0) := by
    refine ⟨fun c k hc => ?_, k4, fun p hp => ?_, ?_, ?_, fun t ht => absurd ht (by omega)⟩
    · rw [pb_o (by omega), pb_o (by omega), k3 _ _ (by omega)]
    · rw [pb_o (by omega), pb_o (by omega), k2 p hp]
      rfl
    · rw [pb_o (by omega), pb_i]
      rfl
    · rw [pb_i]
      rfl
  have lp : ∃ ν, dw_wh (fun v => sX7_grow_31 v) 1000 (dw_st (dw_st ρ 139 2 0) 139 3 0) = some ν ∧ t_c T C P (fb_ct (t_mk T) P - 1) ν :=
    pb_inv (step := fun v : dw_M => sX7_grow_31 v) (fun j z => t_c T C P j z) (fb_ct (t_mk T) P - 1) _ (fun j z hj hz => Or.inl (cl_step h hj hz)) (fun z hz => cl_last h hz) (fuel := 1000) (by omega) st0
  obtain ⟨ν, g1, g2⟩ := lp
  refine ⟨ν, ?_, g2⟩
  unfold fX7_grow
  rw [pb_bd k1]
  simp only [dw_nm]
  rw [pb_bd g1]
end
