/-! where -/
def wl (F : Nat → Bool) (ans : Nat → Int32) : Nat → Nat → Int32 → Int32 ⊕ Int32
  | 0, _, x => .inl x
  | d + 1, j, x => if F j = true then (if x = 0 then .inr (ans j) else wl F ans d (j + 1) (x + (-1 : Int32))) else wl F ans d (j + 1) x
def wl2 (G : Nat → Int32 → Int32 ⊕ Int32) : Nat → Nat → Int32 → Int32 ⊕ Int32
  | 0, _, x => .inl x
  | d + 1, p, x => Sum.elim (fun y => wl2 G d (p + 1) y) (fun r => .inr r) (G p x)
theorem wl_run {step : Int32 × Int32 × dw_M → Option ((Int32 × Int32 × dw_M) ⊕ ((Int32 × dw_M) ⊕ (Int32 × dw_M)))} (J : dw_M → Prop) (F : Nat → Bool) (ans : Nat → Int32) {N j0 : Nat} (hs : ∀ j x ρ, j0 ≤ j → j < N → J ρ → ∃ ρ', J ρ' ∧ step (x, nI j, ρ) = if F j = true then (if x = 0 then some (.inr (.inr (ans j, ρ'))) else some (.inl (x + (-1 : Int32), nI (j + 1), ρ'))) else some (.inl (x, nI (j + 1), ρ'))) (he : ∀ x ρ, J ρ → step (x, nI N, ρ) = some (.inr (.inl (x, ρ)))) : ∀ d j x ρ f, j0 ≤ j → j + d = N → d < f → J ρ → ∃ ρ', J ρ' ∧ dw_wh step f (x, nI j, ρ) = some (Sum.map (fun y => (y, ρ')) (fun r => (r, ρ')) (wl F ans d j x)) := by
  intro d
  induction d with
  | zero =>
    intro j x ρ f h0 h1 h2 hJ
    obtain ⟨f, rfl⟩ : ∃ f', f = f' + 1 := ⟨f - 1, by omega⟩
    have e : j = N := by omega
    subst e
    refine ⟨ρ, hJ, ?_⟩
    unfold dw_wh
    rw [he x ρ hJ]
    rfl
  | succ d ih =>
    intro j x ρ f h0 h1 h2 hJ
    obtain ⟨f, rfl⟩ : ∃ f', f = f' + 1 := ⟨f - 1, by omega⟩
    obtain ⟨ρ', hJ', e⟩ := hs j x ρ h0 (by omega) hJ
    by_cases c1 : F j = true
    · rw [if_pos c1] at e
      by_cases c2 : x = 0
      · rw [if_pos c2] at e
        refine ⟨ρ', hJ', ?_⟩
        unfold dw_wh wl
        rw [e, if_pos c1, if_pos c2]
        rfl
      · rw [if_neg c2] at e
        obtain ⟨ρ2, hJ2, e2⟩ := ih (j + 1) (x + (-1 : Int32)) ρ' f (by omega) (by omega) (by omega) hJ'
        refine ⟨ρ2, hJ2, ?_⟩
        unfold dw_wh wl
        rw [e, if_pos c1, if_neg c2]
        exact e2
    · rw [if_neg c1] at e
      obtain ⟨ρ2, hJ2, e2⟩ := ih (j + 1) x ρ' f (by omega) (by omega) (by omega) hJ'
      refine ⟨ρ2, hJ2, ?_⟩
      unfold dw_wh wl
      rw [e, if_neg c1]
      exact e2
theorem wl2_run {step : Int32 × Int32 × dw_M → Option ((Int32 × Int32 × dw_M) ⊕ (dw_M ⊕ (Int32 × dw_M)))} (J : dw_M → Prop) (G : Nat → Int32 → Int32 ⊕ Int32) {N : Nat} (hs : ∀ p x ρ, p < N → J ρ → ∃ ρ', J ρ' ∧ step (x, nI p, ρ) = some (Sum.elim (fun y => Sum.inl (y, nI (p + 1), ρ')) (fun r => Sum.inr (Sum.inr (r, ρ'))) (G p x))) (he : ∀ x ρ, J ρ → step (x, nI N, ρ) = some (.inr (.inl ρ))) : ∀ d p x ρ f, p + d = N → d < f → J ρ → ∃ ρ', J ρ' ∧ dw_wh step f (x, nI p, ρ) = some (Sum.elim (fun _ => Sum.inl ρ') (fun r => Sum.inr (r, ρ')) (wl2 G d p x)) := by
  intro d
  induction d with
  | zero =>
    intro p x ρ f h1 h2 hJ
    obtain ⟨f, rfl⟩ : ∃ f', f = f' + 1 := ⟨f - 1, by omega⟩
    have e : p = N := by omega
    subst e
    refine ⟨ρ, hJ, ?_⟩
    unfold dw_wh
    rw [he x ρ hJ]
    rfl
  | succ d ih =>
    intro p x ρ f h1 h2 hJ
    obtain ⟨f, rfl⟩ : ∃ f', f = f' + 1 := ⟨f - 1, by omega⟩
    obtain ⟨ρ', hJ', e⟩ := hs p x ρ (by omega) hJ
    cases hG : G p x with
    | inl y =>
      rw [hG] at e
      obtain ⟨ρ2, hJ2, e2⟩ := ih (p + 1) y ρ' f (by omega) (by omega) hJ'
      refine ⟨ρ2, hJ2, ?_⟩
      unfold dw_wh wl2
      rw [e, hG]
      exact e2
    | inr r =>
      rw [hG] at e
      refine ⟨ρ', hJ', ?_⟩
      unfold dw_wh wl2
      rw [e, hG]
      rfl
def wF1 (T : dw_M) (C P N : Nat) (o : Nat → Nat) (n p : Nat) : Bool := !pg_b (T.2 60) p && fitB T C P N o n (nI p) (-1)
def wF2 (T : dw_M) (C P N : Nat) (o : Nat → Nat) (n p q : Nat) : Bool := !pg_b (T.2 60) p && (!pg_b (T.2 60) q && fitB T C P N o n (nI p) (nI q))
def wG (T : dw_M) (C P N : Nat) (o : Nat → Nat) (n p : Nat) (x : Int32) : Int32 ⊕ Int32 := wl (wF2 T C P N o n p) (fun q => (100 : Int32) * (nI p + 1) + nI q) (N - (p + 1)) (p + 1) x
/-- the answer, from what is left behind the first question on -/
def wA (T : dw_M) (C P N : Nat) (o : Nat → Nat) (n : Nat) (x : Int32) : Int32 := Sum.elim (fun y => Sum.elim (fun _ => (-6 : Int32)) (fun r => r) (wl2 (wG T C P N o n) N 0 y)) (fun r => r) (wl (wF1 T C P N o n) nI N 0 x)
def wR (T : dw_M) (C P N : Nat) (o : Nat → Nat) (n : Nat) (x : Int32) : Int32 := if fitB T C P N o n (-1) (-1) = true then (if x = 0 then 9999 else wA T C P N o n (x + (-1 : Int32))) else wA T C P N o n x
section
variable {R C P N : Nat} {T μ : dw_M} {rk : Nat → Nat} {o : Nat → Nat}
theorem cl_where (h : stt R C P N T) {hh : Nat} (hh1 : hh ≤ 29000) (wa : rl_wat P N hh (fun q => T.1 (1 + (12 + 2 * q)) 4) 53 143 T) (si : rl_set P (T.2 63) 260 143 T) {ν0 : dw_M} (hpl : fX0_plan T = some ν0) (hJ : J_c T C N o ν0) {n : Nat} (hn : n ≤ 20) (hr : fX10_in (nI n) 1 20 = 1) {a2 : Int32} (ha : 0 ≤ a2) : ∃ ν, J_c T C N o ν ∧ fX9_where T (nI n) a2 = some (wR T C P N o n a2, ν) := by
  obtain ⟨hN, hP, hC1, hC6⟩ := st_20 h
  obtain ⟨e0, e1, e2, e3, e4, e5⟩ := st_dim h
  have cN : ∀ ρ, J_c T C N o ρ → ρ.1 11 1 = nI N := fun ρ hρ => by rw [hρ.1 _ _ (by omega), e5]
  have alone : ∀ ρ, J_c T C N o ρ → ∀ p, p < N → ∃ ρ', J_c T C N o ρ' ∧ fX9_fits ρ (nI n) (nI p) (-1) = some (b2i (wF1 T C P N o n p), ρ') := by
    intro ρ hρ p hp
    obtain ⟨ρ', g1, g2⟩ := cl_fits h hh1 wa si hρ hn (a2 := nI p) (a3 := -1) (Or.inr ⟨p, by omega, rfl⟩) (Or.inl rfl) (fun e => e)
    refine ⟨ρ', g2, ?_⟩
    rw [g1, nbw_p _ (by omega), nbw_m, Bool.true_and]
    rfl
  have both : ∀ ρ, J_c T C N o ρ → ∀ p q, p < N → q < N → p < q → ∃ ρ', J_c T C N o ρ' ∧ fX9_fits ρ (nI n) (nI p) (nI q) = some (b2i (wF2 T C P N o n p q), ρ') := by
    intro ρ hρ p q hp hq hpq
    obtain ⟨ρ', g1, g2⟩ := cl_fits h hh1 wa si hρ hn (a2 := nI p) (a3 := nI q) (Or.inr ⟨p, by omega, rfl⟩) (Or.inr ⟨q, by omega, rfl⟩) (fun e => absurd ((nI_eq (by omega) (by omega)).mp e) (by omega))
    refine ⟨ρ', g2, ?_⟩
    rw [g1, nbw_p _ (by omega), nbw_p _ (by omega)]
    rfl
  have loop1 : ∀ x ρ, J_c T C N o ρ → ∃ ρ', J_c T C N o ρ' ∧ dw_wh (fun v => sX9_where_56 (nI n) v.1 v.2.1 v.2.2) 1000 (x, (0 : Int32), ρ) = some (Sum.map (fun y => (y, ρ')) (fun r => (r, ρ')) (wl (wF1 T C P N o n) nI N 0 x)) := fun x ρ hρ =>
    wl_run (step := fun v => sX9_where_56 (nI n) v.1 v.2.1 v.2.2) (J_c T C N o) (wF1 T C P N o n) nI (N := N) (j0 := 0) (fun j x ρ _ hj hρ => by
      obtain ⟨ρ', g1, g2⟩ := alone ρ hρ j hj
      refine ⟨ρ', g1, ?_⟩
      show sX9_where_56 (nI n) x (nI j) ρ = _
      unfold sX9_where_56
      rw [cN ρ hρ, if_neg (nI_ge hj (by omega)), pb_b2 g2, nI_1]
      cases wF1 T C P N o n j <;> rfl) (fun x ρ hρ => by
      show sX9_where_56 (nI n) x (nI N) ρ = _
      unfold sX9_where_56
      rw [cN ρ hρ, if_pos (nI_le (Nat.le_refl _) (by omega))]) N 0 x ρ 1000 (by omega) (by omega) (by omega) hρ
  have loop2 : ∀ p x ρ, p < N → J_c T C N o ρ → ∃ ρ', J_c T C N o ρ' ∧ dw_wh (fun v => sX9_pairWhere_26 (nI n) (nI p) v.1 v.2.1 v.2.2) 1000 (x, nI (p + 1), ρ) = some (Sum.map (fun y => (y, ρ')) (fun r => (r, ρ')) (wG T C P N o n p x)) := fun p x ρ hp hρ =>
    wl_run (step := fun v => sX9_pairWhere_26 (nI n) (nI p) v.1 v.2.1 v.2.2) (J_c T C N o) (wF2 T C P N o n p) (fun q => (100 : Int32) * (nI p + 1) + nI q) (N := N) (j0 := p + 1) (fun j x ρ hpj hj hρ => by
      obtain ⟨ρ', g1, g2⟩ := both ρ hρ p j hp hj (by omega)
      refine ⟨ρ', g1, ?_⟩
      show sX9_pairWhere_26 (nI n) (nI p) x (nI j) ρ = _
      unfold sX9_pairWhere_26
      rw [cN ρ hρ, if_neg (nI_ge hj (by omega)), pb_b2 g2, ← nI_1 j]
      cases wF2 T C P N o n p j <;> rfl) (fun x ρ hρ => by
      show sX9_pairWhere_26 (nI n) (nI p) x (nI N) ρ = _
      unfold sX9_pairWhere_26
      rw [cN ρ hρ, if_pos (nI_le (Nat.le_refl _) (by omega))]) (N - (p + 1)) (p + 1) x ρ 1000 (by omega) (by omega) (by omega) hρ
  have loop3 : ∀ x ρ, J_c T C N o ρ → ∃ ρ', J_c T C N o ρ' ∧ dw_wh (fun v => sX9_pairWhere_5 (nI n) v.1 v.2.1 v.2.2) 1000 (x, (0 : Int32), ρ) = some (Sum.elim (fun _ => Sum.inl ρ') (fun r => Sum.inr (r, ρ')) (wl2 (wG T C P N o n) N 0 x)) := fun x ρ hρ =>
    wl2_run (step := fun v => sX9_pairWhere_5 (nI n) v.1 v.2.1 v.2.2) (J_c T C N o) (wG T C P N o n) (N := N) (fun p x ρ hp hρ => by
      obtain ⟨ρ', g1, g2⟩ := loop2 p x ρ hp hρ
      refine ⟨ρ', g1, ?_⟩
      show sX9_pairWhere_5 (nI n) x (nI p) ρ = _
      unfold sX9_pairWhere_5
      rw [cN ρ hρ, if_neg (nI_ge hp (by omega)), nI_1]
      simp only [dw_nm]
      rw [pb_bd g2]
      cases wG T C P N o n p x <;> rfl) (fun x ρ hρ => by
      show sX9_pairWhere_5 (nI n) x (nI N) ρ = _
      unfold sX9_pairWhere_5
      rw [cN ρ hρ, if_pos (nI_le (Nat.le_refl _) (by omega))]) N 0 x ρ 1000 (by omega) (by omega) hρ
  have rest : ∀ x ρ, J_c T C N o ρ → ∃ ρ', J_c T C N o ρ' ∧ dw_bd (dw_wh (fun v => sX9_where_56 (nI n) v.1 v.2.1 v.2.2) 1000 (x, (0 : Int32), ρ)) (Sum.elim (fun v => (fun x21 μ22 => dw_b2 (fX9_pairWhere μ22 (nI n) x21) (fun r24 μ25 => some (r24, μ25))) v.1 v.2) (fun r => some r)) = some (wA T C P N o n x, ρ') := by
    intro x ρ hρ
    obtain ⟨ρ1, g1, g2⟩ := loop1 x ρ hρ
    rw [pb_bd g2]
    unfold wA
    cases hw : wl (wF1 T C P N o n) nI N 0 x with
    | inr r => exact ⟨ρ1, g1, rfl⟩
    | inl y =>
      obtain ⟨ρ2, k1, k2⟩ := loop3 y ρ1 g1
      refine ⟨ρ2, k1, ?_⟩
      show dw_b2 (fX9_pairWhere ρ1 (nI n) y) (fun r24 μ25 => some (r24, μ25)) = _
      unfold fX9_pairWhere
      rw [pb_bd k2]
      show _ = some (Sum.elim (fun _ => (-6 : Int32)) (fun r => r) (wl2 (wG T C P N o n) N 0 y), ρ2)
      cases wl2 (wG T C P N o n) N 0 y <;> rfl
  obtain ⟨ν1, g1, g2⟩ := cl_fits h hh1 wa si hJ hn (a2 := -1) (a3 := -1) (Or.inl rfl) (Or.inl rfl) (fun e => e)
  rw [nbw_m, Bool.true_and, Bool.true_and] at g1
  unfold fX9_where wR
  rw [pv_w, hr, if_neg (by decide), if_pos ha, pb_bd hpl, pb_b2 g1]
  simp only [dw_jm, dw_nm]
  cases hf : fitB T C P N o n (-1) (-1) with
  | false =>
    obtain ⟨ν2, k1, k2⟩ := rest a2 ν1 g2
    refine ⟨ν2, k1, ?_⟩
    rw [if_pos (by decide), if_neg (by decide)]
    exact k2
  | true =>
    by_cases c : a2 = 0
    · refine ⟨ν1, g2, ?_⟩
      rw [if_neg (by decide), if_pos c, if_pos rfl, if_pos c]
    · obtain ⟨ν2, k1, k2⟩ := rest (a2 + (-1 : Int32)) ν1 g2
      refine ⟨ν2, k1, ?_⟩
      rw [if_neg (by decide), if_neg c, if_pos rfl, if_neg c]
      exact k2
theorem md_where (h : stt R C P N T) {hh : Nat} (hh1 : hh ≤ 29000) (wa : rl_wat P N hh (fun q => T.1 (1 + (12 + 2 * q)) 4) 53 143 T) (si : rl_set P (T.2 63) 260 143 T) (bl : rl_blk N (T.2 60) 143 T) (hrk : ∀ q, q < N → rk q < N ∧ ∃ c, ch N T q (rk q) c) (ho : o_f rk N o) {ν0 : dw_M} (h0 : ∀ c k, (c < 127 ∨ 139 ≤ c) → ν0.1 c k = T.1 c k) {n : Nat} (hn : n ≤ 20) (hr : fX10_in (nI n) 1 20 = 1) {a2 : Int32} (ha : 0 ≤ a2) : ∃ ν, J_m T ν0 ν ∧ fX10_where ν0 (nI n) a2 = some (wR T C P N o n a2, ν) := by
  obtain ⟨hN, hP, hC1, hC6⟩ := st_20 h
  obtain ⟨e0, e1, e2, e3, e4, e5⟩ := st_dim h
  have hJ : J_m T ν0 ν0 := ⟨fun _ _ _ _ => rfl, fun j _ => h0 143 j (by omega), rfl⟩
  have cN : ∀ ρ, J_m T ν0 ρ → ρ.1 143 13 = nI N := fun ρ hρ => by rw [hρ.2.1 _ (by omega), e3]
  have has : ∀ ρ, J_m T ν0 ρ → ∀ p, p < N → fX10_pipeOf ρ (nI p) 8 = some (b2i (pg_b (T.2 60) p)) := fun ρ hρ p hp => by
    rw [md_p8 ρ (by omega), hρ.2.1 _ (by omega)]
    exact congrArg some (bl.1 p hp)
  have fits := fun ρ hρ a2 a3 h2 h3 => md_fits (a2 := a2) (a3 := a3) h hh1 wa si bl hrk ho h0 (ρ := ρ) hρ hn h2 h3
  have loop1 : ∀ x ρ, J_m T ν0 ρ → ∃ ρ', J_m T ν0 ρ' ∧ dw_wh (fun v => sX10_where_42 (nI n) v.1 v.2.1 v.2.2) 1000 (x, (0 : Int32), ρ) = some (Sum.map (fun y => (y, ρ')) (fun r => (r, ρ')) (wl (wF1 T C P N o n) nI N 0 x)) := fun x ρ hρ =>
    wl_run (step := fun v => sX10_where_42 (nI n) v.1 v.2.1 v.2.2) (J_m T ν0) (wF1 T C P N o n) nI (N := N) (j0 := 0) (fun j x ρ _ hj hρ => by
      show ∃ ρ', J_m T ν0 ρ' ∧ sX10_where_42 (nI n) x (nI j) ρ = _
      unfold sX10_where_42 wF1
      rw [pv_c13, cN ρ hρ, if_neg (nI_ge hj (by omega)), pb_bd (has ρ hρ j hj), nI_1]
      cases hb : pg_b (T.2 60) j with
      | true => exact ⟨ρ, hρ, by rw [if_neg (by decide)]; rfl⟩
      | false =>
        obtain ⟨ρ', g1, g2⟩ := fits ρ hρ (nI j) (-1) (Or.inr ⟨j, by omega, rfl⟩) (Or.inl rfl)
        refine ⟨ρ', g2, ?_⟩
        rw [if_pos (by decide), pb_b2 g1]
        cases fitB T C P N o n (nI j) (-1) <;> rfl) (fun x ρ hρ => by
      show sX10_where_42 (nI n) x (nI N) ρ = _
      unfold sX10_where_42
      rw [pv_c13, cN ρ hρ, if_pos (nI_le (Nat.le_refl _) (by omega))]) N 0 x ρ 1000 (by omega) (by omega) (by omega) hρ
  have loop2 : ∀ p x ρ, p < N → J_m T ν0 ρ → ∃ ρ', J_m T ν0 ρ' ∧ dw_wh (fun v => sX10_where_113 (nI n) (nI p) v.1 v.2.1 v.2.2) 1000 (x, nI (p + 1), ρ) = some (Sum.map (fun y => (y, ρ')) (fun r => (r, ρ')) (wG T C P N o n p x)) := fun p x ρ hp hρ =>
    wl_run (step := fun v => sX10_where_113 (nI n) (nI p) v.1 v.2.1 v.2.2) (J_m T ν0) (wF2 T C P N o n p) (fun q => (100 : Int32) * (nI p + 1) + nI q) (N := N) (j0 := p + 1) (fun j x ρ _ hj hρ => by
      show ∃ ρ', J_m T ν0 ρ' ∧ sX10_where_113 (nI n) (nI p) x (nI j) ρ = _
      unfold sX10_where_113 wF2
      rw [pv_c13, cN ρ hρ, if_neg (nI_ge hj (by omega)), pb_bd (has ρ hρ p hp), ← nI_1 j]
      cases hb : pg_b (T.2 60) p with
      | true => exact ⟨ρ, hρ, by rw [if_neg (by decide)]; rfl⟩
      | false =>
        rw [if_pos (by decide), pb_bd (has ρ hρ j hj)]
        cases hb2 : pg_b (T.2 60) j with
        | true => exact ⟨ρ, hρ, by rw [if_neg (by decide)]; rfl⟩
        | false =>
          obtain ⟨ρ', g1, g2⟩ := fits ρ hρ (nI p) (nI j) (Or.inr ⟨p, by omega, rfl⟩) (Or.inr ⟨j, by omega, rfl⟩)
          refine ⟨ρ', g2, ?_⟩
          rw [if_pos (by decide), pb_b2 g1]
          cases fitB T C P N o n (nI p) (nI j) <;> rfl) (fun x ρ hρ => by
      show sX10_where_113 (nI n) (nI p) x (nI N) ρ = _
      unfold sX10_where_113
      rw [pv_c13, cN ρ hρ, if_pos (nI_le (Nat.le_refl _) (by omega))]) (N - (p + 1)) (p + 1) x ρ 1000 (by omega) (by omega) (by omega) hρ
  have loop3 : ∀ x ρ, J_m T ν0 ρ → ∃ ρ', J_m T ν0 ρ' ∧ dw_wh (fun v => sX10_where_95 (nI n) v.1 v.2.1 v.2.2) 1000 (x, (0 : Int32), ρ) = some (Sum.elim (fun _ => Sum.inl ρ') (fun r => Sum.inr (r, ρ')) (wl2 (wG T C P N o n) N 0 x)) := fun x ρ hρ =>
    wl2_run (step := fun v => sX10_where_95 (nI n) v.1 v.2.1 v.2.2) (J_m T ν0) (wG T C P N o n) (N := N) (fun p x ρ hp hρ => by
      obtain ⟨ρ', g1, g2⟩ := loop2 p x ρ hp hρ
      refine ⟨ρ', g1, ?_⟩
      show sX10_where_95 (nI n) x (nI p) ρ = _
      unfold sX10_where_95
      rw [pv_c13, cN ρ hρ, if_neg (nI_ge hp (by omega)), nI_1]
      simp only [dw_nm]
      rw [pb_bd g2]
      cases wG T C P N o n p x <;> rfl) (fun x ρ hρ => by
      show sX10_where_95 (nI n) x (nI N) ρ = _
      unfold sX10_where_95
      rw [pv_c13, cN ρ hρ, if_pos (nI_le (Nat.le_refl _) (by omega))]) N 0 x ρ 1000 (by omega) (by omega) hρ
  have rest : ∀ x ρ, J_m T ν0 ρ → ∃ ρ', J_m T ν0 ρ' ∧ dw_bd (dw_wh (fun v => sX10_where_42 (nI n) v.1 v.2.1 v.2.2) 1000 (x, (0 : Int32), ρ)) (Sum.elim (fun v => (fun x23 μ24 => dw_bd (dw_wh (fun v => sX10_where_95 (nI n) v.1 v.2.1 v.2.2) 1000 (x23, (0 : Int32), μ24)) (Sum.elim (fun μ53 => some ((-6 : Int32), μ53)) (fun r => some r))) v.1 v.2) (fun r => some r)) = some (wA T C P N o n x, ρ') := by
    intro x ρ hρ
    obtain ⟨ρ1, g1, g2⟩ := loop1 x ρ hρ
    rw [pb_bd g2]
    unfold wA
    cases hw : wl (wF1 T C P N o n) nI N 0 x with
    | inr r => exact ⟨ρ1, g1, rfl⟩
    | inl y =>
      obtain ⟨ρ2, k1, k2⟩ := loop3 y ρ1 g1
      refine ⟨ρ2, k1, ?_⟩
      show dw_bd (dw_wh (fun v => sX10_where_95 (nI n) v.1 v.2.1 v.2.2) 1000 (y, (0 : Int32), ρ1)) (Sum.elim (fun μ53 => some ((-6 : Int32), μ53)) (fun r => some r)) = _
      rw [pb_bd k2]
      show _ = some (Sum.elim (fun _ => (-6 : Int32)) (fun r => r) (wl2 (wG T C P N o n) N 0 y), ρ2)
      cases wl2 (wG T C P N o n) N 0 y <;> rfl
  obtain ⟨ν1, g1, g2⟩ := fits ν0 hJ (-1) (-1) (Or.inl rfl) (Or.inl rfl)
  unfold fX10_where wR
  rw [hr, if_neg (by decide), if_pos ha, pb_b2 g1]
  simp only [dw_jm, dw_nm]
  cases hf : fitB T C P N o n (-1) (-1) with
  | false =>
    obtain ⟨ν2, k1, k2⟩ := rest a2 ν1 g2
    refine ⟨ν2, k1, ?_⟩
    rw [if_pos (by decide), if_neg (by decide)]
    exact k2
  | true =>
    by_cases c : a2 = 0
    · refine ⟨ν1, g2, ?_⟩
      rw [if_neg (by decide), if_pos c, if_pos rfl, if_pos c]
    · obtain ⟨ν2, k1, k2⟩ := rest (a2 + (-1 : Int32)) ν1 g2
      refine ⟨ν2, k1, ?_⟩
      rw [if_neg (by decide), if_neg c, if_pos rfl, if_neg c]
      exact k2
end
theorem ok_where : pl_where pl_G := by
  intro k μ hk g a1 a2
  obtain ⟨R, C, P, N, hh, d, gn, so, di, hn, pi, it, ac, ⟨hk5, wa⟩, bl, ra, mk, si⟩ := id g.1
  obtain ⟨⟨d1, d2, d3, d4, dP, d5, d36, d20⟩, dR, dC, dN, cC, cP, cN⟩ := id d
  have dR : μ.1 143 0 = nI R := dR
  have dC : μ.1 143 1 = nI C := dC
  have dN : μ.1 143 13 = nI N := dN
  have cC : μ.1 2 0 = nI C := cC
  have cP : μ.1 2 1 = nI P := cP
  have cN : μ.1 11 1 = nI N := cN
  have hst : stt R C P N μ := ⟨d, gn, so, di, pi, it, ac, ra⟩
  rcases pv_rg a1 (l := 1) (h := 20) (lo := 1) (hi := 20) rfl rfl (by decide) (by decide) with h0 | ⟨h1, n, hn1, hn2, en⟩
  · refine ⟨-1, μ, μ, ?_, ?_, pl_mono g⟩
    · unfold fX9_where
      rw [pv_w, h0, if_pos rfl]
    · unfold fX10_where
      rw [h0, if_pos rfl]
  · subst en
    by_cases ha : 0 ≤ a2
    · obtain ⟨rk, hrk⟩ := a_rkex hst
      obtain ⟨o, ho⟩ := o_ex rk N
      obtain ⟨ν0, l1, l2, l3, l4, l5⟩ := cl_plan hst (ag_refl μ) hrk
      have hJ : J_c μ C N o ν0 := ⟨fun c k hc => l4 c k (by omega), fun c _ => by rw [l5], l2, p_ok_i ho l3⟩
      obtain ⟨ν, f1, f2⟩ := cl_where hst (hh := hh) (by omega) wa si l1 hJ hn2 h1 ha
      obtain ⟨ξ, q1, q2⟩ := md_where hst (hh := hh) (by omega) wa si bl hrk ho f1.1 hn2 h1 ha
      refine ⟨_, ν, ξ, f2, q2, ?_⟩
      have tot : ∀ c j, c ≠ 143 → c ≠ 145 → (c < 127 ∨ 139 ≤ c) → ξ.1 c j = μ.1 c j := fun c j h1 h2 h3 => by rw [q1.1 c j h1 h2, f1.1 c j h3]
      have tot2 : ∀ c, c ≠ 134 → ξ.2 c = μ.2 c := fun c hc => by rw [q1.2.2, f1.2.1 c hc]
      exact pl_now g (rl_mono (rl_move g.1 (fun o ho j _ _ _ _ _ => tot _ _ (by omega) (by omega) (by omega)) (fun o ho => tot2 _ (by omega)) (fun j hj => q1.2.1 j hj))) (fun c h1 h2 => by funext j; exact tot c j (by omega) (by omega) (by omega)) (fun c _ _ => tot2 c (by omega)) (by funext j; exact tot _ j (by omega) (by omega) (by omega)) (tot _ _ (by omega) (by omega) (by omega)) (tot _ _ (by omega) (by omega) (by omega))
    · refine ⟨-1, μ, μ, ?_, ?_, pl_mono g⟩
      · unfold fX9_where
        rw [pv_w, h1, if_neg (by decide), if_neg ha]
      · unfold fX10_where
        rw [h1, if_neg (by decide), if_neg ha]
