/-- the step of a line on a place: at most one -/
theorem cl_son {μ : dw_M} {i m : Nat} {pl : Nat → Nat} (e2 : μ.1 i 2 = nI m) (hm : m ≤ 6) (hp : ∀ k, k < m → pl k < 36 ∧ fX3_placeAt μ i (nI k) = nI (pl k)) (hi : ∀ j k, j < m → k < m → pl j = pl k → j = k) {t : Nat} (ht : t < 36) : (∀ k, k < m → pl k = t → fX3_stepOn μ i (nI t) = some (nI k)) ∧ ((∀ k, k < m → pl k ≠ t) → fX3_stepOn μ i (nI t) = some (-1)) := by
  have step : ∀ j, j < m → pl j ≠ t → sX3_stepOn_2 μ i (nI t) (nI j) = some (.inl (nI (j + 1))) := by
    intro j hj hne
    have := (hp j hj).1
    unfold sX3_stepOn_2
    rw [e2, if_neg (nI_ge hj (by omega)), (hp j hj).2, if_neg (fun e => hne ((nI_eq (by omega) (by omega)).mp e))]
    show some (Sum.inl (nI j + 1)) = _
    rw [nI_1]
  constructor
  · intro k hk e
    unfold fX3_stepOn
    have h := pb_det (step := fun v => sX3_stepOn_2 μ i (nI t) v) (fun j => nI j) k (x := 0) rfl (r := Sum.inr (nI k)) (fun j hj => step j (by omega) (fun z => by have := hi j k (by omega) hk (by rw [z, e]); omega)) ?_ (fuel := 1000) (by omega)
    · rw [pb_bd h]; rfl
    · show sX3_stepOn_2 μ i (nI t) (nI k) = _
      unfold sX3_stepOn_2
      rw [e2, if_neg (nI_ge hk (by omega)), (hp k hk).2, if_pos (by rw [e])]
  · intro hx
    unfold fX3_stepOn
    have h := pb_det (step := fun v => sX3_stepOn_2 μ i (nI t) v) (fun j => nI j) m (x := 0) rfl (r := Sum.inl ()) (fun j hj => step j hj (hx j hj)) ?_ (fuel := 1000) (by omega)
    · rw [pb_bd h]; rfl
    · show sX3_stepOn_2 μ i (nI t) (nI m) = _
      unfold sX3_stepOn_2
      rw [e2, if_pos (nI_le (Nat.le_refl _) (by omega))]
theorem md_son {μ : dw_M} {q m : Nat} {pl : Nat → Nat} (hq : q < 20) (e2 : μ.1 143 (400 + 20 * q + 11) = nI m) (hm : m ≤ 6) (hp : ∀ k, k < m → pl k < 36 ∧ fX10_stepPlace μ (nI q) (nI k) = some (nI (pl k))) (hi : ∀ j k, j < m → k < m → pl j = pl k → j = k) {t : Nat} (ht : t < 36) : (∀ k, k < m → pl k = t → fX10_stepOf μ (nI q) (nI t) = some (nI k)) ∧ ((∀ k, k < m → pl k ≠ t) → fX10_stepOf μ (nI q) (nI t) = some (-1)) := by
  have gen : ∀ j x, j < m → sX10_stepOf_5 μ (nI q) (nI t) x (nI j) = some (.inl (if pl j = t then nI j else x, nI (j + 1))) := by
    intro j x hj
    have := (hp j hj).1
    unfold sX10_stepOf_5
    rw [pb_bd (md_p11 μ hq), e2, if_neg (nI_ge hj (by omega)), pb_bd (hp j hj).2]
    simp only [dw_nm, nI_1]
    by_cases e : pl j = t
    · rw [if_pos (by rw [e]), if_pos e]
    · rw [if_neg (fun z => e ((nI_eq (by omega) (by omega)).mp z)), if_neg e]
  have last : ∀ x, sX10_stepOf_5 μ (nI q) (nI t) x (nI m) = some (.inr x) := by
    intro x
    unfold sX10_stepOf_5
    rw [pb_bd (md_p11 μ hq), e2, if_pos (nI_le (Nat.le_refl _) (by omega))]
  constructor
  · intro k hk e
    unfold fX10_stepOf
    have h := pb_det (step := fun v => sX10_stepOf_5 μ (nI q) (nI t) v.1 v.2) (fun j => (if k < j then nI k else -1, nI j)) m (x := ((-1 : Int32), (0 : Int32))) (by rw [if_neg (by omega)]; rfl) (r := nI k) (fun j hj => ?_) ?_ (fuel := 1000) (by omega)
    · rw [pb_bd h]
    · show sX10_stepOf_5 μ (nI q) (nI t) (if k < j then nI k else -1) (nI j) = some (.inl (if k < j + 1 then nI k else -1, nI (j + 1)))
      rw [gen j _ hj]
      by_cases e1 : pl j = t
      · have := hi j k hj hk (by rw [e1, e])
        subst this
        rw [if_pos e1, if_pos (by omega)]
      · have : j ≠ k := fun z => e1 (by rw [z, e])
        rw [if_neg e1]
        by_cases e3 : k < j
        · rw [if_pos e3, if_pos (by omega)]
        · rw [if_neg e3, if_neg (by omega)]
    · show sX10_stepOf_5 μ (nI q) (nI t) (if k < m then nI k else -1) (nI m) = _
      rw [if_pos hk, last]
  · intro hx
    unfold fX10_stepOf
    have h := pb_det (step := fun v => sX10_stepOf_5 μ (nI q) (nI t) v.1 v.2) (fun j => ((-1 : Int32), nI j)) m (x := ((-1 : Int32), (0 : Int32))) rfl (r := -1) (fun j hj => ?_) (last _) (fuel := 1000) (by omega)
    · rw [pb_bd h]
    · show sX10_stepOf_5 μ (nI q) (nI t) (-1) (nI j) = _
      rw [gen j _ hj, if_neg (hx j hj)]
theorem md_spl {μ : dw_M} {C p : Nat} (dC : μ.1 143 1 = nI C) (h1 : 1 ≤ C) (h6 : C ≤ 6) (hp : p < 20) (x : Int32) : fX10_stepPlace μ (nI p) x = some (μ.1 143 (400 + 20 * p + 1) + x * rl_sr (nI C) (μ.1 143 (400 + 20 * p + 1)) (μ.1 143 (400 + 20 * p + 2))) := by
  unfold fX10_stepPlace
  rw [pb_bd (md_p1 μ hp), pb_bd (md_p2 μ hp), pb_bd (md_pa dC h1 h6 _ _ _)]
theorem md_lvl {μ : dw_M} {p : Nat} (hp : p < 20) (x : Int32) : fX10_levelAt μ (nI p) x = some (μ.1 143 (400 + 20 * p + 3) - x * μ.1 143 (400 + 20 * p + 4)) := by
  unfold fX10_levelAt
  rw [pb_bd (md_p3 μ hp), pb_bd (md_p4 μ hp)]
/-- the end of a join, either side -/
theorem join_go {k : Nat} {μ : dw_M} {R C P N hh : Nat} (g : pl_G k μ) (ga : rl_all R C P N hh k 1 143 μ) {p q : Nat} (hp : p < N) (hq : q < N) : ∃ r : Int32, ∃ ν ξ : dw_M, (ν = μ ∨ ν = dw_st μ (12 + 1 + 2 * p) 5 (nI q)) ∧ dw_bd (fX4_leadsTo μ (nI q) (nI p)) (fun r13 =>
  if r13 = 0 then (
  dw_nm (dw_st μ (12 + 1 + 2 * p) 5 (nI q)) (fun μ15 =>
  dw_bd (fX4_rankOf μ15 (nI p)) (fun r17 =>
  some (r17, μ15))))
  else (
  some ((-5 : Int32), μ))) = some (r, ν) ∧ dw_bd (dw_wh (fun v => sX10_join_92 ν (nI p) v) 1000 (nI q))
    (Sum.elim (fun _ => dw_bd (fX10_setPipe ν (nI p) (7 : Int32) (nI q)) (fun μ29 =>
  dw_bd (fX10_rank μ29 (nI p)) (fun r31 =>
  some (r31, μ29)))) (fun r => some r)) = some (r, ξ) ∧ pl_G (k + 1) ξ := by
  obtain ⟨d, gn, so, di, hn, pi, it, ac, ⟨hk5, wa⟩, bl, ra, mk, si⟩ := id ga
  obtain ⟨⟨d1, d2, d3, d4, dP, d5, d36, d20⟩, dR, dC, dN, cC, cP, cN⟩ := id d
  obtain ⟨L, c, hc⟩ := ch_ex d20 it ac hq
  obtain ⟨l1, l2⟩ := cl_leads d20 (show μ.1 11 1 = nI N from cN) it hp hc
  by_cases hx : ∃ j, j ≤ L ∧ c j = p
  · refine ⟨-5, μ, μ, Or.inl rfl, ?_, ?_, pl_mono g⟩
    · rw [pb_bd (l1 hx), if_neg (by decide)]
    · rw [pb_bd ((md_leads d20 hp hc).1 hx)]
      rfl
  have hx' : ∀ j, j ≤ L → c j ≠ p := fun j hj e => hx ⟨j, hj, e⟩
  have hac := acy_join (p := p) d20 ac (by omega) hq (pth_ch d20 hc hx')
  have hr := rl_into ga hp (Or.inr (Or.inl ⟨q, hq, rfl⟩)) hac
  have hg := pl_into g (by omega) hr
  generalize hξ : dw_st (dw_st μ (12 + 1 + 2 * p) 5 (nI q)) 143 (400 + 20 * p + 7) (nI q) = ξ at hac hr hg
  -- the way from p now
  have it2 : rl_int N 1 143 ξ := by
    intro x hxx
    subst hξ
    by_cases e : x = p
    · subst e
      rw [pb_i, ← pv_pc, pb_i2 (Or.inl (by omega))]
      exact ⟨rfl, Or.inr (Or.inl ⟨q, hq, rfl⟩)⟩
    · simp (disch := omega) only [pb_o]
      exact it x hxx
  obtain ⟨L2, c2, hc2⟩ := ch_ex d20 it2 hac hp
  have r9 := cl_rank (ρ := dw_st μ (12 + 1 + 2 * p) 5 (nI q)) d20 (by rw [pb_o (by omega)]; exact cN) (fun x hx => by
    have h := (it2 x hx).1
    rw [← hξ, pb_oc (by omega), ← pv_pc, hξ] at h
    exact h) hc2
  have r10 := md_rank d20 hc2
  refine ⟨nI L2, dw_st μ (12 + 1 + 2 * p) 5 (nI q), ξ, Or.inr rfl, ?_, ?_, hg⟩
  · rw [pb_bd (l2 hx'), if_pos rfl]
    simp only [dw_nm]
    rw [pb_bd r9]
  · have hcn : ch N (dw_st μ (12 + 1 + 2 * p) 5 (nI q)) q L c := by
      obtain ⟨c0, c1, c2, c3, c4⟩ := hc
      refine ⟨c0, c1, fun j hj => ?_, ?_, c4⟩
      · show (dw_st μ (12 + 1 + 2 * p) 5 (nI q)).1 143 (400 + 20 * c j + 7) = _
        rw [pb_oc (by omega)]
        exact c2 j hj
      · show ch_end ((dw_st μ (12 + 1 + 2 * p) 5 (nI q)).1 143 (400 + 20 * c L + 7))
        rw [pb_oc (by omega)]
        exact c3
    rw [pb_bd ((md_leads d20 hp hcn).2 hx')]
    show dw_bd (fX10_setPipe (dw_st μ (12 + 1 + 2 * p) 5 (nI q)) (nI p) (7 : Int32) (nI q)) _ = _
    rw [pb_bd (md_sp _ (x := nI p) (y := 7) rfl rfl (by omega) (by decide)), hξ, pb_bd r10]
theorem ok_join : pl_join pl_G := by
  intro k μ hk g a1 a2
  obtain ⟨R, C, P, N, hh, d, gn, so, di, hn, pi, it, ac, ⟨hk5, wa⟩, bl, ra, mk, si⟩ := id g.1
  have ga : rl_all R C P N hh k 1 143 μ := ⟨d, gn, so, di, hn, pi, it, ac, ⟨hk5, wa⟩, bl, ra, mk, si⟩
  obtain ⟨⟨d1, d2, d3, d4, dP, d5, d36, d20⟩, dR, dC, dN, cC, cP, cN⟩ := id d
  have dR : μ.1 143 0 = nI R := dR
  have dC : μ.1 143 1 = nI C := dC
  have dN : μ.1 143 13 = nI N := dN
  have cC : μ.1 2 0 = nI C := cC
  have cP : μ.1 2 1 = nI P := cP
  have cN : μ.1 11 1 = nI N := cN
  rcases pv_tri a1 (n := N) (by omega) with c | ⟨p, hp, rfl⟩
  · refine ⟨-1, μ, μ, ?_, ?_, pl_mono g⟩
    · unfold fX9_join
      rw [if_pos (pv_hq0 cN c)]
    · unfold fX10_join
      rw [if_pos (pv_iq0 dN d20 c)]
  have c1 : ¬ fX4_hasPipe μ (nI p) = 0 := by rw [pv_hq1 cN (by omega) hp]; decide
  have c2 : ¬ fX10_isPipe μ (nI p) = 0 := by rw [pv_iq1 dN d20 hp]; decide
  have hp20 : p < 20 := by omega
  rcases pv_tri a2 (n := N) (by omega) with c | ⟨q, hq, rfl⟩
  · refine ⟨-1, μ, μ, ?_, ?_, pl_mono g⟩
    · unfold fX9_join
      rw [if_neg c1, if_pos (pv_hq0 cN c)]
    · unfold fX10_join
      rw [if_neg c2, if_pos (pv_iq0 dN d20 c)]
  have c3 : ¬ fX4_hasPipe μ (nI q) = 0 := by rw [pv_hq1 cN (by omega) hq]; decide
  have hq20 : q < 20 := by omega
  obtain ⟨f1, ⟨kp, hkp, ekp⟩, f3, f4, f5, f6⟩ := pp_f (pi p hp)
  obtain ⟨g1, ⟨kq, hkq, ekq⟩, g3, g4, g5, g6⟩ := pp_f (pi q hq)
  obtain ⟨m, hm1, hm2, hst, hcs, pl, hpl, hinj⟩ := ln_pl (m := 0) f6
  obtain ⟨m', hm1', hm2', hst', hcs', pl', hpl', hinj'⟩ := ln_pl (m := 0) g6
  have em : nI m - 1 = nI (m - 1) := by
    rw [show (1 : Int32) = nI 1 from rfl, pk_sub (by omega)]
  obtain ⟨t1, t2, t3, t4⟩ := hpl (m - 1) (by omega)
  -- the steps
  obtain ⟨st, hs9, hs10⟩ : ∃ st : Int32, fX3_stepOn μ (12 + 1 + 2 * q + 1) (nI (pl (m - 1))) = some st ∧ ∀ ν : dw_M, ν.1 143 = μ.1 143 → fX10_stepOf ν (nI q) (nI (pl (m - 1))) = some st := by
    have h9 := cl_son hcs' hm2' (fun k hk => ⟨by have := (hpl' k hk).1; omega, (hpl' k hk).2.1⟩) hinj' (t := pl (m - 1)) (by omega)
    have h10 : ∀ ν : dw_M, ν.1 143 = μ.1 143 → _ := fun ν e => md_son (μ := ν) hq20 (by rw [e]; exact hst') hm2' (fun k hk => ⟨by have := (hpl' k hk).1; omega, by rw [md_spl (C := C) (by rw [e]; exact dC) d3 d4 hq20, e, (hpl' k hk).2.2.1]⟩) hinj' (t := pl (m - 1)) (by omega)
    by_cases hx : ∃ k, k < m' ∧ pl' k = pl (m - 1)
    · obtain ⟨k0, hk0, e0⟩ := hx
      exact ⟨_, h9.1 k0 hk0 e0, fun ν e => (h10 ν e).1 k0 hk0 e0⟩
    · exact ⟨_, h9.2 (fun k hk e => hx ⟨k, hk, e⟩), fun ν e => (h10 ν e).2 (fun k hk e => hx ⟨k, hk, e⟩)⟩
  have hlq : fX3_levelAt μ (12 + 1 + 2 * q + 1) st = μ.1 143 (400 + 20 * q + 3) - st * μ.1 143 (400 + 20 * q + 4) := by
    unfold fX3_levelAt
    rw [g6.2.2.2.1, g6.2.2.2.2.1]
  have main : fX5_isMain μ (12 + 1 + 2 * q) = 0 ↔ dw_re (μ.1 143 (400 + 20 * q)) 2 = 0 := by
    unfold fX5_isMain
    rw [g1, ekq]
    rcases (by omega : kq = 0 ∨ kq = 1 ∨ kq = 2 ∨ kq = 3) with rfl | rfl | rfl | rfl <;> decide
  obtain ⟨r, ν, ξ, hν, j1, j2, j3⟩ := join_go g ga hp hq
  have key9 : fX9_join μ (nI p) (nI q) = if μ.1 143 (400 + 20 * p) = 3 then some (-3, μ) else if dw_re (μ.1 143 (400 + 20 * q)) 2 = 0 then some (-3, μ) else if 0 ≤ st then (if μ.1 143 (400 + 20 * q + 3) - st * μ.1 143 (400 + 20 * q + 4) ≤ μ.1 143 (400 + 20 * p + 3) - nI (m - 1) * μ.1 143 (400 + 20 * p + 4) then some (r, ν) else some (-4, μ)) else some (-3, μ) := by
    unfold fX9_join
    rw [if_neg c1, if_neg c3, pb_gd (pb_ok rfl hp20 (by decide)), pb_gd (pb_ok rfl hq20 (by decide)), pb_cl (x := nI p) rfl (by omega), pb_cl (x := nI q) rfl (by omega)]
    simp only [dw_nm]
    rw [hcs, em, t2, pb_bd hs9, f1, hlq, t4]
    simp only [main]
    rw [← j1]
    rfl
  have key10 : ∀ ρ : dw_M, ρ.1 143 = μ.1 143 → fX10_join ρ (nI p) (nI q) = if μ.1 143 (400 + 20 * p) = 3 then some (-3, ρ) else if dw_re (μ.1 143 (400 + 20 * q)) 2 = 0 then some (-3, ρ) else if 0 ≤ st then (if μ.1 143 (400 + 20 * q + 3) - st * μ.1 143 (400 + 20 * q + 4) ≤ μ.1 143 (400 + 20 * p + 3) - nI (m - 1) * μ.1 143 (400 + 20 * p + 4) then dw_bd (dw_wh (fun v => sX10_join_92 ρ (nI p) v) 1000 (nI q))
      (Sum.elim (fun _ => dw_bd (fX10_setPipe ρ (nI p) (7 : Int32) (nI q)) (fun μ29 =>
      dw_bd (fX10_rank μ29 (nI p)) (fun r31 =>
      some (r31, μ29)))) (fun r => some r)) else some (-4, ρ)) else some (-3, ρ) := by
    intro ρ e
    unfold fX10_join
    have i1 : ¬ fX10_isPipe ρ (nI p) = 0 := by rw [pv_iq1 (by rw [e]; exact dN) d20 hp]; decide
    have i2 : ¬ fX10_isPipe ρ (nI q) = 0 := by rw [pv_iq1 (by rw [e]; exact dN) d20 hq]; decide
    rw [if_neg i1, if_neg i2, pb_bd (md_p11 ρ hp20), e, hst]
    simp only [dw_nm]
    rw [em, pb_bd (md_spl (C := C) (by rw [e]; exact dC) d3 d4 hp20 _), e, t3, pb_bd (hs10 ρ e), pb_bd (md_p0 ρ hp20), pb_bd (md_p0 ρ hq20), pb_bd (md_lvl hp20 _), pb_bd (md_lvl hq20 _), e]
  by_cases k1 : μ.1 143 (400 + 20 * p) = 3
  · exact ⟨-3, μ, μ, by rw [key9, if_pos k1], by rw [key10 μ rfl, if_pos k1], pl_mono g⟩
  by_cases k2 : dw_re (μ.1 143 (400 + 20 * q)) 2 = 0
  · exact ⟨-3, μ, μ, by rw [key9, if_neg k1, if_pos k2], by rw [key10 μ rfl, if_neg k1, if_pos k2], pl_mono g⟩
  by_cases k3 : 0 ≤ st
  · by_cases k4 : μ.1 143 (400 + 20 * q + 3) - st * μ.1 143 (400 + 20 * q + 4) ≤ μ.1 143 (400 + 20 * p + 3) - nI (m - 1) * μ.1 143 (400 + 20 * p + 4)
    · refine ⟨r, ν, ξ, by rw [key9, if_neg k1, if_neg k2, if_pos k3, if_pos k4], ?_, j3⟩
      rw [key10 ν (by
        rcases hν with h | h
        · rw [h]
        · rw [h, pb_oc (by omega)]), if_neg k1, if_neg k2, if_pos k3, if_pos k4]
      exact j2
    · exact ⟨-4, μ, μ, by rw [key9, if_neg k1, if_neg k2, if_pos k3, if_neg k4], by rw [key10 μ rfl, if_neg k1, if_neg k2, if_pos k3, if_neg k4], pl_mono g⟩
  · exact ⟨-3, μ, μ, by rw [key9, if_neg k1, if_neg k2, if_neg k3], by rw [key10 μ rfl, if_neg k1, if_neg k2, if_neg k3], pl_mono g⟩
