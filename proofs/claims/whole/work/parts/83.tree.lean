/-! the least tree, as plain functions -/
def t_jn (mk : Nat → Bool) (f : Nat → Nat) (a b : Nat) : Bool := mk a && (mk b && !decide (f a = f b))
def t_st (mk : Nat → Bool) (co : Nat → Nat → Nat) (f : Nat → Nat) (a b : Nat) (s : Option (Nat × Nat)) : Option (Nat × Nat) := if t_jn mk f a b = true then (match s with
  | none => some (a, b)
  | some v => if co a b < co v.1 v.2 then some (a, b) else some v) else s
def t_in (mk : Nat → Bool) (co : Nat → Nat → Nat) (f : Nat → Nat) (a : Nat) (s : Option (Nat × Nat)) : Nat → Option (Nat × Nat)
  | 0 => s
  | d + 1 => t_st mk co f a (a + 1 + d) (t_in mk co f a s d)
def t_out (mk : Nat → Bool) (co : Nat → Nat → Nat) (P : Nat) (f : Nat → Nat) : Nat → Option (Nat × Nat)
  | 0 => none
  | a + 1 => t_in mk co f a (t_out mk co P f a) (P - (a + 1))
def t_mg (f : Nat → Nat) : Option (Nat × Nat) → Nat → Nat
  | none => f
  | some v => fun p => if f p = f v.2 then f v.1 else f p
def tr (mk : Nat → Bool) (co : Nat → Nat → Nat) (P : Nat) : Nat → Nat → Nat
  | 0 => fun p => p
  | j + 1 => t_mg (tr mk co P j) (t_out mk co P (tr mk co P j) P)
def tr_v (mk : Nat → Bool) (co : Nat → Nat → Nat) (P j : Nat) : Nat × Nat := (t_out mk co P (tr mk co P j) P).getD (0, 0)
def tr_c (mk : Nat → Bool) (co : Nat → Nat → Nat) (P : Nat) : Nat → Nat
  | 0 => 0
  | j + 1 => tr_c mk co P j + co (tr_v mk co P j).1 (tr_v mk co P j).2
section
variable {mk : Nat → Bool} {co : Nat → Nat → Nat} {P : Nat} {f : Nat → Nat}
theorem t_jn_t {a b : Nat} (h : t_jn mk f a b = true) : mk a = true ∧ mk b = true ∧ f a ≠ f b := by
  unfold t_jn at h
  rw [Bool.and_eq_true, Bool.and_eq_true] at h
  refine ⟨h.1, h.2.1, fun z => ?_⟩
  have := h.2.2
  rw [decide_eq_true z] at this
  cases this
theorem t_jn_i {a b : Nat} (h1 : mk a = true) (h2 : mk b = true) (h3 : f a ≠ f b) : t_jn mk f a b = true := by
  unfold t_jn
  rw [h1, h2, decide_eq_false h3]
  rfl
theorem t_st_g {G : Nat × Nat → Prop} {a b : Nat} {s : Option (Nat × Nat)} (hs : ∀ v, s = some v → G v) (hg : t_jn mk f a b = true → G (a, b)) : ∀ v, t_st mk co f a b s = some v → G v := by
  intro v hv
  unfold t_st at hv
  by_cases c : t_jn mk f a b = true
  · rw [if_pos c] at hv
    cases s with
    | none =>
      have hv : some (a, b) = some v := hv
      cases hv
      exact hg c
    | some w =>
      have hv : (if co a b < co w.1 w.2 then some (a, b) else some w) = some v := hv
      by_cases c2 : co a b < co w.1 w.2
      · rw [if_pos c2] at hv
        cases hv
        exact hg c
      · rw [if_neg c2] at hv
        cases hv
        exact hs _ rfl
  · rw [if_neg c] at hv
    exact hs v hv
theorem t_st_n {a b : Nat} {s : Option (Nat × Nat)} : t_st mk co f a b s = none ↔ s = none ∧ t_jn mk f a b = false := by
  unfold t_st
  cases c : t_jn mk f a b with
  | true =>
    rw [if_pos rfl]
    cases s with
    | none =>
      constructor
      · intro h; cases h
      · intro h; cases h.2
    | some w =>
      constructor
      · intro h
        have h : (if co a b < co w.1 w.2 then some (a, b) else some w) = none := h
        by_cases c2 : co a b < co w.1 w.2
        · rw [if_pos c2] at h; cases h
        · rw [if_neg c2] at h; cases h
      · intro h; cases h.2
  | false =>
    rw [if_neg (by decide)]
    exact ⟨fun h => ⟨h, rfl⟩, fun h => h.1⟩
def t_gd (mk : Nat → Bool) (P : Nat) (f : Nat → Nat) (v : Nat × Nat) : Prop := v.1 < v.2 ∧ v.2 < P ∧ t_jn mk f v.1 v.2 = true
theorem t_in_g {a : Nat} {s : Option (Nat × Nat)} (hs : ∀ v, s = some v → t_gd mk P f v) : ∀ d, a + 1 + d ≤ P → ∀ v, t_in mk co f a s d = some v → t_gd mk P f v
  | 0, _ => hs
  | d + 1, h => t_st_g (t_in_g hs d (by omega)) (fun hj => ⟨by show a < a + 1 + d; omega, by show a + 1 + d < P; omega, hj⟩)
theorem t_in_n {a : Nat} {s : Option (Nat × Nat)} : ∀ d, t_in mk co f a s d = none ↔ s = none ∧ ∀ b, a + 1 ≤ b → b < a + 1 + d → t_jn mk f a b = false
  | 0 => ⟨fun h => ⟨h, fun b h1 h2 => absurd h2 (by omega)⟩, fun h => h.1⟩
  | d + 1 => by
    show t_st mk co f a (a + 1 + d) (t_in mk co f a s d) = none ↔ _
    rw [t_st_n, t_in_n d]
    constructor
    · rintro ⟨⟨h1, h2⟩, h3⟩
      refine ⟨h1, fun b hb1 hb2 => ?_⟩
      by_cases e : b = a + 1 + d
      · rw [e]; exact h3
      · exact h2 b hb1 (by omega)
    · rintro ⟨h1, h2⟩
      exact ⟨⟨h1, fun b hb1 hb2 => h2 b hb1 (by omega)⟩, h2 _ (by omega) (by omega)⟩
theorem t_out_g : ∀ a, a ≤ P → ∀ v, t_out mk co P f a = some v → t_gd mk P f v
  | 0, _, v, h => by cases h
  | a + 1, ha, v, h => t_in_g (t_out_g a (by omega)) (P - (a + 1)) (by omega) v h
theorem t_out_n : ∀ a, a ≤ P → (t_out mk co P f a = none ↔ ∀ x b, x < a → x < b → b < P → t_jn mk f x b = false)
  | 0, _ => ⟨fun _ x b h => absurd h (by omega), fun _ => rfl⟩
  | a + 1, ha => by
    show t_in mk co f a (t_out mk co P f a) (P - (a + 1)) = none ↔ _
    rw [t_in_n, t_out_n a (by omega)]
    constructor
    · rintro ⟨h1, h2⟩ x b h3 h4 h5
      by_cases e : x = a
      · rw [e]; exact h2 b (by omega) (by omega)
      · exact h1 x b (by omega) h4 h5
    · intro h
      exact ⟨fun x b h1 h2 h3 => h x b (by omega) h2 h3, fun b h1 h2 => h a b (by omega) (by omega) (by omega)⟩
/-- who stands for its piece -/
def t_rp (mk : Nat → Bool) (f : Nat → Nat) (p : Nat) : Bool := mk p && decide (f p = p)
def t_iv (mk : Nat → Bool) (P j : Nat) (f : Nat → Nat) : Prop := (∀ p, p < P → mk p = true → f p < P ∧ mk (f p) = true ∧ f (f p) = f p) ∧ fb_ct (t_rp mk f) P + j = fb_ct mk P
theorem t_two {p : Nat → Bool} {u v n : Nat} (huv : u < v) (hv : v < n) (h1 : p u = true) (h2 : p v = true) : 2 ≤ fb_ct p n := by
  have a1 := fb_ct_succ p u
  have a2 := fb_ct_succ p v
  have a3 := fb_ct_mono p (show u + 1 ≤ v by omega)
  have a4 := fb_ct_mono p (show v + 1 ≤ n by omega)
  rw [h1] at a1
  rw [h2] at a2
  simp at a1 a2
  omega
theorem t_rp_f {j : Nat} (h : t_iv mk P j f) {p : Nat} (hp : p < P) (hm : mk p = true) : t_rp mk f (f p) = true := by
  obtain ⟨h1, h2, h3⟩ := h.1 p hp hm
  unfold t_rp
  rw [h2, decide_eq_true h3]
  rfl
theorem t_none {j : Nat} (h : t_iv mk P j f) (hc : fb_ct mk P ≤ j + 1) : t_out mk co P f P = none := by
  rw [t_out_n P (Nat.le_refl _)]
  intro x b hx hxb hb
  cases e : t_jn mk f x b with
  | false => rfl
  | true =>
    obtain ⟨m1, m2, m3⟩ := t_jn_t e
    have r1 := t_rp_f h hx m1
    have r2 := t_rp_f h hb m2
    have b1 := (h.1 x hx m1).1
    have b2 := (h.1 b hb m2).1
    have h2 := h.2
    rcases (by omega : f x < f b ∨ f b < f x) with c | c
    · have := t_two c b2 r1 r2
      omega
    · have := t_two c b1 r2 r1
      omega
theorem t_some {j : Nat} (h : t_iv mk P j f) (hc : j + 1 < fb_ct mk P) : ∃ v, t_out mk co P f P = some v := by
  cases e : t_out mk co P f P with
  | some v => exact ⟨v, rfl⟩
  | none =>
    rw [t_out_n P (Nat.le_refl _)] at e
    have h2 := h.2
    obtain ⟨u, hu, pu, cu⟩ := fb_ct_kth (p := t_rp mk f) (k := 0) (n := P) (by omega)
    obtain ⟨v, hv, pv, cv⟩ := fb_ct_kth (p := t_rp mk f) (k := 1) (n := P) (by omega)
    have g : ∀ x, t_rp mk f x = true → mk x = true ∧ f x = x := fun x hx => by
      unfold t_rp at hx
      rw [Bool.and_eq_true] at hx
      exact ⟨hx.1, of_decide_eq_true hx.2⟩
    obtain ⟨u1, u2⟩ := g u pu
    obtain ⟨v1, v2⟩ := g v pv
    have huv : u < v := by
      rcases (by omega : u < v ∨ u = v ∨ v < u) with c | c | c
      · exact c
      · subst c; omega
      · have := fb_ct_mono (t_rp mk f) (show v ≤ u by omega)
        omega
    have := e u v hu huv hv
    rw [t_jn_i u1 v1 (by rw [u2, v2]; omega)] at this
    cases this
theorem t_step {j : Nat} (h : t_iv mk P j f) {v : Nat × Nat} (hv : t_gd mk P f v) : t_iv mk P (j + 1) (t_mg f (some v)) := by
  obtain ⟨g1, g2, g3⟩ := hv
  obtain ⟨m1, m2, m3⟩ := t_jn_t g3
  obtain ⟨x1, x2, x3⟩ := h.1 v.1 (by omega) m1
  obtain ⟨y1, y2, y3⟩ := h.1 v.2 g2 m2
  have ef : ∀ p, t_mg f (some v) p = if f p = f v.2 then f v.1 else f p := fun p => rfl
  refine ⟨fun p hp hm => ?_, ?_⟩
  · obtain ⟨p1, p2, p3⟩ := h.1 p hp hm
    rw [ef p]
    by_cases c : f p = f v.2
    · rw [if_pos c, ef, x3, if_neg m3]
      exact ⟨x1, x2, rfl⟩
    · rw [if_neg c, ef, p3, if_neg c]
      exact ⟨p1, p2, rfl⟩
  · have hcg : fb_ct (t_rp mk (t_mg f (some v))) P = fb_ct (fun k => if k = f v.2 then false else t_rp mk f k) P := by
      apply fb_ct_cong
      intro k hk
      unfold t_rp
      rw [ef k]
      by_cases e : k = f v.2
      · rw [if_pos e, e, y3, if_pos rfl, decide_eq_false m3, Bool.and_false]
      · rw [if_neg e]
        cases hm : mk k with
        | false => rfl
        | true =>
          rw [Bool.true_and, Bool.true_and]
          by_cases c : f k = f v.2
          · rw [if_pos c, decide_eq_false (show ¬ f k = k by omega)]
            refine decide_eq_false (fun z => ?_)
            rw [← z, x3] at c
            exact m3 c
          · rw [if_neg c]
    have hu : fb_ct (fun k => if k = f v.2 then false else t_rp mk f k) P + 1 = fb_ct (t_rp mk f) P + 0 := by
      have hu := fb_ct_upd (t_rp mk f) false (i := f v.2) (n := P) y1
      rw [t_rp_f h g2 m2] at hu
      exact hu
    have h2 := h.2
    rw [hcg]
    omega
theorem tr_iv : ∀ j, j ≤ fb_ct mk P - 1 → t_iv mk P j (tr mk co P j)
  | 0, _ => ⟨fun p hp hm => ⟨hp, hm, rfl⟩, by
    rw [Nat.add_zero]
    apply fb_ct_cong
    intro k _
    unfold t_rp tr
    rw [decide_eq_true rfl, Bool.and_true]⟩
  | j + 1, hj => by
    have ih := tr_iv j (by omega)
    obtain ⟨v, hv⟩ := t_some (co := co) ih (by omega)
    show t_iv mk P (j + 1) (t_mg (tr mk co P j) (t_out mk co P (tr mk co P j) P))
    rw [hv]
    exact t_step ih (t_out_g P (Nat.le_refl _) v hv)
theorem tr_some {j : Nat} (hj : j < fb_ct mk P - 1) : t_out mk co P (tr mk co P j) P = some (tr_v mk co P j) ∧ t_gd mk P (tr mk co P j) (tr_v mk co P j) := by
  obtain ⟨v, hv⟩ := t_some (co := co) (tr_iv (mk := mk) (co := co) (P := P) j (by omega)) (by omega)
  have e : tr_v mk co P j = v := by
    unfold tr_v
    rw [hv]
    rfl
  rw [e]
  exact ⟨hv, t_out_g P (Nat.le_refl _) v hv⟩
theorem tr_none : t_out mk co P (tr mk co P (fb_ct mk P - 1)) P = none := t_none (tr_iv _ (Nat.le_refl _)) (by omega)
theorem tr_lt (hP : P ≤ 36) : ∀ j, j ≤ fb_ct mk P - 1 → ∀ p, p < 36 → tr mk co P j p < 36
  | 0, _, p, hp => hp
  | j + 1, hj, p, hp => by
    obtain ⟨e, g⟩ := tr_some (mk := mk) (P := P) (co := co) (show j < fb_ct mk P - 1 by omega)
    show t_mg (tr mk co P j) (t_out mk co P (tr mk co P j) P) p < 36
    rw [e]
    show (if tr mk co P j p = tr mk co P j (tr_v mk co P j).2 then tr mk co P j (tr_v mk co P j).1 else tr mk co P j p) < 36
    have h1 := tr_lt hP j (by omega) p hp
    have h2 := tr_lt hP j (by omega) (tr_v mk co P j).1 (by have := g.1; have := g.2.1; omega)
    by_cases c : tr mk co P j p = tr mk co P j (tr_v mk co P j).2
    · rw [if_pos c]; exact h2
    · rw [if_neg c]; exact h1
end
