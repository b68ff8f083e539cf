/-! an hour, as plain functions of numbers -/
def nt (x : Int32) : Nat := x.toNatClampNeg
theorem nt_n {n : Nat} (h : n < 2 ^ 31) : nt (nI n) = n := nI_clamp h
def uN (f : Nat → Nat) (k x : Nat) : Nat → Nat := fun j => if j = k then x else f j
theorem uN_i (f : Nat → Nat) (k x : Nat) : uN f k x k = x := if_pos rfl
theorem uN_o {f : Nat → Nat} {k x j : Nat} (h : j ≠ k) : uN f k x j = f j := if_neg h
def a_so (T : dw_M) (p : Nat) : Nat := nt (T.1 4 p)
def a_rn (T : dw_M) (p : Nat) : Nat := nt (T.1 61 p)
def a_tk (T : dw_M) (p : Nat) : Nat := nt (T.1 5 (a_so T p))
def a_gv (T : dw_M) (p : Nat) : Nat := nt (T.1 6 (a_so T p))
def a_kp (T : dw_M) (p : Nat) : Nat := nt (T.1 7 (a_so T p))
def a_be (T : dw_M) (q : Nat) : Nat := nt (T.1 (12 + 1 + 2 * q) 3)
def a_ho (T : dw_M) (q : Nat) : Nat := nt (T.1 (12 + 1 + 2 * q) 4)
def a_on (T : dw_M) (C q p : Nat) : Bool := anyB (fun k => decide (pp T C q k = p)) (pm T q)
def a_pr (T : dw_M) (C p q : Nat) : Bool := lat T q && a_on T C q p
def a_op (T : dw_M) (q : Nat) : Bool := decide (T.1 9 (nt (ch_in T q) - 100) ≤ fX3_levelAt T (12 + 1 + 2 * q + 1) (T.1 (12 + 1 + 2 * q + 1) 2 - 1))
/-- what the soil takes at p -/
def a_t (T : dw_M) (s w : Nat → Nat) (p : Nat) : Nat := min (min (s p + a_rn T p) (a_tk T p)) (a_kp T p - w p)
def a_s1 (T : dw_M) (s w : Nat → Nat) (p : Nat) : Nat := s p + a_rn T p - a_t T s w p
def a_w1 (T : dw_M) (s w : Nat → Nat) (p : Nat) : Nat := w p + a_t T s w p
def a_x (T : dw_M) (p q : Nat) (s : (Nat → Nat) × (Nat → Nat)) : Nat := min (s.1 p * a_gv T p / 100) (a_ho T q - s.2 q)
def a_ds (T : dw_M) (C : Nat) (ac : Nat → Bool) (p q : Nat) (s : (Nat → Nat) × (Nat → Nat)) : (Nat → Nat) × (Nat → Nat) := if (a_pr T C p q && ac q) = true then (uN s.1 p (s.1 p - a_x T p q s), uN s.2 q (s.2 q + a_x T p q s)) else s
def a_dr (T : dw_M) (C : Nat) (ac : Nat → Bool) (p : Nat) (s : (Nat → Nat) × (Nat → Nat)) : Nat → (Nat → Nat) × (Nat → Nat)
  | 0 => s
  | q + 1 => a_ds T C ac p q (a_dr T C ac p s q)
def a_D (T : dw_M) (C N : Nat) (ac : Nat → Bool) (s : (Nat → Nat) × (Nat → Nat)) : Nat → (Nat → Nat) × (Nat → Nat)
  | 0 => s
  | p + 1 => a_dr T C ac p (a_D T C N ac s p) N
def a_B (T : dw_M) (P N : Nat) (s : (Nat → Nat) × (Nat → Nat)) : Prop := (∀ p, p < P → s.1 p ≤ 1000) ∧ ∀ q, q < N → s.2 q ≤ a_ho T q
theorem a_ds_B {T : dw_M} {P N C : Nat} {ac : Nat → Bool} {p q : Nat} {s : (Nat → Nat) × (Nat → Nat)} (h : a_B T P N s) (hp : p < P) (hq : q < N) : a_B T P N (a_ds T C ac p q s) := by
  unfold a_ds
  split
  · refine ⟨fun k hk => ?_, fun k hk => ?_⟩
    · show uN s.1 p (s.1 p - a_x T p q s) k ≤ 1000
      by_cases e : k = p
      · rw [e, uN_i]
        have := h.1 p hp
        omega
      · rw [uN_o e]
        exact h.1 k hk
    · show uN s.2 q (s.2 q + a_x T p q s) k ≤ _
      by_cases e : k = q
      · rw [e, uN_i]
        have := h.2 q hq
        unfold a_x
        omega
      · rw [uN_o e]
        exact h.2 k hk
  · exact h
theorem a_dr_B {T : dw_M} {P N C : Nat} {ac : Nat → Bool} {p : Nat} {s : (Nat → Nat) × (Nat → Nat)} (h : a_B T P N s) (hp : p < P) : ∀ q, q ≤ N → a_B T P N (a_dr T C ac p s q)
  | 0, _ => h
  | q + 1, hq => a_ds_B (a_dr_B h hp q (by omega)) hp (by omega)
theorem a_D_B {T : dw_M} {P N C : Nat} {ac : Nat → Bool} {s : (Nat → Nat) × (Nat → Nat)} (h : a_B T P N s) : ∀ p, p ≤ P → a_B T P N (a_D T C N ac s p)
  | 0, _ => h
  | p + 1, hp => a_dr_B (a_D_B h p (by omega)) (by omega) N (Nat.le_refl _)
theorem a_dr_o {T : dw_M} {C : Nat} {ac : Nat → Bool} {p : Nat} {s : (Nat → Nat) × (Nat → Nat)} {k : Nat} (hk : k ≠ p) : ∀ q, (a_dr T C ac p s q).1 k = s.1 k
  | 0 => rfl
  | q + 1 => by
    show (a_ds T C ac p q (a_dr T C ac p s q)).1 k = _
    have ih := a_dr_o (T := T) (C := C) (ac := ac) (s := s) hk q
    unfold a_ds
    split
    · exact (uN_o hk).trans ih
    · exact ih
theorem a_D_o {T : dw_M} {C N : Nat} {ac : Nat → Bool} {s : (Nat → Nat) × (Nat → Nat)} {k : Nat} : ∀ p, p ≤ k → (a_D T C N ac s p).1 k = s.1 k
  | 0, _ => rfl
  | p + 1, hp => by
    show (a_dr T C ac p (a_D T C N ac s p) N).1 k = _
    rw [a_dr_o (by omega), a_D_o p (by omega)]
theorem a_D_k {T : dw_M} {C N : Nat} {ac : Nat → Bool} {s : (Nat → Nat) × (Nat → Nat)} {k p : Nat} (h : k < p) : (a_D T C N ac s (p + 1)).1 k = (a_D T C N ac s p).1 k := by
  show (a_dr T C ac p (a_D T C N ac s p) N).1 k = _
  rw [a_dr_o (by omega)]
/-- no drain of p between two numbers: nothing done between -/
theorem a_dr_same {T : dw_M} {C : Nat} {ac : Nat → Bool} {p : Nat} {s : (Nat → Nat) × (Nat → Nat)} {x : Nat} : ∀ d, fb_ct (a_pr T C p) (x + d) = fb_ct (a_pr T C p) x → a_dr T C ac p s (x + d) = a_dr T C ac p s x
  | 0, _ => rfl
  | d + 1, h => by
    have h1 := fb_ct_succ (a_pr T C p) (x + d)
    have h2 := fb_ct_mono (a_pr T C p) (show x ≤ x + d by omega)
    rw [show x + d + 1 = x + (d + 1) by omega] at h1
    have h3 : a_pr T C p (x + d) = false := by
      cases e : a_pr T C p (x + d) with
      | false => rfl
      | true => rw [e] at h1; simp at h1; omega
    rw [h3] at h1
    simp at h1
    show a_ds T C ac p (x + d) (a_dr T C ac p s (x + d)) = _
    rw [a_dr_same d (by omega)]
    unfold a_ds
    rw [h3]
    simp
theorem a_dr_eq {T : dw_M} {C : Nat} {ac : Nat → Bool} {p : Nat} {s : (Nat → Nat) × (Nat → Nat)} {x y : Nat} (h : fb_ct (a_pr T C p) x = fb_ct (a_pr T C p) y) : a_dr T C ac p s x = a_dr T C ac p s y := by
  by_cases c : x ≤ y
  · have := a_dr_same (ac := ac) (s := s) (x := x) (y - x) (by rw [show x + (y - x) = y by omega]; exact h.symm)
    rw [show x + (y - x) = y by omega] at this
    exact this.symm
  · have := a_dr_same (ac := ac) (s := s) (x := y) (x - y) (by rw [show y + (x - y) = x by omega]; exact h)
    rw [show y + (x - y) = x by omega] at this
    exact this
/-- what goes through q -/
def a_am (T : dw_M) (bk : Nat → Bool) (n : Nat → Nat) (q : Nat) : Nat := if bk q = true then 0 else if ch_in T q < 0 then 0 else if (100 : Int32) ≤ ch_in T q then (if a_op T q = true then min (a_be T q) (n q) else 0) else min (a_ho T (nt (ch_in T q)) - n (nt (ch_in T q))) (min (a_be T q) (n q))
def a_ip (T : dw_M) (q : Nat) : Bool := decide (¬ ch_in T q < 0 ∧ ¬ (100 : Int32) ≤ ch_in T q)
def a_id (T : dw_M) (q : Nat) : Bool := decide ((100 : Int32) ≤ ch_in T q)
def a_n1 (T : dw_M) (bk : Nat → Bool) (n : Nat → Nat) (q : Nat) : Nat → Nat := if a_ip T q = true then uN (uN n q (n q - a_am T bk n q)) (nt (ch_in T q)) (n (nt (ch_in T q)) + a_am T bk n q) else uN n q (n q - a_am T bk n q)
def a_g1 (T : dw_M) (bk : Nat → Bool) (n : Nat → Nat) (g : Nat → Int32) (q : Nat) : Nat → Int32 := if a_id T q = true then upd g (nt (ch_in T q) - 100) (g (nt (ch_in T q) - 100) + nI (a_am T bk n q)) else g
def a_P (T : dw_M) (bk : Nat → Bool) (o : Nat → Nat) (n : Nat → Nat) (a g : Nat → Int32) : Nat → (Nat → Nat) × (Nat → Int32) × (Nat → Int32)
  | 0 => (n, a, g)
  | t + 1 => (a_n1 T bk (a_P T bk o n a g t).1 (o t), upd (a_P T bk o n a g t).2.1 (o t) (nI (a_am T bk (a_P T bk o n a g t).1 (o t))), a_g1 T bk (a_P T bk o n a g t).1 (a_P T bk o n a g t).2.2 (o t))
theorem a_am_le {T : dw_M} {bk : Nat → Bool} {n : Nat → Nat} {q : Nat} : a_am T bk n q ≤ n q ∧ (a_ip T q = true → a_am T bk n q ≤ a_ho T (nt (ch_in T q)) - n (nt (ch_in T q))) := by
  unfold a_am a_ip
  by_cases c0 : bk q = true
  · rw [if_pos c0]; exact ⟨by omega, fun _ => by omega⟩
  rw [if_neg c0]
  by_cases c1 : ch_in T q < 0
  · rw [if_pos c1]; exact ⟨by omega, fun _ => by omega⟩
  rw [if_neg c1]
  by_cases c2 : (100 : Int32) ≤ ch_in T q
  · rw [if_pos c2]
    refine ⟨?_, fun h => ?_⟩
    · split <;> omega
    · have := of_decide_eq_true h
      exact absurd c2 this.2
  · rw [if_neg c2]
    exact ⟨by omega, fun _ => by omega⟩
theorem a_n1_B {T : dw_M} {N : Nat} {bk : Nat → Bool} {n : Nat → Nat} {q : Nat} (h : ∀ q, q < N → n q ≤ a_ho T q) (hq : q < N) : ∀ k, k < N → a_n1 T bk n q k ≤ a_ho T k := by
  intro k hk
  obtain ⟨h1, h2⟩ := a_am_le (T := T) (bk := bk) (n := n) (q := q)
  have h3 := h q hq
  unfold a_n1
  split
  · rename_i c
    have h4 := h2 c
    by_cases e : k = nt (ch_in T q)
    · rw [e, uN_i]
      rw [e] at hk
      have := h _ hk
      omega
    · rw [uN_o e]
      by_cases e2 : k = q
      · rw [e2, uN_i]; omega
      · rw [uN_o e2]; exact h k hk
  · by_cases e2 : k = q
    · rw [e2, uN_i]; omega
    · rw [uN_o e2]; exact h k hk
theorem a_P_B {T : dw_M} {N : Nat} {bk : Nat → Bool} {o n : Nat → Nat} {a g : Nat → Int32} (ho : ∀ t, t < N → o t < N) (h : ∀ q, q < N → n q ≤ a_ho T q) : ∀ t, t ≤ N → ∀ k, k < N → (a_P T bk o n a g t).1 k ≤ a_ho T k
  | 0, _, k, hk => h k hk
  | t + 1, ht, k, hk => a_n1_B (a_P_B ho h t (by omega)) (ho t (by omega)) k hk
