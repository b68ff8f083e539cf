set_option maxHeartbeats 8000000 in
set_option maxRecDepth 100000 in
theorem whole_from {G : Nat → dw_M → Prop} (hG : pq_good G) (h0 : G 0 dn_μ) {p : Program} {e : Env} {s : State} {m : MethodId} {below : List Frame} {meth : Method} {c : Code} (l : Launch) {b L : Nat} {xs : Nat → Int32} (hL : L ≤ 3072) (C1 : lw_At p s m meth c b L xs) : W p l e room_1 s m #[Value.ref b] below meth c s.heap [] 0 0 (lw_Z below #[Value.ref b] s) (entryFrame m ([Value.ref b] : List Value).toArray 4) := by
  obtain ⟨hx, hb, hr, hml, hown, hts, hX, hbl, hlocks, hgv⟩ := id C1
  have hT : ∀ w ∈ dw_TB, w.before #[Value.ref b] s = true := fun w h => hts w (List.mem_filter.mp h).1
  obtain ⟨c0, i0, hn0⟩ := u_known (C := RX0) (T := TX0) (N := 4) (n := 4) hT tw_u0 (hT _ tw_nX0)
  obtain ⟨c1, i1, hn1⟩ := u_known (C := RX1) (T := TX1) (N := 9) (n := 9) hT tw_u1 (hT _ tw_nX1)
  obtain ⟨c2, i2, hn2⟩ := u_known (C := RX2) (T := TX2) (N := 1) (n := 1) hT tw_u2 (hT _ tw_nX2)
  obtain ⟨c3, i3, hn3⟩ := u_known (C := RX3) (T := TX3) (N := 5) (n := 5) hT tw_u3 (hT _ tw_nX3)
  obtain ⟨c4, i4, hn4⟩ := u_known (C := RX4) (T := TX4) (N := 2) (n := 2) hT tw_u4 (hT _ tw_nX4)
  obtain ⟨c5, i5, hn5⟩ := u_known (C := RX5) (T := TX5) (N := 6) (n := 6) hT tw_u5 (hT _ tw_nX5)
  obtain ⟨c6, i6, hn6⟩ := u_known (C := RX6) (T := TX6) (N := 7) (n := 7) hT tw_u6 (hT _ tw_nX6)
  obtain ⟨c7, i7, hn7⟩ := u_known (C := RX7) (T := TX7) (N := 8) (n := 8) hT tw_u7 (hT _ tw_nX7)
  obtain ⟨c8, i8, hn8⟩ := u_known (C := RX8) (T := TX8) (N := 9) (n := 9) hT tw_u8 (hT _ tw_nX8)
  obtain ⟨c9, i9, hn9⟩ := u_known (C := RX9) (T := TX9) (N := 6) (n := 6) hT tw_u9 (hT _ tw_nX9)
  obtain ⟨c10, i10, hn10⟩ := u_known (C := RX10) (T := TX10) (N := 7) (n := 7) hT tw_u10 (hT _ tw_nX10)
  obtain ⟨dC, dI, hKc⟩ : ∃ (dC : Nat → ClassId) (dI : Nat → Nat → Nat), ∀ (k : Nat) (q : vw_C), vwCl[k]? = some q → u_Kn s q.1 q.2.1 q.2.2 (dC k) (dI k) := by
    refine ⟨fun k => if k = 0 then c0 else if k = 1 then c1 else if k = 2 then c2 else if k = 3 then c3 else if k = 4 then c4 else if k = 5 then c5 else if k = 6 then c6 else if k = 7 then c7 else if k = 8 then c8 else if k = 9 then c9 else c10, fun k => if k = 0 then i0 else if k = 1 then i1 else if k = 2 then i2 else if k = 3 then i3 else if k = 4 then i4 else if k = 5 then i5 else if k = 6 then i6 else if k = 7 then i7 else if k = 8 then i8 else if k = 9 then i9 else i10, ?_⟩
    intro k q hq
    match k, hq with
    | 0, hq => cases hq; exact hn0
    | 1, hq => cases hq; exact hn1
    | 2, hq => cases hq; exact hn2
    | 3, hq => cases hq; exact hn3
    | 4, hq => cases hq; exact hn4
    | 5, hq => cases hq; exact hn5
    | 6, hq => cases hq; exact hn6
    | 7, hq => cases hq; exact hn7
    | 8, hq => cases hq; exact hn8
    | 9, hq => cases hq; exact hn9
    | 10, hq => cases hq; exact hn10
    | k + 11, hq => simp [vwCl] at hq
  obtain ⟨cI, kI, coI, fI1, fI2, fI3⟩ := Cond.arrayClass_spec (hT _ tw_ac)
  have hover : (Cond.arrayOver (.object RX5)).before #[Value.ref b] s = true := hts _ (by decide +kernel)
  obtain ⟨coP, cP, kP, fP1, fP2, fP3, fP4, fP5⟩ := Cond.arrayOver_spec hover
  obtain ⟨Γ, eΓ⟩ : ∃ Γ : dw_G, Γ = ((dC, dI), cI, cP, fun t => s.heap.size + t) := ⟨_, rfl⟩
  have hj : dn_ad Γ s.heap.size := fun t => by rw [eΓ]
  have hK : dn_K Γ s := by
    refine ⟨⟨⟨?_, fun k q hq => ?_⟩, fun q hq => ?_⟩, va_AO.of hover⟩
    · rw [eΓ]
      exact hKc
    · rw [eΓ] at hq
      match k, hq with
      | 0, hq =>
        cases hq
        exact ⟨fun N z => ⟨fun k h => (by cases h), kI, fI2, coI, fI3⟩, fI1⟩
      | 1, hq =>
        cases hq
        exact ⟨fun N z => ⟨fun k h => (by cases h), kP, fP3, coP, fP4⟩, kP, coP, fP3, fP4, fP1, fP5⟩
      | k + 2, hq => simp [dw_tys] at hq
    · have hall : ∀ q ∈ dw_nest, Cond.methodLinkNest q.1 q.2.1 q.2.2.1 q.2.2.2 ∈ lw_tbl := by decide +kernel
      exact va_Nw.of rfl (hts _ (hall q hq))
  have C0 : dn_C Γ s.heap.size p s m #[Value.ref b] meth c cL_law 4 RL := ⟨hx, hb, hml, hown, hT, hK, hj⟩
  have hl := lv_entry ([.ref b]) (n := 4) (Nat.le_of_ble_eq_true rfl)
  rw [lg_entry_eq]
  generalize (lg_sl ([.ref b]) ++ List.replicate (4 - (lg_sl ([.ref b])).length) Slot.unset).toArray = ls at hl ⊢
  have hl : lv_has ls 4 [(0, .ref b)] := hl
  obtain ⟨E, eE⟩ : ∃ E : Nat → va_E, E = fun _ => dn_F Γ 0 := ⟨_, rfl⟩
  have hP : va_P Γ.1 vwCl (dn_wl Γ E 0) s.heap := fun k q h => by simp [dn_wl] at h
  refine dn_new (n := 0) (ci := 9) C0 hP rfl va_S.rf tyX9 tw_u9 tyX9_ok tw_cL_7 tw_nX9 tw_iX9 rfl (fs := [.null, .null, .int 0, .null, .null, .null]) (fun j hj => by rcases (show j = 0 ∨ j = 1 ∨ j = 2 ∨ j = 3 ∨ j = 4 ∨ j = 5 by omega) with rfl | rfl | rfl | rfl | rfl | rfl <;> rfl) (by decide) (by decide) dL_law_0 (fun H hP hz S => ?_)
  refine W.widen (k := 1) (n := 6) (by decide) (by decide) ?_
  refine lv_dup hx hb dL_law_3 rfl ?_
  have hB : dn_B Γ s.heap.size E 0 (.inr (9, [.null, .null, .int 0, .null, .null, .null])) 1 H := ⟨_, hP, hz, by decide, fun t ht => absurd ht (Nat.not_lt_zero t), by simp [va_up], fun t h1 h2 => by omega⟩
  refine va_callv (va_runI (As := []) (rest := [.ref (dw_ad Γ 0)]) ⟨hx, hb, hml, hown, hT⟩ (nX9_init l Γ hj dw_kc0 E) (cwI 0 hT (dw_gw tw_kX9_init) rfl rfl rfl (hT _ tw_iX9) (hT _ tw_lL_9) (hT _ tw_vX9_init) rfl dw_hX9_init ⟨by decide, by decide⟩) ⟨dn_P.blind, fun U hU hW => ⟨rfl, by rw [hU]; exact hB, hK.warm hW⟩⟩ rfl rfl hl.1 rfl (lv_room (Nat.le_of_ble_eq_true rfl)) dL_law_4 ⟨by decide, by decide⟩) S (fun q _ h => h) (fun q h => h) (fun u t H locs ht hvm hw hB2 hz1 hk1 S => ?_)
  rw [ht] at hB2
  refine W.widen (k := 142) (n := 2090) (by decide) (by decide) ?_
  refine lv_astore_n (lv' := [(1, .ref (dw_ad Γ 0)), (0, .ref b)]) hx hb dL_law_7 rfl hl (by decide) rfl (fun ls hl => ?_)
  obtain ⟨E1, hP, hz, hin1, hlo, he, hd⟩ := hB2
  have hE1 : ∀ t, t < 142 → E1 t = dn_F Γ t := fun t ht => by
    rcases Nat.eq_zero_or_pos t with q | q
    · rw [q]; exact he
    · exact hd t q (by omega)
  refine dn_new (n := 142) (ci := 10) C0 hP hz S tyX10 tw_u10 tyX10_ok tw_cL_10 tw_nX10 tw_iX10 rfl (fs := [.null, .null, .null, .int 0, .null, .null, .int 0]) (fun j hj => by rcases (show j = 0 ∨ j = 1 ∨ j = 2 ∨ j = 3 ∨ j = 4 ∨ j = 5 ∨ j = 6 by omega) with rfl | rfl | rfl | rfl | rfl | rfl | rfl <;> rfl) (by decide) (by decide) dL_law_8 (fun H hP hz S => ?_)
  refine W.widen (k := 143) (n := 2097) (by decide) (by decide) ?_
  refine lv_dup hx hb dL_law_11 rfl ?_
  have hB : dn_B Γ s.heap.size E1 142 (.inr (10, [.null, .null, .null, .int 0, .null, .null, .int 0])) 143 H := ⟨_, hP, hz, by decide, fun t ht => by simp [va_up, Nat.ne_of_lt ht], by simp [va_up], fun t h1 h2 => by omega⟩
  refine va_callv (va_runI (As := []) (rest := [.ref (dw_ad Γ 142)]) ⟨hx, hb, hml, hown, hT⟩ (nX10_init l Γ hj rfl E1 hE1) (cwI 0 hT (dw_gw tw_kX10_init) rfl rfl rfl (hT _ tw_iX10) (hT _ tw_lL_12) (hT _ tw_vX10_init) rfl dw_hX10_init ⟨by decide, by decide⟩) ⟨dn_P.blind, fun U hU hW => ⟨rfl, by rw [hU]; exact hB, hK.warm hW⟩⟩ rfl rfl hl.1 rfl (lv_room (Nat.le_of_ble_eq_true rfl)) dL_law_12 ⟨by decide, by decide⟩) S (fun q _ h => h) (fun q h => h) (fun u t H locs ht hvm hw hB2 hz1 hk1 S => ?_)
  have hP2 : va_P Γ.1 vwCl (dw_wl Γ dn_μ) t.heap := hB2
  rw [ht] at hP2
  refine W.widen (k := 148) (n := 4569) (by decide) (by decide) ?_
  refine lv_astore_n (lv' := [(2, .ref (dw_ad Γ 142)), (1, .ref (dw_ad Γ 0)), (0, .ref b)]) hx hb dL_law_15 rfl hl (by decide) rfl (fun ls hl => ?_)
  refine lv_iconst (v := (0 : Int32)) hx hb dL_law_16 (by decide) ?_
  refine lv_istore_n (lv' := [(3, .int (0 : Int32)), (2, .ref (dw_ad Γ 142)), (1, .ref (dw_ad Γ 0)), (0, .ref b)]) hx hb dL_law_17 rfl hl (by decide) rfl (fun ls hl => ?_)
  have C2 : dw_C Γ p s m #[Value.ref b] meth c cL_law 4 RL := ⟨hx, hb, hml, hown, hT, hK.1, dn_inj hj⟩
  exact law_loop hG hL C1 C2 hj (L + 1) 0 0 dn_μ H locs ls (by omega) (by omega) nI_0.symm h0 ⟨hP2, S⟩ (lv_sub hl [3, 2, 1, 0] rfl)
