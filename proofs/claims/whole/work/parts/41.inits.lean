section DNG
variable {p : Program} {l : Launch} {e : Env} {R : Room} {s : State} {m : MethodId} {args : Array Value} {below : List Frame} {meth : Method} {c : Code} {H : Heap} {locs : List Loc} {cells slots : Nat} {Q : State → Prop}
variable {cc : ByteArray} {pc nL : Nat} {ls : Array Slot} {rest : List Value} {Γ : dw_G} {H0 : Heap} {own : String} {b i n : Nat} {E : Nat → va_E}
theorem dn_putG (C0 : dn_C Γ b p s m args meth c cc nL own) (hin2 : meth.name = "<init>") {ci N : Nat} {fs : List Value} (hP : va_P Γ.1 vwCl (dn_wl Γ E n) H) (hz : H.size = b + n) (S : va_S (fun q => b ≤ q) H0 H locs) (hin1 : i < n) (he : E i = .inr (ci, fs)) {C : String} {T : u_T} {ty0 : Nat → FieldType} (hc : vwCl[ci]? = some (C, T, N)) (hin : ∀ w ∈ u_ws C T N, w ∈ dw_TB) (hty : ∀ k, k < N → parseFieldDescriptor (T k).2.2.1 = some (ty0 k)) (hnm : ∀ a, a < N → ∀ b, b < N → a ≠ b → (T a).2.1 ≠ (T b).2.1) (k : Nat) (hk : k < N) {index : Nat} {ref : String} (hlink : Cond.fieldLink own index ref (T k).2.1 (T k).2.2.1 ∈ dw_TB) (hsame : (T k).1 = ref) (hdecl : (T k).1 = own) (hfin : (T k).2.2.2 = true) {v : Value} (hn : narrow (ty0 k) v = v) (hfit : fits (ty0 k) v = true) (hl : k < fs.length) (hdg : decode cc pc = .ok (.putfield index, 3))
    (kk : ∀ (H1 : Heap) (locs1 : List Loc), va_P Γ.1 vwCl (dn_wl Γ (va_up E i (.inr (ci, fs.set k v))) n) H1 → H1.size = b + n → va_S (fun q => b ≤ q) H0 H1 locs1 → W p l e R s m args below meth c H1 locs1 cells slots Q (F0 m (pc + 3) ls rest)) : W p l e R s m args below meth c H locs cells slots Q (F0 m pc ls (v :: .ref (dw_ad Γ i) :: rest)) := by
  obtain ⟨hx, hb, hml, hown, hT, hK, hj⟩ := C0
  have hD : va_D (fun q => b ≤ q) (dn_wl Γ E n) := dn_D hj E n
  have hap := va_apart (own := own) hT hin ty0 hty hnm hK.1.1 hc
  have heq : (dn_wl Γ E n)[i]? = some (dw_ad Γ i, .inr (ci, fs)) := by rw [dn_at hin1, he]
  obtain ⟨r, h1, cell, q1, q2, q3, q4⟩ := hP i _ heq
  have hr : r = (C, T, N) := Option.some.inj (h1.symm.trans hc)
  subst hr
  obtain ⟨hS, hfc, kC, hkC, hkind⟩ := hK.1.1.1 ci _ hc
  obtain ⟨cf, kf, fi, f, hi, hsl⟩ := hS k hk
  have hlay := hT _ (hin _ (u_in_lay hk))
  unfold u_lay at hlay
  rw [if_pos hfin] at hlay
  have hst := (u_facts hfc hkC (u_lays hT hin hk) hi).1
  have hcf : m.cls = cf := by
    obtain ⟨_, _, c', _, _, _, -, -, hf', -, -, -, hown2, -⟩ := Cond.laysFinal_spec hlay
    have e1 : c' = cf := by have := hi.symm.trans hf'; simp at this; exact this.1.symm
    rw [hdecl] at hown2
    rw [← e1]; exact Option.some.inj (hown.symm.trans hown2)
  have h6 := u_fits hfc hkC hkind (Or.inr hlay) hi (hty k hk) hn hfit
  refine W.putFinK hx hb hown (hT _ hlink) (by rw [← hsame]; exact hi) hst hcf hin2 (by rw [q2]; exact h6) q1 q3 (by rw [hsl]; exact k2_hasslot (q4 k hk)) rfl rfl hdg fun H' e1 e2 e3 => ?_
  rw [hsl] at e1 ⊢
  have hP1 := hP.set hD heq (e := .inr (ci, fs.set k v)) (H1 := H') ⟨_, hc, t_OB.to (V := updV (vp_V fs) k v) ⟨_, e1, q2, q3, t_set q4 hap hk v⟩ (fun j _ => vp_updV_set hl v j)⟩ e3
  rw [dn_set _ hin1] at hP1
  exact kk H' _ hP1 (by rw [e2]; exact hz) (S.put e2 e3 (hD.2 i _ heq))
end DNG
theorem dn_F11 {Γ : dw_G} {t N : Nat} (h : dw_kd t = 11) (hl : dw_ln t = N) : dn_F Γ t = .inl (Γ.2.1, N, .inl (fun _ => 0)) := by
  have e : dn_m.1 t = fun _ => 0 := by
    funext k
    simp [dn_m, h]
  unfold dn_F
  rw [dw_cz11 h, hl, e]
theorem dw_hX2_init : yX2_init.cls ≠ "java/lang/invoke/MethodHandle" ∧ yX2_init.cls ≠ "java/lang/invoke/VarHandle" ∧ (parseMethodDescriptor yX2_init.desc).map (fun d => d.parameters.length) = some 0 := by decide +kernel
set_option maxHeartbeats 4000000 in
set_option maxRecDepth 100000 in
theorem nX2_init (l : Launch) (Γ : dw_G) {b : Nat} (hj : dn_ad Γ b) {i : Nat} (hk : dw_kd i = 2) (E0 : Nat → va_E) : Met l yX2_init (dw_ws yX2_init cX2_init 1 none) (dn_rm 1 0 0 12) (dn_P Γ b E0 i (.inr (2, [.long 0]))) (dn_Q Γ b E0 i (i + 1) (dn_F Γ i)) 0 0 (fun q => b ≤ q) := by
  refine dn_met (own := RX2) rfl rfl rfl (by decide) hj ?_
  intro p e s m below meth c C0 hr hlk hin H locs B S ls hl
  have hx := C0.1
  have hb := C0.2.1
  refine lv_aload_n hx hb dX2_init_0 rfl (lv_at hl 0 rfl) ?_
  refine dn_obj C0 hl.1 tw_lX2_1 dX2_init_1 (Nat.le_of_ble_eq_true rfl) (Nat.le_of_ble_eq_true rfl) ?_
  have B : dn_B Γ b E0 i (dn_F Γ i) (i + 1) H := by
    have ee : dn_F Γ i = .inr (2, [.long 0]) := by
      unfold dn_F
      rw [dw_cz2 hk]
      simp [dw_f2, dn_m, hk]
    rw [ee]
    exact B
  exact dn_vret C0 B S hr hlk dX2_init_4
theorem dw_hX3_init : yX3_init.cls ≠ "java/lang/invoke/MethodHandle" ∧ yX3_init.cls ≠ "java/lang/invoke/VarHandle" ∧ (parseMethodDescriptor yX3_init.desc).map (fun d => d.parameters.length) = some 0 := by decide +kernel
set_option maxHeartbeats 4000000 in
set_option maxRecDepth 100000 in
theorem nX3_init (l : Launch) (Γ : dw_G) {b : Nat} (hj : dn_ad Γ b) {i : Nat} (hk : dw_kd i = 3) (E0 : Nat → va_E) : Met l yX3_init (dw_ws yX3_init cX3_init 1 none) (dn_rm 1 0 0 12) (dn_P Γ b E0 i (.inr (3, [.int 0, .int 0, .int 0, .int 0, .int 0]))) (dn_Q Γ b E0 i (i + 1) (dn_F Γ i)) 0 0 (fun q => b ≤ q) := by
  refine dn_met (own := RX3) rfl rfl rfl (by decide) hj ?_
  intro p e s m below meth c C0 hr hlk hin H locs B S ls hl
  have hx := C0.1
  have hb := C0.2.1
  refine lv_aload_n hx hb dX3_init_0 rfl (lv_at hl 0 rfl) ?_
  refine dn_obj C0 hl.1 tw_lX3_1 dX3_init_1 (Nat.le_of_ble_eq_true rfl) (Nat.le_of_ble_eq_true rfl) ?_
  have B : dn_B Γ b E0 i (dn_F Γ i) (i + 1) H := by
    have ee : dn_F Γ i = .inr (3, [.int 0, .int 0, .int 0, .int 0, .int 0]) := by
      unfold dn_F
      rw [dw_cz3 hk]
      simp [dw_f3, dn_m, hk]
    rw [ee]
    exact B
  exact dn_vret C0 B S hr hlk dX3_init_4
theorem dw_hX5_init : yX5_init.cls ≠ "java/lang/invoke/MethodHandle" ∧ yX5_init.cls ≠ "java/lang/invoke/VarHandle" ∧ (parseMethodDescriptor yX5_init.desc).map (fun d => d.parameters.length) = some 0 := by decide +kernel
set_option maxHeartbeats 4000000 in
set_option maxRecDepth 100000 in
theorem nX5_init (l : Launch) (Γ : dw_G) {b : Nat} (hj : dn_ad Γ b) {i : Nat} (hk : dw_kd i = 5) (E0 : Nat → va_E) : Met l yX5_init (dw_ws yX5_init cX5_init 1 none) (dn_rm 2 1 5 32) (dn_P Γ b E0 i (.inr (5, [.null, .int 0, .int 0, .int 0, .int 0, .int 0]))) (dn_Q Γ b E0 i (i + 2) (dn_F Γ i)) 1 5 (fun q => b ≤ q) := by
  refine dn_met (own := RX5) rfl rfl rfl (by decide) hj ?_
  intro p e s m below meth c C0 hr hlk hin H locs B S ls hl
  have hx := C0.1
  have hb := C0.2.1
  refine lv_aload_n hx hb dX5_init_0 rfl (lv_at hl 0 rfl) ?_
  refine dn_obj C0 hl.1 tw_lX5_3 dX5_init_1 (Nat.le_of_ble_eq_true rfl) (Nat.le_of_ble_eq_true rfl) ?_
  refine lv_aload_n hx hb dX5_init_4 rfl (lv_at hl 0 rfl) ?_
  refine dn_subN (host := RX9) C0 B S tyX3 tw_u3 tyX3_ok tw_cX5_9 tw_nX3 tw_iX3 rfl (fs := [.int 0, .int 0, .int 0, .int 0, .int 0]) (fun j hj => by rcases (show j = 0 ∨ j = 1 ∨ j = 2 ∨ j = 3 ∨ j = 4 by omega) with rfl | rfl | rfl | rfl | rfl <;> rfl) (size := 1) (fun E1 => nX3_init l Γ hj (dw_r5_0 hk) E1) (by decide) (by decide +kernel) tw_kX3_init tw_iX3 tw_vX3_init rfl dw_hX3_init ⟨Nat.le_of_ble_eq_true rfl, Nat.le_of_ble_eq_true rfl⟩ ⟨Nat.le_of_ble_eq_true rfl, Nat.le_of_ble_eq_true rfl⟩ hl.1 (Nat.le_of_ble_eq_true rfl) dX5_init_5 dX5_init_8 dX5_init_9 (fun H locs B S => ?_)
  refine W.widen (k := 1) (n := 5) (by decide) (by decide) ?_
  have B : dn_B Γ b E0 i (.inr (5, [.null, .int 0, .int 0, .int 0, .int 0, .int 0])) (i + 2) H := B
  refine dn_putF C0 hin B S rfl tw_u5 tyX5_ok nmX5 0 (by decide) tw_fX5_12 rfl rfl rfl rfl rfl (Nat.le_of_ble_eq_true rfl) dX5_init_12 (fun H locs B S => ?_)
  have B : dn_B Γ b E0 i (.inr (5, [.ref (dw_ad Γ (i + 1)), .int 0, .int 0, .int 0, .int 0, .int 0])) (i + 2) H := B
  have B : dn_B Γ b E0 i (dn_F Γ i) (i + 2) H := by
    have ee : dn_F Γ i = .inr (5, [.ref (dw_ad Γ (i + 1)), .int 0, .int 0, .int 0, .int 0, .int 0]) := by
      unfold dn_F
      rw [dw_cz5 hk]
      simp [dw_f5, dn_m, hk]
    rw [ee]
    exact B
  exact dn_vret C0 B S hr hlk dX5_init_15
theorem dw_hX1_init : yX1_init.cls ≠ "java/lang/invoke/MethodHandle" ∧ yX1_init.cls ≠ "java/lang/invoke/VarHandle" ∧ (parseMethodDescriptor yX1_init.desc).map (fun d => d.parameters.length) = some 0 := by decide +kernel
set_option maxHeartbeats 4000000 in
set_option maxRecDepth 100000 in
theorem nX1_init (l : Launch) (Γ : dw_G) {b : Nat} (hj : dn_ad Γ b) {i : Nat} (hk : dw_kd i = 1) (E0 : Nat → va_E) : Met l yX1_init (dw_ws yX1_init cX1_init 1 none) (dn_rm 1 7 92 12) (dn_P Γ b E0 i (.inr (1, [.int 0, .int 0, .null, .null, .null, .null, .null, .null, .null]))) (dn_Q Γ b E0 i (i + 8) (dn_F Γ i)) 7 92 (fun q => b ≤ q) := by
  refine dn_met (own := RX1) rfl rfl rfl (by decide) hj ?_
  intro p e s m below meth c C0 hr hlk hin H locs B S ls hl
  have hx := C0.1
  have hb := C0.2.1
  refine lv_aload_n hx hb dX1_init_0 rfl (lv_at hl 0 rfl) ?_
  refine dn_obj C0 hl.1 tw_lX1_3 dX1_init_1 (Nat.le_of_ble_eq_true rfl) (Nat.le_of_ble_eq_true rfl) ?_
  refine lv_aload_n hx hb dX1_init_4 rfl (lv_at hl 0 rfl) ?_
  refine lv_bipush (v := (36 : Int32)) hx hb dX1_init_5 (by decide) ?_
  refine dn_arr C0 B S (N := 36) (by decide) (by decide) (by decide) (dn_F11 (dw_r1_2 hk) (dw_n1_2 hk)) (Nat.le_of_ble_eq_true rfl) (Nat.le_of_ble_eq_true rfl) dX1_init_7 (fun H B S => ?_)
  refine W.widen (k := 1) (n := 36) (by decide) (by decide) ?_
  have B : dn_B Γ b E0 i (.inr (1, [.int 0, .int 0, .null, .null, .null, .null, .null, .null, .null])) (i + 2) H := B
  refine dn_putF C0 hin B S rfl tw_u1 tyX1_ok nmX1 2 (by decide) tw_fX1_9 rfl rfl rfl rfl rfl (Nat.le_of_ble_eq_true rfl) dX1_init_9 (fun H locs B S => ?_)
  have B : dn_B Γ b E0 i (.inr (1, [.int 0, .int 0, .ref (dw_ad Γ (i + 1)), .null, .null, .null, .null, .null, .null])) (i + 2) H := B
  refine lv_aload_n hx hb dX1_init_12 rfl (lv_at hl 0 rfl) ?_
  refine lv_bipush (v := (36 : Int32)) hx hb dX1_init_13 (by decide) ?_
  refine dn_arr C0 B S (N := 36) (by decide) (by decide) (by decide) (dn_F11 (dw_r1_3 hk) (dw_n1_3 hk)) (Nat.le_of_ble_eq_true rfl) (Nat.le_of_ble_eq_true rfl) dX1_init_15 (fun H B S => ?_)
  refine W.widen (k := 2) (n := 72) (by decide) (by decide) ?_
  have B : dn_B Γ b E0 i (.inr (1, [.int 0, .int 0, .ref (dw_ad Γ (i + 1)), .null, .null, .null, .null, .null, .null])) (i + 3) H := B
  refine dn_putF C0 hin B S rfl tw_u1 tyX1_ok nmX1 3 (by decide) tw_fX1_15 rfl rfl rfl rfl rfl (Nat.le_of_ble_eq_true rfl) dX1_init_17 (fun H locs B S => ?_)
  have B : dn_B Γ b E0 i (.inr (1, [.int 0, .int 0, .ref (dw_ad Γ (i + 1)), .ref (dw_ad Γ (i + 2)), .null, .null, .null, .null, .null])) (i + 3) H := B
  refine lv_aload_n hx hb dX1_init_20 rfl (lv_at hl 0 rfl) ?_
  refine lv_iconst (v := (4 : Int32)) hx hb dX1_init_21 (by decide) ?_
  refine dn_arr C0 B S (N := 4) (by decide) (by decide) (by decide) (dn_F11 (dw_r1_4 hk) (dw_n1_4 hk)) (Nat.le_of_ble_eq_true rfl) (Nat.le_of_ble_eq_true rfl) dX1_init_22 (fun H B S => ?_)
  refine W.widen (k := 3) (n := 76) (by decide) (by decide) ?_
  have B : dn_B Γ b E0 i (.inr (1, [.int 0, .int 0, .ref (dw_ad Γ (i + 1)), .ref (dw_ad Γ (i + 2)), .null, .null, .null, .null, .null])) (i + 4) H := B
  refine dn_putF C0 hin B S rfl tw_u1 tyX1_ok nmX1 4 (by decide) tw_fX1_18 rfl rfl rfl rfl rfl (Nat.le_of_ble_eq_true rfl) dX1_init_24 (fun H locs B S => ?_)
  have B : dn_B Γ b E0 i (.inr (1, [.int 0, .int 0, .ref (dw_ad Γ (i + 1)), .ref (dw_ad Γ (i + 2)), .ref (dw_ad Γ (i + 3)), .null, .null, .null, .null])) (i + 4) H := B
  refine lv_aload_n hx hb dX1_init_27 rfl (lv_at hl 0 rfl) ?_
  refine lv_iconst (v := (4 : Int32)) hx hb dX1_init_28 (by decide) ?_
  refine dn_arr C0 B S (N := 4) (by decide) (by decide) (by decide) (dn_F11 (dw_r1_5 hk) (dw_n1_5 hk)) (Nat.le_of_ble_eq_true rfl) (Nat.le_of_ble_eq_true rfl) dX1_init_29 (fun H B S => ?_)
  refine W.widen (k := 4) (n := 80) (by decide) (by decide) ?_
  have B : dn_B Γ b E0 i (.inr (1, [.int 0, .int 0, .ref (dw_ad Γ (i + 1)), .ref (dw_ad Γ (i + 2)), .ref (dw_ad Γ (i + 3)), .null, .null, .null, .null])) (i + 5) H := B
  refine dn_putF C0 hin B S rfl tw_u1 tyX1_ok nmX1 5 (by decide) tw_fX1_21 rfl rfl rfl rfl rfl (Nat.le_of_ble_eq_true rfl) dX1_init_31 (fun H locs B S => ?_)
  have B : dn_B Γ b E0 i (.inr (1, [.int 0, .int 0, .ref (dw_ad Γ (i + 1)), .ref (dw_ad Γ (i + 2)), .ref (dw_ad Γ (i + 3)), .ref (dw_ad Γ (i + 4)), .null, .null, .null])) (i + 5) H := B
  refine lv_aload_n hx hb dX1_init_34 rfl (lv_at hl 0 rfl) ?_
  refine lv_iconst (v := (4 : Int32)) hx hb dX1_init_35 (by decide) ?_
  refine dn_arr C0 B S (N := 4) (by decide) (by decide) (by decide) (dn_F11 (dw_r1_6 hk) (dw_n1_6 hk)) (Nat.le_of_ble_eq_true rfl) (Nat.le_of_ble_eq_true rfl) dX1_init_36 (fun H B S => ?_)
  refine W.widen (k := 5) (n := 84) (by decide) (by decide) ?_
  have B : dn_B Γ b E0 i (.inr (1, [.int 0, .int 0, .ref (dw_ad Γ (i + 1)), .ref (dw_ad Γ (i + 2)), .ref (dw_ad Γ (i + 3)), .ref (dw_ad Γ (i + 4)), .null, .null, .null])) (i + 6) H := B
  refine dn_putF C0 hin B S rfl tw_u1 tyX1_ok nmX1 6 (by decide) tw_fX1_24 rfl rfl rfl rfl rfl (Nat.le_of_ble_eq_true rfl) dX1_init_38 (fun H locs B S => ?_)
  have B : dn_B Γ b E0 i (.inr (1, [.int 0, .int 0, .ref (dw_ad Γ (i + 1)), .ref (dw_ad Γ (i + 2)), .ref (dw_ad Γ (i + 3)), .ref (dw_ad Γ (i + 4)), .ref (dw_ad Γ (i + 5)), .null, .null])) (i + 6) H := B
  refine lv_aload_n hx hb dX1_init_41 rfl (lv_at hl 0 rfl) ?_
  refine lv_iconst (v := (4 : Int32)) hx hb dX1_init_42 (by decide) ?_
  refine dn_arr C0 B S (N := 4) (by decide) (by decide) (by decide) (dn_F11 (dw_r1_7 hk) (dw_n1_7 hk)) (Nat.le_of_ble_eq_true rfl) (Nat.le_of_ble_eq_true rfl) dX1_init_43 (fun H B S => ?_)
  refine W.widen (k := 6) (n := 88) (by decide) (by decide) ?_
  have B : dn_B Γ b E0 i (.inr (1, [.int 0, .int 0, .ref (dw_ad Γ (i + 1)), .ref (dw_ad Γ (i + 2)), .ref (dw_ad Γ (i + 3)), .ref (dw_ad Γ (i + 4)), .ref (dw_ad Γ (i + 5)), .null, .null])) (i + 7) H := B
  refine dn_putF C0 hin B S rfl tw_u1 tyX1_ok nmX1 7 (by decide) tw_fX1_27 rfl rfl rfl rfl rfl (Nat.le_of_ble_eq_true rfl) dX1_init_45 (fun H locs B S => ?_)
  have B : dn_B Γ b E0 i (.inr (1, [.int 0, .int 0, .ref (dw_ad Γ (i + 1)), .ref (dw_ad Γ (i + 2)), .ref (dw_ad Γ (i + 3)), .ref (dw_ad Γ (i + 4)), .ref (dw_ad Γ (i + 5)), .ref (dw_ad Γ (i + 6)), .null])) (i + 7) H := B
  refine lv_aload_n hx hb dX1_init_48 rfl (lv_at hl 0 rfl) ?_
  refine lv_iconst (v := (4 : Int32)) hx hb dX1_init_49 (by decide) ?_
  refine dn_arr C0 B S (N := 4) (by decide) (by decide) (by decide) (dn_F11 (dw_r1_8 hk) (dw_n1_8 hk)) (Nat.le_of_ble_eq_true rfl) (Nat.le_of_ble_eq_true rfl) dX1_init_50 (fun H B S => ?_)
  refine W.widen (k := 7) (n := 92) (by decide) (by decide) ?_
  have B : dn_B Γ b E0 i (.inr (1, [.int 0, .int 0, .ref (dw_ad Γ (i + 1)), .ref (dw_ad Γ (i + 2)), .ref (dw_ad Γ (i + 3)), .ref (dw_ad Γ (i + 4)), .ref (dw_ad Γ (i + 5)), .ref (dw_ad Γ (i + 6)), .null])) (i + 8) H := B
  refine dn_putF C0 hin B S rfl tw_u1 tyX1_ok nmX1 8 (by decide) tw_fX1_30 rfl rfl rfl rfl rfl (Nat.le_of_ble_eq_true rfl) dX1_init_52 (fun H locs B S => ?_)
  have B : dn_B Γ b E0 i (.inr (1, [.int 0, .int 0, .ref (dw_ad Γ (i + 1)), .ref (dw_ad Γ (i + 2)), .ref (dw_ad Γ (i + 3)), .ref (dw_ad Γ (i + 4)), .ref (dw_ad Γ (i + 5)), .ref (dw_ad Γ (i + 6)), .ref (dw_ad Γ (i + 7))])) (i + 8) H := B
  refine lv_aload_n hx hb dX1_init_55 rfl (lv_at hl 0 rfl) ?_
  refine lv_iconst (v := (1 : Int32)) hx hb dX1_init_56 (by decide) ?_
  refine dn_putI C0 B S rfl tw_u1 tyX1_ok nmX1 0 (by decide) tw_fX1_33 rfl rfl rfl rfl (Nat.le_of_ble_eq_true rfl) dX1_init_57 (fun H locs B S => ?_)
  have B : dn_B Γ b E0 i (.inr (1, [.int 1, .int 0, .ref (dw_ad Γ (i + 1)), .ref (dw_ad Γ (i + 2)), .ref (dw_ad Γ (i + 3)), .ref (dw_ad Γ (i + 4)), .ref (dw_ad Γ (i + 5)), .ref (dw_ad Γ (i + 6)), .ref (dw_ad Γ (i + 7))])) (i + 8) H := B
  refine lv_aload_n hx hb dX1_init_60 rfl (lv_at hl 0 rfl) ?_
  refine lv_iconst (v := (1 : Int32)) hx hb dX1_init_61 (by decide) ?_
  refine dn_putI C0 B S rfl tw_u1 tyX1_ok nmX1 1 (by decide) tw_fX1_37 rfl rfl rfl rfl (Nat.le_of_ble_eq_true rfl) dX1_init_62 (fun H locs B S => ?_)
  have B : dn_B Γ b E0 i (.inr (1, [.int 1, .int 1, .ref (dw_ad Γ (i + 1)), .ref (dw_ad Γ (i + 2)), .ref (dw_ad Γ (i + 3)), .ref (dw_ad Γ (i + 4)), .ref (dw_ad Γ (i + 5)), .ref (dw_ad Γ (i + 6)), .ref (dw_ad Γ (i + 7))])) (i + 8) H := B
  have B : dn_B Γ b E0 i (dn_F Γ i) (i + 8) H := by
    have ee : dn_F Γ i = .inr (1, [.int 1, .int 1, .ref (dw_ad Γ (i + 1)), .ref (dw_ad Γ (i + 2)), .ref (dw_ad Γ (i + 3)), .ref (dw_ad Γ (i + 4)), .ref (dw_ad Γ (i + 5)), .ref (dw_ad Γ (i + 6)), .ref (dw_ad Γ (i + 7))]) := by
      unfold dn_F
      rw [dw_cz1 hk]
      simp [dw_f1, dn_m, hk]
    rw [ee]
    exact B
  exact dn_vret C0 B S hr hlk dX1_init_65
theorem dw_hX8_init : yX8_init.cls ≠ "java/lang/invoke/MethodHandle" ∧ yX8_init.cls ≠ "java/lang/invoke/VarHandle" ∧ (parseMethodDescriptor yX8_init.desc).map (fun d => d.parameters.length) = some 0 := by decide +kernel
set_option maxHeartbeats 4000000 in
set_option maxRecDepth 100000 in
theorem nX8_init (l : Launch) (Γ : dw_G) {b : Nat} (hj : dn_ad Γ b) {i : Nat} (hk : dw_kd i = 8) (E0 : Nat → va_E) : Met l yX8_init (dw_ws yX8_init cX8_init 1 none) (dn_rm 2 7 137 32) (dn_P Γ b E0 i (.inr (8, [.null, .null, .null, .null, .null, .null, .null, .int 0, .int 0]))) (dn_Q Γ b E0 i (i + 8) (dn_F Γ i)) 7 137 (fun q => b ≤ q) := by
  refine dn_met (own := RX8) rfl rfl rfl (by decide) hj ?_
  intro p e s m below meth c C0 hr hlk hin H locs B S ls hl
  have hx := C0.1
  have hb := C0.2.1
  refine lv_aload_n hx hb dX8_init_0 rfl (lv_at hl 0 rfl) ?_
  refine dn_obj C0 hl.1 tw_lX8_3 dX8_init_1 (Nat.le_of_ble_eq_true rfl) (Nat.le_of_ble_eq_true rfl) ?_
  refine lv_aload_n hx hb dX8_init_4 rfl (lv_at hl 0 rfl) ?_
  refine lv_bipush (v := (36 : Int32)) hx hb dX8_init_5 (by decide) ?_
  refine dn_arr C0 B S (N := 36) (by decide) (by decide) (by decide) (dn_F11 (dw_r8_0 hk) (dw_n8_0 hk)) (Nat.le_of_ble_eq_true rfl) (Nat.le_of_ble_eq_true rfl) dX8_init_7 (fun H B S => ?_)
  refine W.widen (k := 1) (n := 36) (by decide) (by decide) ?_
  have B : dn_B Γ b E0 i (.inr (8, [.null, .null, .null, .null, .null, .null, .null, .int 0, .int 0])) (i + 2) H := B
  refine dn_putF C0 hin B S rfl tw_u8 tyX8_ok nmX8 0 (by decide) tw_fX8_9 rfl rfl rfl rfl rfl (Nat.le_of_ble_eq_true rfl) dX8_init_9 (fun H locs B S => ?_)
  have B : dn_B Γ b E0 i (.inr (8, [.ref (dw_ad Γ (i + 1)), .null, .null, .null, .null, .null, .null, .int 0, .int 0])) (i + 2) H := B
  refine lv_aload_n hx hb dX8_init_12 rfl (lv_at hl 0 rfl) ?_
  refine lv_bipush (v := (36 : Int32)) hx hb dX8_init_13 (by decide) ?_
  refine dn_arr C0 B S (N := 36) (by decide) (by decide) (by decide) (dn_F11 (dw_r8_1 hk) (dw_n8_1 hk)) (Nat.le_of_ble_eq_true rfl) (Nat.le_of_ble_eq_true rfl) dX8_init_15 (fun H B S => ?_)
  refine W.widen (k := 2) (n := 72) (by decide) (by decide) ?_
  have B : dn_B Γ b E0 i (.inr (8, [.ref (dw_ad Γ (i + 1)), .null, .null, .null, .null, .null, .null, .int 0, .int 0])) (i + 3) H := B
  refine dn_putF C0 hin B S rfl tw_u8 tyX8_ok nmX8 1 (by decide) tw_fX8_15 rfl rfl rfl rfl rfl (Nat.le_of_ble_eq_true rfl) dX8_init_17 (fun H locs B S => ?_)
  have B : dn_B Γ b E0 i (.inr (8, [.ref (dw_ad Γ (i + 1)), .ref (dw_ad Γ (i + 2)), .null, .null, .null, .null, .null, .int 0, .int 0])) (i + 3) H := B
  refine lv_aload_n hx hb dX8_init_20 rfl (lv_at hl 0 rfl) ?_
  refine lv_bipush (v := (20 : Int32)) hx hb dX8_init_21 (by decide) ?_
  refine dn_arr C0 B S (N := 20) (by decide) (by decide) (by decide) (dn_F11 (dw_r8_2 hk) (dw_n8_2 hk)) (Nat.le_of_ble_eq_true rfl) (Nat.le_of_ble_eq_true rfl) dX8_init_23 (fun H B S => ?_)
  refine W.widen (k := 3) (n := 92) (by decide) (by decide) ?_
  have B : dn_B Γ b E0 i (.inr (8, [.ref (dw_ad Γ (i + 1)), .ref (dw_ad Γ (i + 2)), .null, .null, .null, .null, .null, .int 0, .int 0])) (i + 4) H := B
  refine dn_putF C0 hin B S rfl tw_u8 tyX8_ok nmX8 2 (by decide) tw_fX8_18 rfl rfl rfl rfl rfl (Nat.le_of_ble_eq_true rfl) dX8_init_25 (fun H locs B S => ?_)
  have B : dn_B Γ b E0 i (.inr (8, [.ref (dw_ad Γ (i + 1)), .ref (dw_ad Γ (i + 2)), .ref (dw_ad Γ (i + 3)), .null, .null, .null, .null, .int 0, .int 0])) (i + 4) H := B
  refine lv_aload_n hx hb dX8_init_28 rfl (lv_at hl 0 rfl) ?_
  refine lv_bipush (v := (20 : Int32)) hx hb dX8_init_29 (by decide) ?_
  refine dn_arr C0 B S (N := 20) (by decide) (by decide) (by decide) (dn_F11 (dw_r8_3 hk) (dw_n8_3 hk)) (Nat.le_of_ble_eq_true rfl) (Nat.le_of_ble_eq_true rfl) dX8_init_31 (fun H B S => ?_)
  refine W.widen (k := 4) (n := 112) (by decide) (by decide) ?_
  have B : dn_B Γ b E0 i (.inr (8, [.ref (dw_ad Γ (i + 1)), .ref (dw_ad Γ (i + 2)), .ref (dw_ad Γ (i + 3)), .null, .null, .null, .null, .int 0, .int 0])) (i + 5) H := B
  refine dn_putF C0 hin B S rfl tw_u8 tyX8_ok nmX8 3 (by decide) tw_fX8_21 rfl rfl rfl rfl rfl (Nat.le_of_ble_eq_true rfl) dX8_init_33 (fun H locs B S => ?_)
  have B : dn_B Γ b E0 i (.inr (8, [.ref (dw_ad Γ (i + 1)), .ref (dw_ad Γ (i + 2)), .ref (dw_ad Γ (i + 3)), .ref (dw_ad Γ (i + 4)), .null, .null, .null, .int 0, .int 0])) (i + 5) H := B
  refine lv_aload_n hx hb dX8_init_36 rfl (lv_at hl 0 rfl) ?_
  refine lv_bipush (v := (20 : Int32)) hx hb dX8_init_37 (by decide) ?_
  refine dn_arr C0 B S (N := 20) (by decide) (by decide) (by decide) (dn_F11 (dw_r8_4 hk) (dw_n8_4 hk)) (Nat.le_of_ble_eq_true rfl) (Nat.le_of_ble_eq_true rfl) dX8_init_39 (fun H B S => ?_)
  refine W.widen (k := 5) (n := 132) (by decide) (by decide) ?_
  have B : dn_B Γ b E0 i (.inr (8, [.ref (dw_ad Γ (i + 1)), .ref (dw_ad Γ (i + 2)), .ref (dw_ad Γ (i + 3)), .ref (dw_ad Γ (i + 4)), .null, .null, .null, .int 0, .int 0])) (i + 6) H := B
  refine dn_putF C0 hin B S rfl tw_u8 tyX8_ok nmX8 4 (by decide) tw_fX8_24 rfl rfl rfl rfl rfl (Nat.le_of_ble_eq_true rfl) dX8_init_41 (fun H locs B S => ?_)
  have B : dn_B Γ b E0 i (.inr (8, [.ref (dw_ad Γ (i + 1)), .ref (dw_ad Γ (i + 2)), .ref (dw_ad Γ (i + 3)), .ref (dw_ad Γ (i + 4)), .ref (dw_ad Γ (i + 5)), .null, .null, .int 0, .int 0])) (i + 6) H := B
  refine lv_aload_n hx hb dX8_init_44 rfl (lv_at hl 0 rfl) ?_
  refine lv_iconst (v := (4 : Int32)) hx hb dX8_init_45 (by decide) ?_
  refine dn_arr C0 B S (N := 4) (by decide) (by decide) (by decide) (dn_F11 (dw_r8_5 hk) (dw_n8_5 hk)) (Nat.le_of_ble_eq_true rfl) (Nat.le_of_ble_eq_true rfl) dX8_init_46 (fun H B S => ?_)
  refine W.widen (k := 6) (n := 136) (by decide) (by decide) ?_
  have B : dn_B Γ b E0 i (.inr (8, [.ref (dw_ad Γ (i + 1)), .ref (dw_ad Γ (i + 2)), .ref (dw_ad Γ (i + 3)), .ref (dw_ad Γ (i + 4)), .ref (dw_ad Γ (i + 5)), .null, .null, .int 0, .int 0])) (i + 7) H := B
  refine dn_putF C0 hin B S rfl tw_u8 tyX8_ok nmX8 5 (by decide) tw_fX8_27 rfl rfl rfl rfl rfl (Nat.le_of_ble_eq_true rfl) dX8_init_48 (fun H locs B S => ?_)
  have B : dn_B Γ b E0 i (.inr (8, [.ref (dw_ad Γ (i + 1)), .ref (dw_ad Γ (i + 2)), .ref (dw_ad Γ (i + 3)), .ref (dw_ad Γ (i + 4)), .ref (dw_ad Γ (i + 5)), .ref (dw_ad Γ (i + 6)), .null, .int 0, .int 0])) (i + 7) H := B
  refine lv_aload_n hx hb dX8_init_51 rfl (lv_at hl 0 rfl) ?_
  refine dn_subN (host := RX9) C0 B S tyX2 tw_u2 tyX2_ok tw_cX8_30 tw_nX2 tw_iX2 rfl (fs := [.long 0]) (fun j hj => by rcases (show j = 0 by omega) with rfl <;> rfl) (size := 1) (fun E1 => nX2_init l Γ hj (dw_r8_6 hk) E1) (by decide) (by decide +kernel) tw_kX2_init tw_iX2 tw_vX2_init rfl dw_hX2_init ⟨Nat.le_of_ble_eq_true rfl, Nat.le_of_ble_eq_true rfl⟩ ⟨Nat.le_of_ble_eq_true rfl, Nat.le_of_ble_eq_true rfl⟩ hl.1 (Nat.le_of_ble_eq_true rfl) dX8_init_52 dX8_init_55 dX8_init_56 (fun H locs B S => ?_)
  refine W.widen (k := 7) (n := 137) (by decide) (by decide) ?_
  have B : dn_B Γ b E0 i (.inr (8, [.ref (dw_ad Γ (i + 1)), .ref (dw_ad Γ (i + 2)), .ref (dw_ad Γ (i + 3)), .ref (dw_ad Γ (i + 4)), .ref (dw_ad Γ (i + 5)), .ref (dw_ad Γ (i + 6)), .null, .int 0, .int 0])) (i + 8) H := B
  refine dn_putF C0 hin B S rfl tw_u8 tyX8_ok nmX8 6 (by decide) tw_fX8_33 rfl rfl rfl rfl rfl (Nat.le_of_ble_eq_true rfl) dX8_init_59 (fun H locs B S => ?_)
  have B : dn_B Γ b E0 i (.inr (8, [.ref (dw_ad Γ (i + 1)), .ref (dw_ad Γ (i + 2)), .ref (dw_ad Γ (i + 3)), .ref (dw_ad Γ (i + 4)), .ref (dw_ad Γ (i + 5)), .ref (dw_ad Γ (i + 6)), .ref (dw_ad Γ (i + 7)), .int 0, .int 0])) (i + 8) H := B
  have B : dn_B Γ b E0 i (dn_F Γ i) (i + 8) H := by
    have ee : dn_F Γ i = .inr (8, [.ref (dw_ad Γ (i + 1)), .ref (dw_ad Γ (i + 2)), .ref (dw_ad Γ (i + 3)), .ref (dw_ad Γ (i + 4)), .ref (dw_ad Γ (i + 5)), .ref (dw_ad Γ (i + 6)), .ref (dw_ad Γ (i + 7)), .int 0, .int 0]) := by
      unfold dn_F
      rw [dw_cz8 hk]
      simp [dw_f8, dn_m, hk]
    rw [ee]
    exact B
  exact dn_vret C0 B S hr hlk dX8_init_62
theorem dw_hX0_init : yX0_init.cls ≠ "java/lang/invoke/MethodHandle" ∧ yX0_init.cls ≠ "java/lang/invoke/VarHandle" ∧ (parseMethodDescriptor yX0_init.desc).map (fun d => d.parameters.length) = some 0 := by decide +kernel
set_option maxHeartbeats 4000000 in
set_option maxRecDepth 100000 in
theorem nX0_init (l : Launch) (Γ : dw_G) {b : Nat} (hj : dn_ad Γ b) {i : Nat} (hk : dw_kd i = 0) (E0 : Nat → va_E) : Met l yX0_init (dw_ws yX0_init cX0_init 1 none) (dn_rm 1 3 776 12) (dn_P Γ b E0 i (.inr (0, [.null, .int 0, .null, .null]))) (dn_Q Γ b E0 i (i + 4) (dn_F Γ i)) 3 776 (fun q => b ≤ q) := by
  refine dn_met (own := RX0) rfl rfl rfl (by decide) hj ?_
  intro p e s m below meth c C0 hr hlk hin H locs B S ls hl
  have hx := C0.1
  have hb := C0.2.1
  refine lv_aload_n hx hb dX0_init_0 rfl (lv_at hl 0 rfl) ?_
  refine dn_obj C0 hl.1 tw_lX0_3 dX0_init_1 (Nat.le_of_ble_eq_true rfl) (Nat.le_of_ble_eq_true rfl) ?_
  refine lv_aload_n hx hb dX0_init_4 rfl (lv_at hl 0 rfl) ?_
  refine lv_bipush (v := (20 : Int32)) hx hb dX0_init_5 (by decide) ?_
  refine dn_arr C0 B S (N := 20) (by decide) (by decide) (by decide) (dn_F11 (dw_r0_0 hk) (dw_n0_0 hk)) (Nat.le_of_ble_eq_true rfl) (Nat.le_of_ble_eq_true rfl) dX0_init_7 (fun H B S => ?_)
  refine W.widen (k := 1) (n := 20) (by decide) (by decide) ?_
  have B : dn_B Γ b E0 i (.inr (0, [.null, .int 0, .null, .null])) (i + 2) H := B
  refine dn_putF C0 hin B S rfl tw_u0 tyX0_ok nmX0 0 (by decide) tw_fX0_9 rfl rfl rfl rfl rfl (Nat.le_of_ble_eq_true rfl) dX0_init_9 (fun H locs B S => ?_)
  have B : dn_B Γ b E0 i (.inr (0, [.ref (dw_ad Γ (i + 1)), .int 0, .null, .null])) (i + 2) H := B
  refine lv_aload_n hx hb dX0_init_12 rfl (lv_at hl 0 rfl) ?_
  refine lv_bipush (v := (36 : Int32)) hx hb dX0_init_13 (by decide) ?_
  refine dn_arr C0 B S (N := 36) (by decide) (by decide) (by decide) (dn_F11 (dw_r0_2 hk) (dw_n0_2 hk)) (Nat.le_of_ble_eq_true rfl) (Nat.le_of_ble_eq_true rfl) dX0_init_15 (fun H B S => ?_)
  refine W.widen (k := 2) (n := 56) (by decide) (by decide) ?_
  have B : dn_B Γ b E0 i (.inr (0, [.ref (dw_ad Γ (i + 1)), .int 0, .null, .null])) (i + 3) H := B
  refine dn_putF C0 hin B S rfl tw_u0 tyX0_ok nmX0 2 (by decide) tw_fX0_15 rfl rfl rfl rfl rfl (Nat.le_of_ble_eq_true rfl) dX0_init_17 (fun H locs B S => ?_)
  have B : dn_B Γ b E0 i (.inr (0, [.ref (dw_ad Γ (i + 1)), .int 0, .ref (dw_ad Γ (i + 2)), .null])) (i + 3) H := B
  refine lv_aload_n hx hb dX0_init_20 rfl (lv_at hl 0 rfl) ?_
  refine lv_sipush (v := (720 : Int32)) hx hb dX0_init_21 (by decide) ?_
  refine dn_arr C0 B S (N := 720) (by decide) (by decide) (by decide) (dn_F11 (dw_r0_3 hk) (dw_n0_3 hk)) (Nat.le_of_ble_eq_true rfl) (Nat.le_of_ble_eq_true rfl) dX0_init_24 (fun H B S => ?_)
  refine W.widen (k := 3) (n := 776) (by decide) (by decide) ?_
  have B : dn_B Γ b E0 i (.inr (0, [.ref (dw_ad Γ (i + 1)), .int 0, .ref (dw_ad Γ (i + 2)), .null])) (i + 4) H := B
  refine dn_putF C0 hin B S rfl tw_u0 tyX0_ok nmX0 3 (by decide) tw_fX0_18 rfl rfl rfl rfl rfl (Nat.le_of_ble_eq_true rfl) dX0_init_26 (fun H locs B S => ?_)
  have B : dn_B Γ b E0 i (.inr (0, [.ref (dw_ad Γ (i + 1)), .int 0, .ref (dw_ad Γ (i + 2)), .ref (dw_ad Γ (i + 3))])) (i + 4) H := B
  have B : dn_B Γ b E0 i (dn_F Γ i) (i + 4) H := by
    have ee : dn_F Γ i = .inr (0, [.ref (dw_ad Γ (i + 1)), .int 0, .ref (dw_ad Γ (i + 2)), .ref (dw_ad Γ (i + 3))]) := by
      unfold dn_F
      rw [dw_cz0 hk]
      simp [dw_f0, dn_m, hk]
    rw [ee]
    exact B
  exact dn_vret C0 B S hr hlk dX0_init_29
theorem dw_hX7_init : yX7_init.cls ≠ "java/lang/invoke/MethodHandle" ∧ yX7_init.cls ≠ "java/lang/invoke/VarHandle" ∧ (parseMethodDescriptor yX7_init.desc).map (fun d => d.parameters.length) = some 0 := by decide +kernel
set_option maxHeartbeats 4000000 in
set_option maxRecDepth 100000 in
theorem nX7_init (l : Launch) (Γ : dw_G) {b : Nat} (hj : dn_ad Γ b) {i : Nat} (hk : dw_kd i = 7) (E0 : Nat → va_E) : Met l yX7_init (dw_ws yX7_init cX7_init 1 none) (dn_rm 1 2 72 12) (dn_P Γ b E0 i (.inr (7, [.null, .null, .int 0, .int 0, .int 0, .int 0, .int 0, .int 0]))) (dn_Q Γ b E0 i (i + 3) (dn_F Γ i)) 2 72 (fun q => b ≤ q) := by
  refine dn_met (own := RX7) rfl rfl rfl (by decide) hj ?_
  intro p e s m below meth c C0 hr hlk hin H locs B S ls hl
  have hx := C0.1
  have hb := C0.2.1
  refine lv_aload_n hx hb dX7_init_0 rfl (lv_at hl 0 rfl) ?_
  refine dn_obj C0 hl.1 tw_lX7_3 dX7_init_1 (Nat.le_of_ble_eq_true rfl) (Nat.le_of_ble_eq_true rfl) ?_
  refine lv_aload_n hx hb dX7_init_4 rfl (lv_at hl 0 rfl) ?_
  refine lv_bipush (v := (36 : Int32)) hx hb dX7_init_5 (by decide) ?_
  refine dn_arr C0 B S (N := 36) (by decide) (by decide) (by decide) (dn_F11 (dw_r7_0 hk) (dw_n7_0 hk)) (Nat.le_of_ble_eq_true rfl) (Nat.le_of_ble_eq_true rfl) dX7_init_7 (fun H B S => ?_)
  refine W.widen (k := 1) (n := 36) (by decide) (by decide) ?_
  have B : dn_B Γ b E0 i (.inr (7, [.null, .null, .int 0, .int 0, .int 0, .int 0, .int 0, .int 0])) (i + 2) H := B
  refine dn_putF C0 hin B S rfl tw_u7 tyX7_ok nmX7 0 (by decide) tw_fX7_9 rfl rfl rfl rfl rfl (Nat.le_of_ble_eq_true rfl) dX7_init_9 (fun H locs B S => ?_)
  have B : dn_B Γ b E0 i (.inr (7, [.ref (dw_ad Γ (i + 1)), .null, .int 0, .int 0, .int 0, .int 0, .int 0, .int 0])) (i + 2) H := B
  refine lv_aload_n hx hb dX7_init_12 rfl (lv_at hl 0 rfl) ?_
  refine lv_bipush (v := (36 : Int32)) hx hb dX7_init_13 (by decide) ?_
  refine dn_arr C0 B S (N := 36) (by decide) (by decide) (by decide) (dn_F11 (dw_r7_1 hk) (dw_n7_1 hk)) (Nat.le_of_ble_eq_true rfl) (Nat.le_of_ble_eq_true rfl) dX7_init_15 (fun H B S => ?_)
  refine W.widen (k := 2) (n := 72) (by decide) (by decide) ?_
  have B : dn_B Γ b E0 i (.inr (7, [.ref (dw_ad Γ (i + 1)), .null, .int 0, .int 0, .int 0, .int 0, .int 0, .int 0])) (i + 3) H := B
  refine dn_putF C0 hin B S rfl tw_u7 tyX7_ok nmX7 1 (by decide) tw_fX7_15 rfl rfl rfl rfl rfl (Nat.le_of_ble_eq_true rfl) dX7_init_17 (fun H locs B S => ?_)
  have B : dn_B Γ b E0 i (.inr (7, [.ref (dw_ad Γ (i + 1)), .ref (dw_ad Γ (i + 2)), .int 0, .int 0, .int 0, .int 0, .int 0, .int 0])) (i + 3) H := B
  have B : dn_B Γ b E0 i (dn_F Γ i) (i + 3) H := by
    have ee : dn_F Γ i = .inr (7, [.ref (dw_ad Γ (i + 1)), .ref (dw_ad Γ (i + 2)), .int 0, .int 0, .int 0, .int 0, .int 0, .int 0]) := by
      unfold dn_F
      rw [dw_cz7 hk]
      simp [dw_f7, dn_m, hk]
    rw [ee]
    exact B
  exact dn_vret C0 B S hr hlk dX7_init_20

section DNB
variable {p : Program} {l : Launch} {e : Env} {R : Room} {s : State} {m : MethodId} {args : Array Value} {below : List Frame} {meth : Method} {c : Code} {H : Heap} {locs : List Loc} {cells slots : Nat} {Q : State → Prop}
variable {cc : ByteArray} {pc nL : Nat} {ls : Array Slot} {rest : List Value} {Γ : dw_G} {H0 : Heap} {own : String} {b i n : Nat} {E0 : Nat → va_E} {ce : va_E}
abbrev dn_ra (Γ : dw_G) (f : Nat → Option Nat) : va_E := .inl (Γ.2.2.1, 20, .inr (.inr (.inr (.inr f))))
/-- a new row of pipes, the next cell -/
theorem dn_newq (C0 : dn_C Γ b p s m args meth c cc nL own) {E1 : Nat → va_E} (hP : va_P Γ.1 vwCl (dn_wl Γ E1 n) H) (hz : H.size = b + n) (S : va_S (fun q => b ≤ q) H0 H locs) {x : Int32} {index : Nat} (hcl : Cond.classLink own index RX5 ∈ dw_TB) (hn : ¬ x < 0) (hN : x.toNatClampNeg = 20) (hcells : cells + 1 ≤ R.cells) (hslots : slots + 20 ≤ R.slots) (hdg : decode cc pc = .ok (.anewarray index, 3))
    (kk : ∀ H1 : Heap, va_P Γ.1 vwCl (dn_wl Γ (va_up E1 n (dn_ra Γ (fun _ => none))) (n + 1)) H1 → H1.size = b + (n + 1) → va_S (fun q => b ≤ q) H0 H1 locs → W p l e R s m args below meth c H1 locs (cells + 1) (slots + 20) Q (F0 m (pc + 3) ls (.ref (dw_ad Γ n) :: rest))) : W p l e R s m args below meth c H locs cells slots Q (F0 m pc ls (.int x :: rest)) := by
  obtain ⟨hx, hb, hml, hown, hT, hK, hj⟩ := C0
  have e0 : dw_ad Γ n = b + n := hj n
  have hz0 : H.size = b + n := hz
  refine W.anew hx hb hown (hT _ hcl) (va_AO.use hK.2) rfl hdg rfl hn (by rw [hN]; decide) hcells (by rw [hN]; exact hslots) fun cA kA comp f1 f2 f3 f4 => ?_
  have hcA : cA = Γ.2.2.1 := by
    obtain ⟨kA2, comp2, k1, k2, k3, k4⟩ : va_RA s Γ.2.2.1 (.object RX5) := (hK.1.1.2 1 _ rfl).2
    exact Option.some.inj (f1.symm.trans k4)
  subst hcA
  rw [hN]
  generalize hH1 : H.push ({ cls := Γ.2.2.1, slots := Array.replicate 20 .null, vm := .none } : Cell) = H1
  have z1 : H1.size = H.size + 1 := by rw [← hH1, Array.size_push]
  have e1 : H1[H.size]? = some (arrV Γ.2.2.1 20 (fun _ => .null)) := by rw [← hH1, Array.getElem?_push_size, ← arrV_new]
  have o1 : ∀ q : Nat, q < H.size → H1[q]? = H[q]? := fun q hq => by rw [← hH1, Array.getElem?_push, if_neg (Nat.ne_of_lt hq)]
  have hk2 : ∀ (k : Nat) (q : Nat × va_E), (dn_wl Γ E1 n)[k]? = some q → H1[q.1]? = H[q.1]? := fun k q hq => o1 q.1 ((hP k q hq).lt)
  have hP1 : va_P Γ.1 vwCl (dn_wl Γ E1 n ++ [(dw_ad Γ n, dn_ra Γ (fun _ => none))]) H1 := by
    refine (hP.kept hk2).app (fun k q hq => ?_)
    have hz : k < 1 := (List.getElem?_eq_some_iff.mp hq).1
    rw [show k = 0 by omega] at hq
    cases hq
    show H1[dw_ad Γ n]? = some (vp_cell _ _)
    rw [e0, ← hz0, vp_cell_q]
    exact e1
  rw [dn_push] at hP1
  have hgo := kk H1 hP1 (by omega) ⟨Nat.le_trans S.1 (by omega), fun q h1 h2 => (o1 q (by have := S.1; omega)).trans (S.2.1 q h1 h2), S.2.2⟩
  rw [e0, ← hz] at hgo
  exact hgo
/-- a pipe is put into the row -/
theorem dn_aast (C0 : dn_C Γ b p s m args meth c cc nL own) {f : Nat → Option Nat} {t : Nat} (B : dn_B Γ b E0 i (dn_ra Γ f) n H) (S : va_S (fun q => b ≤ q) H0 H locs) (ht : i < t) (htn : t < n) (hkt : dw_kd t = 5) {x : Int32} (hx20 : vp_in x 20) (hdg : decode cc pc = .ok (.aastore, 1))
    (kk : ∀ (H1 : Heap) (locs1 : List Loc), dn_B Γ b E0 i (dn_ra Γ (va_up f x.toNatClampNeg (some (dw_ad Γ t)))) n H1 → va_S (fun q => b ≤ q) H0 H1 locs1 → W p l e R s m args below meth c H1 locs1 cells slots Q (F0 m (pc + 1) ls rest)) : W p l e R s m args below meth c H locs cells slots Q (F0 m pc ls (.ref (dw_ad Γ t) :: .int x :: .ref (dw_ad Γ i) :: rest)) := by
  obtain ⟨hx, hb, hml, hown, hT, hK, hj⟩ := C0
  obtain ⟨E, hP, hz, hin1, hlo, he, hd⟩ := B
  have hD : va_D (fun q => b ≤ q) (dn_wl Γ E n) := dn_D hj E n
  have heq : (dn_wl Γ E n)[i]? = some (dw_ad Γ i, dn_ra Γ f) := by rw [dn_at hin1, he]
  have hv : (dn_wl Γ E n)[t]? = some (dw_ad Γ t, .inr (5, dw_f5 Γ t (dn_m.1 t) (dn_m.2 t))) := by rw [dn_at htn, hd t ht htn]; unfold dn_F; rw [dw_cz5 hkt]
  have hlt : x.toNatClampNeg < 20 := Nat.not_le.mp fun q => hx20 (Or.inr q)
  have h0 : ¬ x < 0 := fun q => hx20 (Or.inl q)
  obtain ⟨r', hr', cellV, g1, g2, g3, -⟩ := hP t _ hv
  have hcls := (hK.1.1.1 5 (RX5, TX5, 6) rfl).2
  obtain ⟨kA, comp, k1, k2, k3, -⟩ : va_RA s Γ.2.2.1 (.object RX5) := (hK.1.1.2 1 _ rfl).2
  have hcomp : comp = Γ.1.1 5 := Option.some.inj (k3.symm.trans hcls.1)
  subst hcomp
  obtain ⟨kC, hkC, -⟩ := hcls.2
  refine W.aast hx hb (hP i _ heq) (fun q h => by cases h) (fun h => by cases h) k1 k2 rfl hkC ⟨h0, by show _ < (arrV _ _ _).slots.size; rw [arrV_size]; exact hlt⟩ g1 (fun q h => by rw [g3] at h; cases h) (by rw [g2]; exact hkC) (by rw [g2]; exact va_assign hcls) rfl rfl hdg fun H1 e1 z oq => ?_
  have hP1 : va_P Γ.1 vwCl ((dn_wl Γ E n).set i (dw_ad Γ i, dn_ra Γ (va_up f x.toNatClampNeg (some (dw_ad Γ t))))) H1 := by
    refine hP.set hD heq ?_ oq
    show H1[dw_ad Γ i]? = some (vp_cell _ _)
    rw [e1]
    rw [vp_cell_q, vp_cell_q, arrV_store]
    congr 2
    funext q
    by_cases hq : q = x.toNatClampNeg
    · subst hq
      simp [updV, va_up, va_rf]
    · simp [updV, va_up, hq]
  rw [dn_set _ hin1] at hP1
  exact kk H1 _ ⟨_, hP1, by rw [z]; exact hz, hin1, fun u hu => by rw [← hlo u hu]; simp [va_up, Nat.ne_of_lt hu], by simp [va_up], fun u h1 h2 => by rw [← hd u h1 h2]; simp [va_up, show u ≠ i by omega]⟩ (S.put z oq (hD.2 i _ heq))
end DNB

theorem dw_hX4_init : yX4_init.cls ≠ "java/lang/invoke/MethodHandle" ∧ yX4_init.cls ≠ "java/lang/invoke/VarHandle" ∧ (parseMethodDescriptor yX4_init.desc).map (fun d => d.parameters.length) = some 0 := by decide +kernel
set_option maxHeartbeats 4000000 in
set_option maxRecDepth 100000 in
theorem nX4_init (l : Launch) (Γ : dw_G) {b : Nat} (hj : dn_ad Γ b) {i : Nat} (hk : dw_kd i = 4) (E0 : Nat → va_E) : Met l yX4_init (dw_ws yX4_init cX4_init 2 none) (dn_rm 3 41 240 52) (dn_P Γ b E0 i (.inr (4, [.null, .int 0]))) (dn_Q Γ b E0 i (i + 42) (dn_F Γ i)) 41 240 (fun q => b ≤ q) := by
  refine dn_met (own := RX4) rfl rfl rfl (by decide) hj ?_
  intro p e s m below meth c C0 hr hlk hin H locs B S ls hl
  have hx := C0.1
  have hb := C0.2.1
  refine lv_aload_n hx hb dX4_init_0 rfl (lv_at hl 0 rfl) ?_
  refine dn_obj C0 hl.1 tw_lX4_3 dX4_init_1 (Nat.le_of_ble_eq_true rfl) (Nat.le_of_ble_eq_true rfl) ?_
  refine lv_aload_n hx hb dX4_init_4 rfl (lv_at hl 0 rfl) ?_
  refine lv_bipush (v := (20 : Int32)) hx hb dX4_init_5 (by decide) ?_
  obtain ⟨E, hP, hz, hin1, hlo, he, hd⟩ := B
  refine dn_newq C0 hP hz S tw_cX4_9 (by decide) (by decide) (Nat.le_of_ble_eq_true rfl) (Nat.le_of_ble_eq_true rfl) dX4_init_7 (fun H hP hz S => ?_)
  refine W.widen (k := 1) (n := 20) (by decide) (by decide) ?_
  -- the cell i is under way; the row behind it isn't done: it is kept apart, in E1
  obtain ⟨E1, hE1⟩ : ∃ E1 : Nat → va_E, E1 = va_up E (i + 1) (dn_ra Γ (fun _ => none)) := ⟨_, rfl⟩
  rw [← hE1] at hP
  have l1 : ∀ t, t < i → E1 t = E0 t := fun t ht => by rw [hE1, ← hlo t ht]; simp [va_up, show t ≠ i + 1 by omega]
  have c1 : E1 i = .inr (4, [.null, .int 0]) := by rw [hE1, ← he]; simp [va_up, show i ≠ i + 1 by omega]
  have r1 : E1 (i + 1) = dn_ra Γ (fun _ => none) := by rw [hE1]; simp [va_up]
  -- putfield of the row: the world is cut behind i, so that only i is under way
  have hD : va_D (fun q => b ≤ q) (dn_wl Γ E1 (i + 1 + 1)) := dn_D hj E1 _
  have heq : (dn_wl Γ E1 (i + 1 + 1))[i]? = some (dw_ad Γ i, .inr (4, [.null, .int 0])) := by rw [dn_at (by omega), c1]
  refine dn_putG C0 hin hP hz S (by omega) c1 rfl tw_u4 tyX4_ok nmX4 0 (by decide) tw_fX4_11 rfl rfl rfl rfl rfl (Nat.le_of_ble_eq_true rfl) dX4_init_10 (fun H locs hP hz S => ?_)
  refine lv_iconst (v := (0 : Int32)) hx hb dX4_init_13 (by decide) ?_
  refine lv_istore_n (lv' := [(1, .int (0 : Int32)), (0, .ref (dw_ad Γ i))]) hx hb dX4_init_14 rfl hl (by decide) rfl (fun ls hl => ?_)
  have key : ∀ (d k : Nat) (x : Int32) (E : Nat → va_E) (H : Heap) (locs : List Loc) (ls : Array Slot), k + d = 20 → x = nI k → va_P Γ.1 vwCl (dn_wl Γ E (i + 2 + 2 * k)) H → H.size = b + (i + 2 + 2 * k) → (∀ t, t < i → E t = E0 t) → E i = .inr (4, [.ref (dw_ad Γ (i + 1)), .int 0]) → E (i + 1) = dn_ra Γ (fun p => if p < k then some (dw_ad Γ (i + 1 + 1 + 2 * p)) else none) → (∀ t, i + 1 < t → t < i + 2 + 2 * k → E t = dn_F Γ t) → va_S (fun q => b ≤ q) s.heap H locs → lv_has ls 2 [(0, .ref (dw_ad Γ i)), (1, .int x)] → W p l e (dn_rm 3 41 240 52) s m [Value.ref (dw_ad Γ i)].toArray below meth c H locs (1 + 2 * k) (20 + 11 * k) (MQ below (dn_Q Γ b E0 i (i + 42) (dn_F Γ i)) [Value.ref (dw_ad Γ i)].toArray s 41 240 (fun q => b ≤ q)) (F0 m 15 ls []) := by
    intro d
    induction d with
    | zero =>
      intro k x E H locs ls hk20 ex hP hz hlo he hr1 hd S hl
      have hk20 : k = 20 := by omega
      subst hk20
      refine lv_iload_n hx hb dX4_init_15 rfl (lv_at hl 1 rfl) ?_
      refine lv_bipush (v := (20 : Int32)) hx hb dX4_init_16 (by decide) ?_
      refine lv_icmp_ge (tgt := 40) hx hb dX4_init_18 (by decide) (fun c1 => ?_) (fun c1 => ?_)
      · have B : dn_B Γ b E0 i (dn_F Γ i) (i + 42) H := by
          refine ⟨E, hP, hz, by omega, hlo, ?_, fun t h1 h2 => ?_⟩
          · rw [he]
            unfold dn_F
            rw [dw_cz4 hk]
            simp [dw_f4, dn_m, hk]
          · by_cases q : t = i + 1
            · subst q
              rw [hr1]
              unfold dn_F
              rw [dw_cz12 (dw_r4_0 hk)]
              rfl
            · exact hd t (by omega) (by omega)
        refine W.widen (k := 41) (n := 240) (by decide) (by decide) ?_
        exact dn_vret C0 B S hr hlk dX4_init_40
      · exact absurd (by rw [ex]; decide) c1
    | succ d ih =>
      intro k x E H locs ls hkd ex hP hz hlo he hr1 hd S hl
      have hk19 : k < 20 := by omega
      refine lv_iload_n hx hb dX4_init_15 rfl (lv_at hl 1 rfl) ?_
      refine lv_bipush (v := (20 : Int32)) hx hb dX4_init_16 (by decide) ?_
      refine lv_icmp_ge (tgt := 40) hx hb dX4_init_18 (by decide) (fun c1 => ?_) (fun c1 => ?_)
      · exact absurd c1 (by rw [ex]; exact nI_ge hk19 (by decide))
      · refine lv_aload_n hx hb dX4_init_21 rfl (lv_at hl 0 rfl) ?_
        refine va_get (D := Γ.1) hx hb C0.2.2.2.2.1 tw_u4 C0.2.2.2.1 C0.2.2.2.2.2.1.1.1 hP i (by rw [dn_at (by omega), he]) rfl 0 (by decide) (C0.2.2.2.2.1 _ tw_fX4_11) (fun _ h9 => h9) (v := .ref (dw_ad Γ (i + 1))) rfl dX4_init_22 ?_
        refine lv_iload_n hx hb dX4_init_25 rfl (lv_at hl 1 rfl) ?_
        have B : dn_B Γ b E (i + 1) (dn_ra Γ (fun p => if p < k then some (dw_ad Γ (i + 1 + 1 + 2 * p)) else none)) (i + 2 + 2 * k) H := ⟨E, hP, hz, by omega, fun _ _ => rfl, hr1, hd⟩
        have hkt : dw_kd (i + 2 + 2 * k) = 5 := by
          have h1 := dw_pk (dw_r4_0 hk) hk19
          rw [show i + 1 + 1 + 2 * k = i + 2 + 2 * k by omega] at h1
          exact h1
        refine dn_subN (host := RX9) C0 B S tyX5 tw_u5 tyX5_ok tw_cX4_9 tw_nX5 tw_iX5 rfl (fs := [.null, .int 0, .int 0, .int 0, .int 0, .int 0]) (fun j hj => by rcases (show j = 0 ∨ j = 1 ∨ j = 2 ∨ j = 3 ∨ j = 4 ∨ j = 5 by omega) with rfl | rfl | rfl | rfl | rfl | rfl <;> rfl) (size := 2) (fun E1 => nX5_init l Γ hj hkt E1) (by decide) (by decide +kernel) tw_kX5_init tw_iX5 tw_vX5_init rfl dw_hX5_init ⟨Nat.le_of_ble_eq_true rfl, Nat.le_of_ble_eq_true rfl⟩ ⟨by show 1 + 2 * k + 1 + 1 ≤ 41; omega, by show 20 + 11 * k + 6 + 5 ≤ 240; omega⟩ hl.1 (Nat.le_of_ble_eq_true rfl) dX4_init_26 dX4_init_29 dX4_init_30 (fun H locs B S => ?_)
        have hxin : vp_in x 20 := by rw [ex]; exact vp_in_nI hk19 (by decide)
        refine dn_aast C0 B S (t := i + 2 + 2 * k) (by omega) (by omega) hkt hxin dX4_init_33 (fun H locs B S => ?_)
        obtain ⟨y, ey⟩ : ∃ y : Int32, y = x + 1 := ⟨_, rfl⟩
        refine lv_iinc (v := y) (lv' := [(1, .int y), (0, .ref (dw_ad Γ i))]) hx hb dX4_init_34 hl (k := 1) rfl (by rw [ey]; rfl) (by decide) rfl (fun ls hl => ?_)
        refine lv_goto (tgt := 15) hx hb dX4_init_37 (by decide) ?_
        obtain ⟨E2, gP, gz, gin, glo, ge, gd⟩ := B
        refine W.widen (k := 1 + 2 * (k + 1)) (n := 20 + 11 * (k + 1)) (by omega) (by omega) ?_
        refine ih (k + 1) y E2 H locs ls (by omega) (by rw [ey, ex]; exact nI_1 k) gP (by rw [gz]; omega) (fun t ht => by rw [glo t (by omega)]; exact hlo t ht) (by rw [glo i (by omega)]; exact he) ?_ (fun t h1 h2 => gd t h1 (by omega)) S (lv_sub hl [1, 0] rfl)
        rw [ge]
        have ek : x.toNatClampNeg = k := by rw [ex]; exact nI_clamp (by omega)
        rw [ek]
        have ef : va_up (fun p => if p < k then some (dw_ad Γ (i + 1 + 1 + 2 * p)) else none) k (some (dw_ad Γ (i + 2 + 2 * k))) = fun p => if p < k + 1 then some (dw_ad Γ (i + 1 + 1 + 2 * p)) else none := by
          funext q
          by_cases h1 : q = k
          · subst h1
            simp [va_up]
          · by_cases h2 : q < k
            · simp [va_up, h1, h2, show q < k + 1 by omega]
            · simp [va_up, h1, h2, show ¬ q < k + 1 by omega]
        rw [ef]
  refine key 20 0 0 _ H locs ls rfl nI_0.symm hP hz ?_ ?_ ?_ ?_ S (lv_sub hl [1, 0] rfl)
  · intro t ht
    rw [← l1 t ht]
    simp [va_up, show t ≠ i by omega]
  · simp [va_up]
  · simp [va_up, r1]
  · intro t h1 h2
    omega
theorem dw_hX6_init : yX6_init.cls ≠ "java/lang/invoke/MethodHandle" ∧ yX6_init.cls ≠ "java/lang/invoke/VarHandle" ∧ (parseMethodDescriptor yX6_init.desc).map (fun d => d.parameters.length) = some 0 := by decide +kernel
set_option maxHeartbeats 4000000 in
set_option maxRecDepth 100000 in
theorem nX6_init (l : Launch) (Γ : dw_G) {b : Nat} (hj : dn_ad Γ b) {i : Nat} (hk : dw_kd i = 6) (E0 : Nat → va_E) : Met l yX6_init (dw_ws yX6_init cX6_init 1 none) (dn_rm 4 62 532 73) (dn_P Γ b E0 i (.inr (6, [.null, .null, .null, .null, .null, .null, .null]))) (dn_Q Γ b E0 i (i + 63) (dn_F Γ i)) 62 532 (fun q => b ≤ q) := by
  refine dn_met (own := RX6) rfl rfl rfl (by decide) hj ?_
  intro p e s m below meth c C0 hr hlk hin H locs B S ls hl
  have hx := C0.1
  have hb := C0.2.1
  refine lv_aload_n hx hb dX6_init_0 rfl (lv_at hl 0 rfl) ?_
  refine dn_obj C0 hl.1 tw_lX6_3 dX6_init_1 (Nat.le_of_ble_eq_true rfl) (Nat.le_of_ble_eq_true rfl) ?_
  refine lv_aload_n hx hb dX6_init_4 rfl (lv_at hl 0 rfl) ?_
  refine dn_sub C0 B S tyX1 tw_u1 tyX1_ok tw_cX6_9 tw_nX1 tw_iX1 rfl (fs := [.int 0, .int 0, .null, .null, .null, .null, .null, .null, .null]) (fun j hj => by rcases (show j = 0 ∨ j = 1 ∨ j = 2 ∨ j = 3 ∨ j = 4 ∨ j = 5 ∨ j = 6 ∨ j = 7 ∨ j = 8 by omega) with rfl | rfl | rfl | rfl | rfl | rfl | rfl | rfl | rfl <;> rfl) (size := 8) (fun E1 => nX1_init l Γ hj (dw_r6_0 hk) E1) (by decide) tw_lX6_11 tw_kX1_init tw_iX1 tw_vX1_init rfl dw_hX1_init ⟨Nat.le_of_ble_eq_true rfl, Nat.le_of_ble_eq_true rfl⟩ ⟨Nat.le_of_ble_eq_true rfl, Nat.le_of_ble_eq_true rfl⟩ hl.1 (Nat.le_of_ble_eq_true rfl) dX6_init_5 dX6_init_8 dX6_init_9 (fun H locs B S => ?_)
  refine W.widen (k := 8) (n := 101) (by decide) (by decide) ?_
  have B : dn_B Γ b E0 i (.inr (6, [.null, .null, .null, .null, .null, .null, .null])) (i + 9) H := B
  refine dn_putF C0 hin B S rfl tw_u6 tyX6_ok nmX6 0 (by decide) tw_fX6_12 rfl rfl rfl rfl rfl (Nat.le_of_ble_eq_true rfl) dX6_init_12 (fun H locs B S => ?_)
  have B : dn_B Γ b E0 i (.inr (6, [.ref (dw_ad Γ (i + 1)), .null, .null, .null, .null, .null, .null])) (i + 9) H := B
  refine lv_aload_n hx hb dX6_init_15 rfl (lv_at hl 0 rfl) ?_
  refine dn_subN (host := RX9) C0 B S tyX3 tw_u3 tyX3_ok tw_cX6_18 tw_nX3 tw_iX3 rfl (fs := [.int 0, .int 0, .int 0, .int 0, .int 0]) (fun j hj => by rcases (show j = 0 ∨ j = 1 ∨ j = 2 ∨ j = 3 ∨ j = 4 by omega) with rfl | rfl | rfl | rfl | rfl <;> rfl) (size := 1) (fun E1 => nX3_init l Γ hj (dw_r6_1 hk) E1) (by decide) (by decide +kernel) tw_kX3_init tw_iX3 tw_vX3_init rfl dw_hX3_init ⟨Nat.le_of_ble_eq_true rfl, Nat.le_of_ble_eq_true rfl⟩ ⟨Nat.le_of_ble_eq_true rfl, Nat.le_of_ble_eq_true rfl⟩ hl.1 (Nat.le_of_ble_eq_true rfl) dX6_init_16 dX6_init_19 dX6_init_20 (fun H locs B S => ?_)
  refine W.widen (k := 9) (n := 106) (by decide) (by decide) ?_
  have B : dn_B Γ b E0 i (.inr (6, [.ref (dw_ad Γ (i + 1)), .null, .null, .null, .null, .null, .null])) (i + 10) H := B
  refine dn_putF C0 hin B S rfl tw_u6 tyX6_ok nmX6 1 (by decide) tw_fX6_21 rfl rfl rfl rfl rfl (Nat.le_of_ble_eq_true rfl) dX6_init_23 (fun H locs B S => ?_)
  have B : dn_B Γ b E0 i (.inr (6, [.ref (dw_ad Γ (i + 1)), .ref (dw_ad Γ (i + 9)), .null, .null, .null, .null, .null])) (i + 10) H := B
  refine lv_aload_n hx hb dX6_init_26 rfl (lv_at hl 0 rfl) ?_
  refine dn_sub C0 B S tyX4 tw_u4 tyX4_ok tw_cX6_25 tw_nX4 tw_iX4 rfl (fs := [.null, .int 0]) (fun j hj => by rcases (show j = 0 ∨ j = 1 by omega) with rfl | rfl <;> rfl) (size := 42) (fun E1 => nX4_init l Γ hj (dw_r6_2 hk) E1) (by decide) tw_lX6_27 tw_kX4_init tw_iX4 tw_vX4_init rfl dw_hX4_init ⟨Nat.le_of_ble_eq_true rfl, Nat.le_of_ble_eq_true rfl⟩ ⟨Nat.le_of_ble_eq_true rfl, Nat.le_of_ble_eq_true rfl⟩ hl.1 (Nat.le_of_ble_eq_true rfl) dX6_init_27 dX6_init_30 dX6_init_31 (fun H locs B S => ?_)
  refine W.widen (k := 51) (n := 348) (by decide) (by decide) ?_
  have B : dn_B Γ b E0 i (.inr (6, [.ref (dw_ad Γ (i + 1)), .ref (dw_ad Γ (i + 9)), .null, .null, .null, .null, .null])) (i + 52) H := B
  refine dn_putF C0 hin B S rfl tw_u6 tyX6_ok nmX6 2 (by decide) tw_fX6_28 rfl rfl rfl rfl rfl (Nat.le_of_ble_eq_true rfl) dX6_init_34 (fun H locs B S => ?_)
  have B : dn_B Γ b E0 i (.inr (6, [.ref (dw_ad Γ (i + 1)), .ref (dw_ad Γ (i + 9)), .ref (dw_ad Γ (i + 10)), .null, .null, .null, .null])) (i + 52) H := B
  refine lv_aload_n hx hb dX6_init_37 rfl (lv_at hl 0 rfl) ?_
  refine dn_subN (host := RX9) C0 B S tyX8 tw_u8 tyX8_ok tw_cX6_32 tw_nX8 tw_iX8 rfl (fs := [.null, .null, .null, .null, .null, .null, .null, .int 0, .int 0]) (fun j hj => by rcases (show j = 0 ∨ j = 1 ∨ j = 2 ∨ j = 3 ∨ j = 4 ∨ j = 5 ∨ j = 6 ∨ j = 7 ∨ j = 8 by omega) with rfl | rfl | rfl | rfl | rfl | rfl | rfl | rfl | rfl <;> rfl) (size := 8) (fun E1 => nX8_init l Γ hj (dw_r6_3 hk) E1) (by decide) (by decide +kernel) tw_kX8_init tw_iX8 tw_vX8_init rfl dw_hX8_init ⟨Nat.le_of_ble_eq_true rfl, Nat.le_of_ble_eq_true rfl⟩ ⟨Nat.le_of_ble_eq_true rfl, Nat.le_of_ble_eq_true rfl⟩ hl.1 (Nat.le_of_ble_eq_true rfl) dX6_init_38 dX6_init_41 dX6_init_42 (fun H locs B S => ?_)
  refine W.widen (k := 59) (n := 494) (by decide) (by decide) ?_
  have B : dn_B Γ b E0 i (.inr (6, [.ref (dw_ad Γ (i + 1)), .ref (dw_ad Γ (i + 9)), .ref (dw_ad Γ (i + 10)), .null, .null, .null, .null])) (i + 60) H := B
  refine dn_putF C0 hin B S rfl tw_u6 tyX6_ok nmX6 3 (by decide) tw_fX6_35 rfl rfl rfl rfl rfl (Nat.le_of_ble_eq_true rfl) dX6_init_45 (fun H locs B S => ?_)
  have B : dn_B Γ b E0 i (.inr (6, [.ref (dw_ad Γ (i + 1)), .ref (dw_ad Γ (i + 9)), .ref (dw_ad Γ (i + 10)), .ref (dw_ad Γ (i + 52)), .null, .null, .null])) (i + 60) H := B
  refine lv_aload_n hx hb dX6_init_48 rfl (lv_at hl 0 rfl) ?_
  refine lv_bipush (v := (36 : Int32)) hx hb dX6_init_49 (by decide) ?_
  refine dn_arr C0 B S (N := 36) (by decide) (by decide) (by decide) (dn_F11 (dw_r6_4 hk) (dw_n6_4 hk)) (Nat.le_of_ble_eq_true rfl) (Nat.le_of_ble_eq_true rfl) dX6_init_51 (fun H B S => ?_)
  refine W.widen (k := 60) (n := 530) (by decide) (by decide) ?_
  have B : dn_B Γ b E0 i (.inr (6, [.ref (dw_ad Γ (i + 1)), .ref (dw_ad Γ (i + 9)), .ref (dw_ad Γ (i + 10)), .ref (dw_ad Γ (i + 52)), .null, .null, .null])) (i + 61) H := B
  refine dn_putF C0 hin B S rfl tw_u6 tyX6_ok nmX6 4 (by decide) tw_fX6_39 rfl rfl rfl rfl rfl (Nat.le_of_ble_eq_true rfl) dX6_init_53 (fun H locs B S => ?_)
  have B : dn_B Γ b E0 i (.inr (6, [.ref (dw_ad Γ (i + 1)), .ref (dw_ad Γ (i + 9)), .ref (dw_ad Γ (i + 10)), .ref (dw_ad Γ (i + 52)), .ref (dw_ad Γ (i + 60)), .null, .null])) (i + 61) H := B
  refine lv_aload_n hx hb dX6_init_56 rfl (lv_at hl 0 rfl) ?_
  refine dn_subN (host := RX9) C0 B S tyX2 tw_u2 tyX2_ok tw_cX6_43 tw_nX2 tw_iX2 rfl (fs := [.long 0]) (fun j hj => by rcases (show j = 0 by omega) with rfl <;> rfl) (size := 1) (fun E1 => nX2_init l Γ hj (dw_r6_5 hk) E1) (by decide) (by decide +kernel) tw_kX2_init tw_iX2 tw_vX2_init rfl dw_hX2_init ⟨Nat.le_of_ble_eq_true rfl, Nat.le_of_ble_eq_true rfl⟩ ⟨Nat.le_of_ble_eq_true rfl, Nat.le_of_ble_eq_true rfl⟩ hl.1 (Nat.le_of_ble_eq_true rfl) dX6_init_57 dX6_init_60 dX6_init_61 (fun H locs B S => ?_)
  refine W.widen (k := 61) (n := 531) (by decide) (by decide) ?_
  have B : dn_B Γ b E0 i (.inr (6, [.ref (dw_ad Γ (i + 1)), .ref (dw_ad Γ (i + 9)), .ref (dw_ad Γ (i + 10)), .ref (dw_ad Γ (i + 52)), .ref (dw_ad Γ (i + 60)), .null, .null])) (i + 62) H := B
  refine dn_putF C0 hin B S rfl tw_u6 tyX6_ok nmX6 5 (by decide) tw_fX6_46 rfl rfl rfl rfl rfl (Nat.le_of_ble_eq_true rfl) dX6_init_64 (fun H locs B S => ?_)
  have B : dn_B Γ b E0 i (.inr (6, [.ref (dw_ad Γ (i + 1)), .ref (dw_ad Γ (i + 9)), .ref (dw_ad Γ (i + 10)), .ref (dw_ad Γ (i + 52)), .ref (dw_ad Γ (i + 60)), .ref (dw_ad Γ (i + 61)), .null])) (i + 62) H := B
  refine lv_aload_n hx hb dX6_init_67 rfl (lv_at hl 0 rfl) ?_
  refine dn_subN (host := RX9) C0 B S tyX2 tw_u2 tyX2_ok tw_cX6_43 tw_nX2 tw_iX2 rfl (fs := [.long 0]) (fun j hj => by rcases (show j = 0 by omega) with rfl <;> rfl) (size := 1) (fun E1 => nX2_init l Γ hj (dw_r6_6 hk) E1) (by decide) (by decide +kernel) tw_kX2_init tw_iX2 tw_vX2_init rfl dw_hX2_init ⟨Nat.le_of_ble_eq_true rfl, Nat.le_of_ble_eq_true rfl⟩ ⟨Nat.le_of_ble_eq_true rfl, Nat.le_of_ble_eq_true rfl⟩ hl.1 (Nat.le_of_ble_eq_true rfl) dX6_init_68 dX6_init_71 dX6_init_72 (fun H locs B S => ?_)
  refine W.widen (k := 62) (n := 532) (by decide) (by decide) ?_
  have B : dn_B Γ b E0 i (.inr (6, [.ref (dw_ad Γ (i + 1)), .ref (dw_ad Γ (i + 9)), .ref (dw_ad Γ (i + 10)), .ref (dw_ad Γ (i + 52)), .ref (dw_ad Γ (i + 60)), .ref (dw_ad Γ (i + 61)), .null])) (i + 63) H := B
  refine dn_putF C0 hin B S rfl tw_u6 tyX6_ok nmX6 6 (by decide) tw_fX6_50 rfl rfl rfl rfl rfl (Nat.le_of_ble_eq_true rfl) dX6_init_75 (fun H locs B S => ?_)
  have B : dn_B Γ b E0 i (.inr (6, [.ref (dw_ad Γ (i + 1)), .ref (dw_ad Γ (i + 9)), .ref (dw_ad Γ (i + 10)), .ref (dw_ad Γ (i + 52)), .ref (dw_ad Γ (i + 60)), .ref (dw_ad Γ (i + 61)), .ref (dw_ad Γ (i + 62))])) (i + 63) H := B
  have B : dn_B Γ b E0 i (dn_F Γ i) (i + 63) H := by
    have ee : dn_F Γ i = .inr (6, [.ref (dw_ad Γ (i + 1)), .ref (dw_ad Γ (i + 9)), .ref (dw_ad Γ (i + 10)), .ref (dw_ad Γ (i + 52)), .ref (dw_ad Γ (i + 60)), .ref (dw_ad Γ (i + 61)), .ref (dw_ad Γ (i + 62))]) := by
      unfold dn_F
      rw [dw_cz6 hk]
      simp [dw_f6, dn_m, hk]
    rw [ee]
    exact B
  exact dn_vret C0 B S hr hlk dX6_init_78
theorem dw_hX9_init : yX9_init.cls ≠ "java/lang/invoke/MethodHandle" ∧ yX9_init.cls ≠ "java/lang/invoke/VarHandle" ∧ (parseMethodDescriptor yX9_init.desc).map (fun d => d.parameters.length) = some 0 := by decide +kernel
set_option maxHeartbeats 4000000 in
set_option maxRecDepth 100000 in
theorem nX9_init (l : Launch) (Γ : dw_G) {b : Nat} (hj : dn_ad Γ b) {i : Nat} (hk : dw_kd i = 9) (E0 : Nat → va_E) : Met l yX9_init (dw_ws yX9_init cX9_init 1 none) (dn_rm 5 141 2084 93) (dn_P Γ b E0 i (.inr (9, [.null, .null, .int 0, .null, .null, .null]))) (dn_Q Γ b E0 i (i + 142) (dn_F Γ i)) 141 2084 (fun q => b ≤ q) := by
  refine dn_met (own := RX9) rfl rfl rfl (by decide) hj ?_
  intro p e s m below meth c C0 hr hlk hin H locs B S ls hl
  have hx := C0.1
  have hb := C0.2.1
  refine lv_aload_n hx hb dX9_init_0 rfl (lv_at hl 0 rfl) ?_
  refine dn_obj C0 hl.1 tw_lX9_3 dX9_init_1 (Nat.le_of_ble_eq_true rfl) (Nat.le_of_ble_eq_true rfl) ?_
  refine lv_aload_n hx hb dX9_init_4 rfl (lv_at hl 0 rfl) ?_
  refine dn_subN (host := RX9) C0 B S tyX6 tw_u6 tyX6_ok tw_cX9_9 tw_nX6 tw_iX6 rfl (fs := [.null, .null, .null, .null, .null, .null, .null]) (fun j hj => by rcases (show j = 0 ∨ j = 1 ∨ j = 2 ∨ j = 3 ∨ j = 4 ∨ j = 5 ∨ j = 6 by omega) with rfl | rfl | rfl | rfl | rfl | rfl | rfl <;> rfl) (size := 63) (fun E1 => nX6_init l Γ hj (dw_r9_0 hk) E1) (by decide) (by decide +kernel) tw_kX6_init tw_iX6 tw_vX6_init rfl dw_hX6_init ⟨Nat.le_of_ble_eq_true rfl, Nat.le_of_ble_eq_true rfl⟩ ⟨Nat.le_of_ble_eq_true rfl, Nat.le_of_ble_eq_true rfl⟩ hl.1 (Nat.le_of_ble_eq_true rfl) dX9_init_5 dX9_init_8 dX9_init_9 (fun H locs B S => ?_)
  refine W.widen (k := 63) (n := 539) (by decide) (by decide) ?_
  have B : dn_B Γ b E0 i (.inr (9, [.null, .null, .int 0, .null, .null, .null])) (i + 64) H := B
  refine dn_putF C0 hin B S rfl tw_u9 tyX9_ok nmX9 0 (by decide) tw_fX9_12 rfl rfl rfl rfl rfl (Nat.le_of_ble_eq_true rfl) dX9_init_12 (fun H locs B S => ?_)
  have B : dn_B Γ b E0 i (.inr (9, [.ref (dw_ad Γ (i + 1)), .null, .int 0, .null, .null, .null])) (i + 64) H := B
  refine lv_aload_n hx hb dX9_init_15 rfl (lv_at hl 0 rfl) ?_
  refine dn_subN (host := RX9) C0 B S tyX6 tw_u6 tyX6_ok tw_cX9_9 tw_nX6 tw_iX6 rfl (fs := [.null, .null, .null, .null, .null, .null, .null]) (fun j hj => by rcases (show j = 0 ∨ j = 1 ∨ j = 2 ∨ j = 3 ∨ j = 4 ∨ j = 5 ∨ j = 6 by omega) with rfl | rfl | rfl | rfl | rfl | rfl | rfl <;> rfl) (size := 63) (fun E1 => nX6_init l Γ hj (dw_r9_1 hk) E1) (by decide) (by decide +kernel) tw_kX6_init tw_iX6 tw_vX6_init rfl dw_hX6_init ⟨Nat.le_of_ble_eq_true rfl, Nat.le_of_ble_eq_true rfl⟩ ⟨Nat.le_of_ble_eq_true rfl, Nat.le_of_ble_eq_true rfl⟩ hl.1 (Nat.le_of_ble_eq_true rfl) dX9_init_16 dX9_init_19 dX9_init_20 (fun H locs B S => ?_)
  refine W.widen (k := 126) (n := 1078) (by decide) (by decide) ?_
  have B : dn_B Γ b E0 i (.inr (9, [.ref (dw_ad Γ (i + 1)), .null, .int 0, .null, .null, .null])) (i + 127) H := B
  refine dn_putF C0 hin B S rfl tw_u9 tyX9_ok nmX9 1 (by decide) tw_fX9_16 rfl rfl rfl rfl rfl (Nat.le_of_ble_eq_true rfl) dX9_init_23 (fun H locs B S => ?_)
  have B : dn_B Γ b E0 i (.inr (9, [.ref (dw_ad Γ (i + 1)), .ref (dw_ad Γ (i + 64)), .int 0, .null, .null, .null])) (i + 127) H := B
  refine lv_aload_n hx hb dX9_init_26 rfl (lv_at hl 0 rfl) ?_
  refine dn_subN (host := RX9) C0 B S tyX8 tw_u8 tyX8_ok tw_cX9_19 tw_nX8 tw_iX8 rfl (fs := [.null, .null, .null, .null, .null, .null, .null, .int 0, .int 0]) (fun j hj => by rcases (show j = 0 ∨ j = 1 ∨ j = 2 ∨ j = 3 ∨ j = 4 ∨ j = 5 ∨ j = 6 ∨ j = 7 ∨ j = 8 by omega) with rfl | rfl | rfl | rfl | rfl | rfl | rfl | rfl | rfl <;> rfl) (size := 8) (fun E1 => nX8_init l Γ hj (dw_r9_3 hk) E1) (by decide) (by decide +kernel) tw_kX8_init tw_iX8 tw_vX8_init rfl dw_hX8_init ⟨Nat.le_of_ble_eq_true rfl, Nat.le_of_ble_eq_true rfl⟩ ⟨Nat.le_of_ble_eq_true rfl, Nat.le_of_ble_eq_true rfl⟩ hl.1 (Nat.le_of_ble_eq_true rfl) dX9_init_27 dX9_init_30 dX9_init_31 (fun H locs B S => ?_)
  refine W.widen (k := 134) (n := 1224) (by decide) (by decide) ?_
  have B : dn_B Γ b E0 i (.inr (9, [.ref (dw_ad Γ (i + 1)), .ref (dw_ad Γ (i + 64)), .int 0, .null, .null, .null])) (i + 135) H := B
  refine dn_putF C0 hin B S rfl tw_u9 tyX9_ok nmX9 3 (by decide) tw_fX9_22 rfl rfl rfl rfl rfl (Nat.le_of_ble_eq_true rfl) dX9_init_34 (fun H locs B S => ?_)
  have B : dn_B Γ b E0 i (.inr (9, [.ref (dw_ad Γ (i + 1)), .ref (dw_ad Γ (i + 64)), .int 0, .ref (dw_ad Γ (i + 127)), .null, .null])) (i + 135) H := B
  refine lv_aload_n hx hb dX9_init_37 rfl (lv_at hl 0 rfl) ?_
  refine dn_subN (host := RX9) C0 B S tyX0 tw_u0 tyX0_ok tw_cX9_26 tw_nX0 tw_iX0 rfl (fs := [.null, .int 0, .null, .null]) (fun j hj => by rcases (show j = 0 ∨ j = 1 ∨ j = 2 ∨ j = 3 by omega) with rfl | rfl | rfl | rfl <;> rfl) (size := 4) (fun E1 => nX0_init l Γ hj (dw_r9_4 hk) E1) (by decide) (by decide +kernel) tw_kX0_init tw_iX0 tw_vX0_init rfl dw_hX0_init ⟨Nat.le_of_ble_eq_true rfl, Nat.le_of_ble_eq_true rfl⟩ ⟨Nat.le_of_ble_eq_true rfl, Nat.le_of_ble_eq_true rfl⟩ hl.1 (Nat.le_of_ble_eq_true rfl) dX9_init_38 dX9_init_41 dX9_init_42 (fun H locs B S => ?_)
  refine W.widen (k := 138) (n := 2004) (by decide) (by decide) ?_
  have B : dn_B Γ b E0 i (.inr (9, [.ref (dw_ad Γ (i + 1)), .ref (dw_ad Γ (i + 64)), .int 0, .ref (dw_ad Γ (i + 127)), .null, .null])) (i + 139) H := B
  refine dn_putF C0 hin B S rfl tw_u9 tyX9_ok nmX9 4 (by decide) tw_fX9_29 rfl rfl rfl rfl rfl (Nat.le_of_ble_eq_true rfl) dX9_init_45 (fun H locs B S => ?_)
  have B : dn_B Γ b E0 i (.inr (9, [.ref (dw_ad Γ (i + 1)), .ref (dw_ad Γ (i + 64)), .int 0, .ref (dw_ad Γ (i + 127)), .ref (dw_ad Γ (i + 135)), .null])) (i + 139) H := B
  refine lv_aload_n hx hb dX9_init_48 rfl (lv_at hl 0 rfl) ?_
  refine dn_subN (host := RX9) C0 B S tyX7 tw_u7 tyX7_ok tw_cX9_33 tw_nX7 tw_iX7 rfl (fs := [.null, .null, .int 0, .int 0, .int 0, .int 0, .int 0, .int 0]) (fun j hj => by rcases (show j = 0 ∨ j = 1 ∨ j = 2 ∨ j = 3 ∨ j = 4 ∨ j = 5 ∨ j = 6 ∨ j = 7 by omega) with rfl | rfl | rfl | rfl | rfl | rfl | rfl | rfl <;> rfl) (size := 3) (fun E1 => nX7_init l Γ hj (dw_r9_5 hk) E1) (by decide) (by decide +kernel) tw_kX7_init tw_iX7 tw_vX7_init rfl dw_hX7_init ⟨Nat.le_of_ble_eq_true rfl, Nat.le_of_ble_eq_true rfl⟩ ⟨Nat.le_of_ble_eq_true rfl, Nat.le_of_ble_eq_true rfl⟩ hl.1 (Nat.le_of_ble_eq_true rfl) dX9_init_49 dX9_init_52 dX9_init_53 (fun H locs B S => ?_)
  refine W.widen (k := 141) (n := 2084) (by decide) (by decide) ?_
  have B : dn_B Γ b E0 i (.inr (9, [.ref (dw_ad Γ (i + 1)), .ref (dw_ad Γ (i + 64)), .int 0, .ref (dw_ad Γ (i + 127)), .ref (dw_ad Γ (i + 135)), .null])) (i + 142) H := B
  refine dn_putF C0 hin B S rfl tw_u9 tyX9_ok nmX9 5 (by decide) tw_fX9_36 rfl rfl rfl rfl rfl (Nat.le_of_ble_eq_true rfl) dX9_init_56 (fun H locs B S => ?_)
  have B : dn_B Γ b E0 i (.inr (9, [.ref (dw_ad Γ (i + 1)), .ref (dw_ad Γ (i + 64)), .int 0, .ref (dw_ad Γ (i + 127)), .ref (dw_ad Γ (i + 135)), .ref (dw_ad Γ (i + 139))])) (i + 142) H := B
  refine lv_aload_n hx hb dX9_init_59 rfl (lv_at hl 0 rfl) ?_
  refine lv_iconst (v := (0 : Int32)) hx hb dX9_init_60 (by decide) ?_
  refine dn_putI C0 B S rfl tw_u9 tyX9_ok nmX9 2 (by decide) tw_fX9_40 rfl rfl rfl rfl (Nat.le_of_ble_eq_true rfl) dX9_init_61 (fun H locs B S => ?_)
  have B : dn_B Γ b E0 i (.inr (9, [.ref (dw_ad Γ (i + 1)), .ref (dw_ad Γ (i + 64)), .int 0, .ref (dw_ad Γ (i + 127)), .ref (dw_ad Γ (i + 135)), .ref (dw_ad Γ (i + 139))])) (i + 142) H := B
  have B : dn_B Γ b E0 i (dn_F Γ i) (i + 142) H := by
    have ee : dn_F Γ i = .inr (9, [.ref (dw_ad Γ (i + 1)), .ref (dw_ad Γ (i + 64)), .int 0, .ref (dw_ad Γ (i + 127)), .ref (dw_ad Γ (i + 135)), .ref (dw_ad Γ (i + 139))]) := by
      unfold dn_F
      rw [dw_cz9 hk]
      simp [dw_f9, dn_m, hk]
    rw [ee]
    exact B
  exact dn_vret C0 B S hr hlk dX9_init_64
