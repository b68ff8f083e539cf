def sX9_fill_2 (i : Nat) (a1 : Int32) (x1 : Int32) (μ2 : dw_M) : Option ((Int32 × dw_M) ⊕ ((dw_M))) :=
  if (nI (dw_ln i)) ≤ x1 then (
  some (.inr μ2))
  else (
  dw_gd (dw_ok x1 (dw_ln i)) (
  dw_nm (dw_st μ2 i x1.toNatClampNeg a1) (fun μ5 =>
  dw_nm (x1 + (1 : Int32)) (fun x6 =>
  some (.inl (x6, μ5))))))
def fX9_fill (μ : dw_M) (i : Nat) (a1 : Int32) : Option (dw_M) :=
  dw_bd (dw_wh (fun v => sX9_fill_2 i a1 v.1 v.2) 1000 ((0 : Int32), μ))
    (fun μ7 => some μ7)
set_option maxHeartbeats 4000000 in
set_option maxRecDepth 100000 in
theorem kX9_fill (l : Launch) (Γ : dw_G) (hj : dw_inj Γ) (μ : dw_M) (i : Nat) (hk_i : dw_kd i = 11) (a1 : Int32) {ν : dw_M} (h : fX9_fill μ i a1 = some ν) : Met l yX9_fill (dw_ws yX9_fill cX9_fill 3 none) (dw_rm 0 0) (dw_P Γ ([.ref (dw_ad Γ i), .int a1] : List Value) μ) (dw_Qv Γ ν) 0 0 (dw_A Γ) := by
  refine dw_met (own := RX9) rfl rfl (Nat.le_of_ble_eq_true rfl) hj ?_
  intro p e s m below meth c C0 hr hlk Z ls hl
  have hx := C0.1
  have hb := C0.2.1
  have hl : lv_has ls 3 [(0, .ref (dw_ad Γ i)), (1, .int a1)] := hl
  suffices key : ∀ (H : Heap) (locs : List Loc), dw_Z Γ (dw_A Γ) s.heap μ H locs → W p l e (dw_rm 0 0) s m ([.ref (dw_ad Γ i), .int a1] : List Value).toArray below meth c H locs 0 0 (MQ below (dw_Qv Γ ν) ([.ref (dw_ad Γ i), .int a1] : List Value).toArray s 0 0 (dw_A Γ)) (F0 m 0 ls []) from key _ _ Z
  clear Z
  intro H locs Z
  unfold fX9_fill at h
  refine lv_iconst (v := (0 : Int32)) hx hb dX9_fill_0 (by decide) ?_
  refine lv_istore_n (lv' := [(2, .int (0 : Int32)), (0, .ref (dw_ad Γ i)), (1, .int a1)]) hx hb dX9_fill_1 rfl hl (by decide) rfl (fun ls hl => ?_)
  obtain ⟨kc2, ekc2, h⟩ := dw_bdK h
  have E2 : ∀ (μ7 : dw_M) (H : Heap) (locs : List Loc) (ls : Array Slot), dw_Z Γ (dw_A Γ) s.heap μ7 H locs → lv_has ls 3 [] → kc2 μ7 = some ν → W p l e (dw_rm 0 0) s m ([.ref (dw_ad Γ i), .int a1] : List Value).toArray below meth c H locs 0 0 (MQ below (dw_Qv Γ ν) ([.ref (dw_ad Γ i), .int a1] : List Value).toArray s 0 0 (dw_A Γ)) (F0 m 18 ls []) := by
    intro μ7 H locs ls Z hl h
    rw [ekc2] at h
    dsimp only at h
    obtain rfl := dw_s1 h
    exact dw_vret C0 Z hr hlk dX9_fill_18
  have L2 : ∀ (n2 : Nat) (x1 : Int32) (μ2 : dw_M) (H : Heap) (locs : List Loc) (ls : Array Slot), dw_Z Γ (dw_A Γ) s.heap μ2 H locs → lv_has ls 3 [(0, .ref (dw_ad Γ i)), (1, .int a1), (2, .int x1)] → dw_bd (dw_wh (fun v => sX9_fill_2 i a1 v.1 v.2) n2 (x1, μ2)) kc2 = some ν → W p l e (dw_rm 0 0) s m ([.ref (dw_ad Γ i), .int a1] : List Value).toArray below meth c H locs 0 0 (MQ below (dw_Qv Γ ν) ([.ref (dw_ad Γ i), .int a1] : List Value).toArray s 0 0 (dw_A Γ)) (F0 m 2 ls []) := by
    clear h
    intro n2
    induction n2 with
    | zero =>
      intro x1 μ2 H locs ls Z hl h
      exact (dw_wh0 h).elim
    | succ n2 ih2 =>
      intro x1 μ2 H locs ls Z hl h
      obtain ⟨q2, hs, hq2⟩ := dw_whB h
      have h : sX9_fill_2 i a1 x1 μ2 = some q2 := hs
      unfold sX9_fill_2 at h
      refine lv_iload_n hx hb dX9_fill_2 rfl (lv_at hl 2 rfl) ?_
      refine lv_aload_n hx hb dX9_fill_3 rfl (lv_at hl 0 rfl) ?_
      refine dw_alen C0 Z hk_i dX9_fill_4 ?_
      refine lv_icmp_ge (tgt := 18) hx hb dX9_fill_5 (by decide) (fun c3 => ?_) (fun c3 => ?_)
      · have h := dw_ifT c3 h
        obtain rfl := dw_s1 h
        exact E2  μ2 H locs ls Z (lv_sub hl [] rfl) hq2
      · have h := dw_ifF c3 h
        refine lv_aload_n hx hb dX9_fill_8 rfl (lv_at hl 0 rfl) ?_
        refine lv_iload_n hx hb dX9_fill_9 rfl (lv_at hl 2 rfl) ?_
        refine lv_iload_n hx hb dX9_fill_10 rfl (lv_at hl 1 rfl) ?_
        obtain ⟨g4, h⟩ := dw_gdS h
        refine dw_ast C0 Z dw_hA hk_i rfl g4 dX9_fill_11 (fun μ5 eμ5 H locs Z => ?_)
        have h := dw_nmS eμ5 h
        obtain ⟨x6, ex6⟩ := dw_eg (x1 + (1 : Int32))
        have h := dw_nmS ex6 h
        refine lv_iinc (v := x6) (lv' := [(2, .int x6), (0, .ref (dw_ad Γ i)), (1, .int a1)]) hx hb dX9_fill_12 hl (k := 2) rfl (by rw [ex6]; rfl) (by decide) rfl (fun ls hl => ?_)
        refine lv_goto (tgt := 2) hx hb dX9_fill_15 (by decide) ?_
        obtain rfl := dw_s1 h
        exact ih2 x6 μ5 H locs ls Z (lv_sub hl [1, 2, 0] rfl) hq2
  exact L2 1000 (0 : Int32) μ H locs ls Z (lv_sub hl [1, 2, 0] rfl) h

def fX5_isLateral (μ : dw_M) (i : Nat) : Int32 :=
  if (μ.1 i 1) = 0 then (
   (1 : Int32))
  else (
  if (μ.1 i 1) = (2 : Int32) then (
   (1 : Int32))
  else (
   (0 : Int32)))
set_option maxHeartbeats 4000000 in
set_option maxRecDepth 100000 in
theorem kX5_isLateral (l : Launch) (Γ : dw_G) (hj : dw_inj Γ) (μ : dw_M) (i : Nat) (hk_i : dw_kd i = 5) {r : Int32} (h : fX5_isLateral μ i = r) : Met l yX5_isLateral (dw_ws yX5_isLateral cX5_isLateral 1 (some .boolean)) (dw_rm 0 0) (dw_P Γ ([.ref (dw_ad Γ i)] : List Value) μ) (dw_Qi Γ r μ) 0 0 (dw_A Γ) := by
  refine dw_met (own := RX5) rfl rfl (Nat.le_of_ble_eq_true rfl) hj ?_
  intro p e s m below meth c C0 hr hlk Z ls hl
  have hx := C0.1
  have hb := C0.2.1
  have hl : lv_has ls 1 [(0, .ref (dw_ad Γ i))] := hl
  suffices key : ∀ (H : Heap) (locs : List Loc), dw_Z Γ (dw_A Γ) s.heap μ H locs → W p l e (dw_rm 0 0) s m ([.ref (dw_ad Γ i)] : List Value).toArray below meth c H locs 0 0 (MQ below (dw_Qi Γ r μ) ([.ref (dw_ad Γ i)] : List Value).toArray s 0 0 (dw_A Γ)) (F0 m 0 ls []) from key _ _ Z
  clear Z
  intro H locs Z
  unfold fX5_isLateral at h
  refine lv_aload_n hx hb dX5_isLateral_0 rfl (lv_at hl 0 rfl) ?_
  refine dw_g5_1 C0 Z hk_i tw_fX5_22 dX5_isLateral_1 ?_
  refine lv_if_eq (tgt := 15) hx hb dX5_isLateral_4 (by decide) (fun c1 => ?_) (fun c1 => ?_)
  · have h := dw_ifT c1 h
    refine lv_iconst (v := (1 : Int32)) hx hb dX5_isLateral_15 (by decide) ?_
    refine lv_goto (tgt := 20) hx hb dX5_isLateral_16 (by decide) ?_
    obtain rfl := dw_t1 h
    exact dw_zret C0 Z hr hlk rfl dX5_isLateral_20
  · have h := dw_ifF c1 h
    refine lv_aload_n hx hb dX5_isLateral_7 rfl (lv_at hl 0 rfl) ?_
    refine dw_g5_1 C0 Z hk_i tw_fX5_22 dX5_isLateral_8 ?_
    refine lv_iconst (v := (2 : Int32)) hx hb dX5_isLateral_11 (by decide) ?_
    refine lv_icmp_ne (tgt := 19) hx hb dX5_isLateral_12 (by decide) (fun c2 => ?_) (fun c2 => ?_)
    · have h := dw_ifF c2 h
      refine lv_iconst (v := (0 : Int32)) hx hb dX5_isLateral_19 (by decide) ?_
      obtain rfl := dw_t1 h
      exact dw_zret C0 Z hr hlk rfl dX5_isLateral_20
    · have h := dw_ifT c2 h
      refine lv_iconst (v := (1 : Int32)) hx hb dX5_isLateral_15 (by decide) ?_
      refine lv_goto (tgt := 20) hx hb dX5_isLateral_16 (by decide) ?_
      obtain rfl := dw_t1 h
      exact dw_zret C0 Z hr hlk rfl dX5_isLateral_20
theorem zX5_isLateral (μ : dw_M) (i : Nat) : narrow .boolean (.int (fX5_isLateral μ i)) = .int (fX5_isLateral μ i) := by
  unfold fX5_isLateral
  repeat' split
  all_goals first | rfl

def fX3_placeAt (μ : dw_M) (i : Nat) (a1 : Int32) : Int32 :=
   ((μ.1 i 0) + (a1 * (μ.1 i 1)))
set_option maxHeartbeats 4000000 in
set_option maxRecDepth 100000 in
theorem kX3_placeAt (l : Launch) (Γ : dw_G) (hj : dw_inj Γ) (μ : dw_M) (i : Nat) (hk_i : dw_kd i = 3) (a1 : Int32) {r : Int32} (h : fX3_placeAt μ i a1 = r) : Met l yX3_placeAt (dw_ws yX3_placeAt cX3_placeAt 2 (some .int)) (dw_rm 0 0) (dw_P Γ ([.ref (dw_ad Γ i), .int a1] : List Value) μ) (dw_Qi Γ r μ) 0 0 (dw_A Γ) := by
  refine dw_met (own := RX3) rfl rfl (Nat.le_of_ble_eq_true rfl) hj ?_
  intro p e s m below meth c C0 hr hlk Z ls hl
  have hx := C0.1
  have hb := C0.2.1
  have hl : lv_has ls 2 [(0, .ref (dw_ad Γ i)), (1, .int a1)] := hl
  suffices key : ∀ (H : Heap) (locs : List Loc), dw_Z Γ (dw_A Γ) s.heap μ H locs → W p l e (dw_rm 0 0) s m ([.ref (dw_ad Γ i), .int a1] : List Value).toArray below meth c H locs 0 0 (MQ below (dw_Qi Γ r μ) ([.ref (dw_ad Γ i), .int a1] : List Value).toArray s 0 0 (dw_A Γ)) (F0 m 0 ls []) from key _ _ Z
  clear Z
  intro H locs Z
  unfold fX3_placeAt at h
  refine lv_aload_n hx hb dX3_placeAt_0 rfl (lv_at hl 0 rfl) ?_
  refine dw_g3_0 C0 Z hk_i tw_fX3_7 dX3_placeAt_1 ?_
  refine lv_iload_n hx hb dX3_placeAt_4 rfl (lv_at hl 1 rfl) ?_
  refine lv_aload_n hx hb dX3_placeAt_5 rfl (lv_at hl 0 rfl) ?_
  refine dw_g3_1 C0 Z hk_i tw_fX3_13 dX3_placeAt_6 ?_
  refine lv_imul hx hb dX3_placeAt_9 ?_
  refine lv_iadd hx hb dX3_placeAt_10 ?_
  obtain rfl := dw_t1 h
  exact dw_iret C0 Z hr hlk dX3_placeAt_11

def sX0_addDrain_2 (i : Nat) (a1 : Int32) (x1 : Int32) (μ2 : dw_M) : Option ((Int32 × dw_M) ⊕ ((dw_M))) :=
  if (μ2.1 i 2) ≤ x1 then (
  some (.inr μ2))
  else (
  dw_nm (fX3_placeAt μ2 i x1) (fun x4 =>
  dw_gd (dw_ok x4 36) (
  dw_gd (dw_ok ((x4 * (20 : Int32)) + (μ2.1 138 x4.toNatClampNeg)) 720) (
  dw_nm (dw_st μ2 139 ((x4 * (20 : Int32)) + (μ2.1 138 x4.toNatClampNeg)).toNatClampNeg a1) (fun μ7 =>
  dw_nm (dw_st μ7 138 x4.toNatClampNeg ((μ7.1 138 x4.toNatClampNeg) + (1 : Int32))) (fun μ8 =>
  dw_nm (x1 + (1 : Int32)) (fun x9 =>
  some (.inl (x9, μ8)))))))))
def fX0_addDrain (μ : dw_M) (i : Nat) (a1 : Int32) : Option (dw_M) :=
  dw_bd (dw_wh (fun v => sX0_addDrain_2 i a1 v.1 v.2) 1000 ((0 : Int32), μ))
    (fun μ10 => some μ10)
set_option maxHeartbeats 4000000 in
set_option maxRecDepth 100000 in
theorem kX0_addDrain (l : Launch) (Γ : dw_G) (hj : dw_inj Γ) (μ : dw_M) (i : Nat) (hk_i : dw_kd i = 3) (a1 : Int32) {ν : dw_M} (h : fX0_addDrain μ i a1 = some ν) : Met l yX0_addDrain (dw_ws yX0_addDrain cX0_addDrain 5 none) (dw_rm 1 21) (dw_P Γ ([.ref (dw_ad Γ 135), .ref (dw_ad Γ i), .int a1] : List Value) μ) (dw_Qv Γ ν) 0 0 (dw_A Γ) := by
  refine dw_met (own := RX0) rfl rfl (Nat.le_of_ble_eq_true rfl) hj ?_
  intro p e s m below meth c C0 hr hlk Z ls hl
  have hx := C0.1
  have hb := C0.2.1
  have hl : lv_has ls 5 [(0, .ref (dw_ad Γ 135)), (1, .ref (dw_ad Γ i)), (2, .int a1)] := hl
  suffices key : ∀ (H : Heap) (locs : List Loc), dw_Z Γ (dw_A Γ) s.heap μ H locs → W p l e (dw_rm 1 21) s m ([.ref (dw_ad Γ 135), .ref (dw_ad Γ i), .int a1] : List Value).toArray below meth c H locs 0 0 (MQ below (dw_Qv Γ ν) ([.ref (dw_ad Γ 135), .ref (dw_ad Γ i), .int a1] : List Value).toArray s 0 0 (dw_A Γ)) (F0 m 0 ls []) from key _ _ Z
  clear Z
  intro H locs Z
  unfold fX0_addDrain at h
  refine lv_iconst (v := (0 : Int32)) hx hb dX0_addDrain_0 (by decide) ?_
  refine lv_istore_n (lv' := [(3, .int (0 : Int32)), (0, .ref (dw_ad Γ 135)), (1, .ref (dw_ad Γ i)), (2, .int a1)]) hx hb dX0_addDrain_1 rfl hl (by decide) rfl (fun ls hl => ?_)
  obtain ⟨kc2, ekc2, h⟩ := dw_bdK h
  have E2 : ∀ (μ10 : dw_M) (H : Heap) (locs : List Loc) (ls : Array Slot), dw_Z Γ (dw_A Γ) s.heap μ10 H locs → lv_has ls 5 [] → kc2 μ10 = some ν → W p l e (dw_rm 1 21) s m ([.ref (dw_ad Γ 135), .ref (dw_ad Γ i), .int a1] : List Value).toArray below meth c H locs 0 0 (MQ below (dw_Qv Γ ν) ([.ref (dw_ad Γ 135), .ref (dw_ad Γ i), .int a1] : List Value).toArray s 0 0 (dw_A Γ)) (F0 m 53 ls []) := by
    intro μ10 H locs ls Z hl h
    rw [ekc2] at h
    dsimp only at h
    obtain rfl := dw_s1 h
    exact dw_vret C0 Z hr hlk dX0_addDrain_53
  have L2 : ∀ (n2 : Nat) (x1 : Int32) (μ2 : dw_M) (H : Heap) (locs : List Loc) (ls : Array Slot), dw_Z Γ (dw_A Γ) s.heap μ2 H locs → lv_has ls 5 [(0, .ref (dw_ad Γ 135)), (1, .ref (dw_ad Γ i)), (2, .int a1), (3, .int x1)] → dw_bd (dw_wh (fun v => sX0_addDrain_2 i a1 v.1 v.2) n2 (x1, μ2)) kc2 = some ν → W p l e (dw_rm 1 21) s m ([.ref (dw_ad Γ 135), .ref (dw_ad Γ i), .int a1] : List Value).toArray below meth c H locs 0 0 (MQ below (dw_Qv Γ ν) ([.ref (dw_ad Γ 135), .ref (dw_ad Γ i), .int a1] : List Value).toArray s 0 0 (dw_A Γ)) (F0 m 2 ls []) := by
    clear h
    intro n2
    induction n2 with
    | zero =>
      intro x1 μ2 H locs ls Z hl h
      exact (dw_wh0 h).elim
    | succ n2 ih2 =>
      intro x1 μ2 H locs ls Z hl h
      obtain ⟨q2, hs, hq2⟩ := dw_whB h
      have h : sX0_addDrain_2 i a1 x1 μ2 = some q2 := hs
      unfold sX0_addDrain_2 at h
      refine lv_iload_n hx hb dX0_addDrain_2 rfl (lv_at hl 3 rfl) ?_
      refine lv_aload_n hx hb dX0_addDrain_3 rfl (lv_at hl 1 rfl) ?_
      refine dw_g3_2 C0 Z hk_i tw_fX0_59 dX0_addDrain_4 ?_
      refine lv_icmp_ge (tgt := 53) hx hb dX0_addDrain_7 (by decide) (fun c3 => ?_) (fun c3 => ?_)
      · have h := dw_ifT c3 h
        obtain rfl := dw_s1 h
        exact E2  μ2 H locs ls Z (lv_sub hl [] rfl) hq2
      · have h := dw_ifF c3 h
        refine lv_aload_n hx hb dX0_addDrain_10 rfl (lv_at hl 1 rfl) ?_
        refine lv_iload_n hx hb dX0_addDrain_11 rfl (lv_at hl 3 rfl) ?_
        refine dw_cVi C0 Z dw_hA (dw_lt hk_i (by decide)) (dw_cz3 hk_i) rfl (As := [.int x1]) (rest := []) (kX3_placeAt l Γ hj μ2 i hk_i x1 rfl) (dw_gV tw_lX0_64 tw_vX3_placeAt tw_eX3_placeAt tw_iX3 tw_kX3_placeAt) dw_hX3_placeAt ⟨Nat.le_of_ble_eq_true rfl, Nat.le_of_ble_eq_true rfl⟩ ⟨Nat.zero_le _, Nat.zero_le _⟩ hl.1 (Nat.le_of_ble_eq_true rfl) rfl dX0_addDrain_12 (fun H locs Z => ?_)
        refine lv_topi (fun x4 ex4 => ?_)
        have h := dw_nmS ex4 h
        refine lv_istore (lv' := [(4, .int x4), (0, .ref (dw_ad Γ 135)), (1, .ref (dw_ad Γ i)), (2, .int a1), (3, .int x1)]) hx hb dX0_addDrain_15 hl (by decide) rfl (fun ls hl => ?_)
        refine lv_aload_n hx hb dX0_addDrain_17 rfl (lv_at hl 1 rfl) ?_
        refine dw_g0_3 (t := 139) C0 Z dw_kc135 tw_fX0_21 rfl dX0_addDrain_18 ?_
        refine lv_iload hx hb dX0_addDrain_21 (lv_at hl 0 rfl) ?_
        refine lv_bipush (v := (20 : Int32)) hx hb dX0_addDrain_23 (by decide) ?_
        refine lv_imul hx hb dX0_addDrain_25 ?_
        refine lv_aload_n hx hb dX0_addDrain_26 rfl (lv_at hl 1 rfl) ?_
        refine dw_g0_2 (t := 138) C0 Z dw_kc135 tw_fX0_18 rfl dX0_addDrain_27 ?_
        refine lv_iload hx hb dX0_addDrain_30 (lv_at hl 0 rfl) ?_
        obtain ⟨g5, h⟩ := dw_gdS h
        refine dw_ald C0 Z dw_kc138 dw_lc138 g5 dX0_addDrain_32 ?_
        refine lv_iadd hx hb dX0_addDrain_33 ?_
        refine lv_iload_n hx hb dX0_addDrain_34 rfl (lv_at hl 3 rfl) ?_
        obtain ⟨g6, h⟩ := dw_gdS h
        refine dw_ast C0 Z dw_hA dw_kc139 dw_lc139 g6 dX0_addDrain_35 (fun μ7 eμ7 H locs Z => ?_)
        have h := dw_nmS eμ7 h
        refine lv_aload_n hx hb dX0_addDrain_36 rfl (lv_at hl 1 rfl) ?_
        refine dw_g0_2 (t := 138) C0 Z dw_kc135 tw_fX0_18 rfl dX0_addDrain_37 ?_
        refine lv_iload hx hb dX0_addDrain_40 (lv_at hl 0 rfl) ?_
        refine lv_dup2_11 hx hb dX0_addDrain_42 rfl rfl ?_
        refine dw_ald C0 Z dw_kc138 dw_lc138 g5 dX0_addDrain_43 ?_
        refine lv_iconst (v := (1 : Int32)) hx hb dX0_addDrain_44 (by decide) ?_
        refine lv_iadd hx hb dX0_addDrain_45 ?_
        refine dw_ast C0 Z dw_hA dw_kc138 dw_lc138 g5 dX0_addDrain_46 (fun μ8 eμ8 H locs Z => ?_)
        have h := dw_nmS eμ8 h
        obtain ⟨x9, ex9⟩ := dw_eg (x1 + (1 : Int32))
        have h := dw_nmS ex9 h
        refine lv_iinc (v := x9) (lv' := [(3, .int x9), (4, .int x4), (0, .ref (dw_ad Γ 135)), (1, .ref (dw_ad Γ i)), (2, .int a1)]) hx hb dX0_addDrain_47 hl (k := 4) rfl (by rw [ex9]; rfl) (by decide) rfl (fun ls hl => ?_)
        refine lv_goto (tgt := 2) hx hb dX0_addDrain_50 (by decide) ?_
        obtain rfl := dw_s1 h
        exact ih2 x9 μ8 H locs ls Z (lv_sub hl [2, 3, 4, 0] rfl) hq2
  exact L2 1000 (0 : Int32) μ H locs ls Z (lv_sub hl [1, 2, 3, 0] rfl) h

def sX0_planDrains_10  (x3 : Int32) (μ4 : dw_M) : Option ((Int32 × dw_M) ⊕ ((dw_M))) :=
  if (μ4.1 11 1) ≤ x3 then (
  some (.inr μ4))
  else (
  dw_gd (dw_ok x3 20) (
  if (fX5_isLateral μ4 (12 + 1 + 2 * x3.toNatClampNeg)) = 0 then (
  dw_nm (x3 + (1 : Int32)) (fun x8 =>
  some (.inl (x8, μ4))))
  else (
  dw_bd (fX0_addDrain μ4 ((12 + 1 + 2 * x3.toNatClampNeg) + 1) x3) (fun μ10 =>
  dw_nm (x3 + (1 : Int32)) (fun x11 =>
  some (.inl (x11, μ10)))))))
def fX0_planDrains (μ : dw_M) : Option (dw_M) :=
  dw_bd (fX9_fill μ 138 (0 : Int32)) (fun μ2 =>
  dw_bd (dw_wh (fun v => sX0_planDrains_10 v.1 v.2) 1000 ((0 : Int32), μ2))
    (fun μ12 => some μ12))
set_option maxHeartbeats 4000000 in
set_option maxRecDepth 100000 in
theorem kX0_planDrains (l : Launch) (Γ : dw_G) (hj : dw_inj Γ) (μ : dw_M)  {ν : dw_M} (h : fX0_planDrains μ = some ν) : Met l yX0_planDrains (dw_ws yX0_planDrains cX0_planDrains 3 none) (dw_rm 2 45) (dw_P Γ ([.ref (dw_ad Γ 135), .ref (dw_ad Γ 11)] : List Value) μ) (dw_Qv Γ ν) 0 0 (dw_A Γ) := by
  refine dw_met (own := RX0) rfl rfl (Nat.le_of_ble_eq_true rfl) hj ?_
  intro p e s m below meth c C0 hr hlk Z ls hl
  have hx := C0.1
  have hb := C0.2.1
  have hl : lv_has ls 3 [(0, .ref (dw_ad Γ 135)), (1, .ref (dw_ad Γ 11))] := hl
  suffices key : ∀ (H : Heap) (locs : List Loc), dw_Z Γ (dw_A Γ) s.heap μ H locs → W p l e (dw_rm 2 45) s m ([.ref (dw_ad Γ 135), .ref (dw_ad Γ 11)] : List Value).toArray below meth c H locs 0 0 (MQ below (dw_Qv Γ ν) ([.ref (dw_ad Γ 135), .ref (dw_ad Γ 11)] : List Value).toArray s 0 0 (dw_A Γ)) (F0 m 0 ls []) from key _ _ Z
  clear Z
  intro H locs Z
  unfold fX0_planDrains at h
  refine lv_aload_n hx hb dX0_planDrains_0 rfl (lv_at hl 0 rfl) ?_
  refine dw_g0_2 (t := 138) C0 Z dw_kc135 tw_fX0_18 rfl dX0_planDrains_1 ?_
  refine lv_iconst (v := (0 : Int32)) hx hb dX0_planDrains_4 (by decide) ?_
  obtain ⟨μ2, hc1, h⟩ := dw_bdS h
  refine dw_cNv (host := RX9) C0 Z dw_hA (As := [.ref (dw_ad Γ 138), .int (0 : Int32)]) (rest := []) (kX9_fill l Γ hj μ 138 dw_kc138 (0 : Int32) hc1) (by decide +kernel) tw_kX9_fill tw_iX9 tw_sX9_fill dw_hX9_fill ⟨Nat.le_of_ble_eq_true rfl, Nat.le_of_ble_eq_true rfl⟩ ⟨Nat.zero_le _, Nat.zero_le _⟩ hl.1 (Nat.le_of_ble_eq_true rfl) rfl dX0_planDrains_5 (fun H locs Z => ?_)
  refine lv_iconst (v := (0 : Int32)) hx hb dX0_planDrains_8 (by decide) ?_
  refine lv_istore_n (lv' := [(2, .int (0 : Int32)), (0, .ref (dw_ad Γ 135)), (1, .ref (dw_ad Γ 11))]) hx hb dX0_planDrains_9 rfl hl (by decide) rfl (fun ls hl => ?_)
  obtain ⟨kc10, ekc10, h⟩ := dw_bdK h
  have E10 : ∀ (μ12 : dw_M) (H : Heap) (locs : List Loc) (ls : Array Slot), dw_Z Γ (dw_A Γ) s.heap μ12 H locs → lv_has ls 3 [] → kc10 μ12 = some ν → W p l e (dw_rm 2 45) s m ([.ref (dw_ad Γ 135), .ref (dw_ad Γ 11)] : List Value).toArray below meth c H locs 0 0 (MQ below (dw_Qv Γ ν) ([.ref (dw_ad Γ 135), .ref (dw_ad Γ 11)] : List Value).toArray s 0 0 (dw_A Γ)) (F0 m 50 ls []) := by
    intro μ12 H locs ls Z hl h
    rw [ekc10] at h
    dsimp only at h
    obtain rfl := dw_s1 h
    exact dw_vret C0 Z hr hlk dX0_planDrains_50
  have L10 : ∀ (n10 : Nat) (x3 : Int32) (μ4 : dw_M) (H : Heap) (locs : List Loc) (ls : Array Slot), dw_Z Γ (dw_A Γ) s.heap μ4 H locs → lv_has ls 3 [(0, .ref (dw_ad Γ 135)), (1, .ref (dw_ad Γ 11)), (2, .int x3)] → dw_bd (dw_wh (fun v => sX0_planDrains_10 v.1 v.2) n10 (x3, μ4)) kc10 = some ν → W p l e (dw_rm 2 45) s m ([.ref (dw_ad Γ 135), .ref (dw_ad Γ 11)] : List Value).toArray below meth c H locs 0 0 (MQ below (dw_Qv Γ ν) ([.ref (dw_ad Γ 135), .ref (dw_ad Γ 11)] : List Value).toArray s 0 0 (dw_A Γ)) (F0 m 10 ls []) := by
    clear h
    intro n10
    induction n10 with
    | zero =>
      intro x3 μ4 H locs ls Z hl h
      exact (dw_wh0 h).elim
    | succ n10 ih10 =>
      intro x3 μ4 H locs ls Z hl h
      obtain ⟨q10, hs, hq10⟩ := dw_whB h
      have h : sX0_planDrains_10 x3 μ4 = some q10 := hs
      unfold sX0_planDrains_10 at h
      refine lv_iload_n hx hb dX0_planDrains_10 rfl (lv_at hl 2 rfl) ?_
      refine lv_aload_n hx hb dX0_planDrains_11 rfl (lv_at hl 1 rfl) ?_
      refine dw_g4_1 C0 Z dw_kc11 tw_fX0_35 dX0_planDrains_12 ?_
      refine lv_icmp_ge (tgt := 50) hx hb dX0_planDrains_15 (by decide) (fun c5 => ?_) (fun c5 => ?_)
      · have h := dw_ifT c5 h
        obtain rfl := dw_s1 h
        exact E10  μ4 H locs ls Z (lv_sub hl [] rfl) hq10
      · have h := dw_ifF c5 h
        refine lv_aload_n hx hb dX0_planDrains_18 rfl (lv_at hl 1 rfl) ?_
        refine dw_g4_0 (t := 12) C0 Z dw_kc11 tw_fX0_41 rfl dX0_planDrains_19 ?_
        refine lv_iload_n hx hb dX0_planDrains_22 rfl (lv_at hl 2 rfl) ?_
        obtain ⟨g6, h⟩ := dw_gdS h
        refine dw_aald C0 Z dw_kc12 g6 dX0_planDrains_23 ?_
        refine dw_cVi C0 Z dw_hA (dw_lt (dw_pk dw_kc12 (dw_ok_lt g6)) (by decide)) (dw_cz5 (dw_pk dw_kc12 (dw_ok_lt g6))) rfl (As := []) (rest := []) (kX5_isLateral l Γ hj μ4 (12 + 1 + 2 * x3.toNatClampNeg) (dw_pk dw_kc12 (dw_ok_lt g6)) rfl) (dw_gV tw_lX0_45 tw_vX5_isLateral tw_eX5_isLateral tw_iX5 tw_kX5_isLateral) dw_hX5_isLateral ⟨Nat.le_of_ble_eq_true rfl, Nat.le_of_ble_eq_true rfl⟩ ⟨Nat.zero_le _, Nat.zero_le _⟩ hl.1 (Nat.le_of_ble_eq_true rfl) rfl dX0_planDrains_24 (fun H locs Z => ?_)
        refine lv_if_eq (tgt := 44) hx hb dX0_planDrains_27 (by decide) (fun c7 => ?_) (fun c7 => ?_)
        · have h := dw_ifT c7 h
          obtain ⟨x8, ex8⟩ := dw_eg (x3 + (1 : Int32))
          have h := dw_nmS ex8 h
          refine lv_iinc (v := x8) (lv' := [(2, .int x8), (0, .ref (dw_ad Γ 135)), (1, .ref (dw_ad Γ 11))]) hx hb dX0_planDrains_44 hl (k := 2) rfl (by rw [ex8]; rfl) (by decide) rfl (fun ls hl => ?_)
          refine lv_goto (tgt := 10) hx hb dX0_planDrains_47 (by decide) ?_
          obtain rfl := dw_s1 h
          exact ih10 x8 μ4 H locs ls Z (lv_sub hl [1, 2, 0] rfl) hq10
        · have h := dw_ifF c7 h
          refine lv_aload_n hx hb dX0_planDrains_30 rfl (lv_at hl 0 rfl) ?_
          refine lv_aload_n hx hb dX0_planDrains_31 rfl (lv_at hl 1 rfl) ?_
          refine dw_g4_0 (t := 12) C0 Z dw_kc11 tw_fX0_41 rfl dX0_planDrains_32 ?_
          refine lv_iload_n hx hb dX0_planDrains_35 rfl (lv_at hl 2 rfl) ?_
          refine dw_aald C0 Z dw_kc12 g6 dX0_planDrains_36 ?_
          refine dw_g5_0 (t := ((12 + 1 + 2 * x3.toNatClampNeg) + 1)) C0 Z (dw_pk dw_kc12 (dw_ok_lt g6)) tw_fX0_51 rfl dX0_planDrains_37 ?_
          refine lv_iload_n hx hb dX0_planDrains_40 rfl (lv_at hl 2 rfl) ?_
          obtain ⟨μ10, hc9, h⟩ := dw_bdS h
          refine dw_cVv C0 Z dw_hA (dw_lt dw_kc135 (by decide)) (dw_cz0 dw_kc135) rfl (As := [.ref (dw_ad Γ ((12 + 1 + 2 * x3.toNatClampNeg) + 1)), .int x3]) (rest := []) (kX0_addDrain l Γ hj μ4 ((12 + 1 + 2 * x3.toNatClampNeg) + 1) (dw_r5_0 (dw_pk dw_kc12 (dw_ok_lt g6))) x3 hc9) (dw_gV tw_lX0_55 tw_vX0_addDrain tw_eX0_addDrain tw_iX0 tw_kX0_addDrain) dw_hX0_addDrain ⟨Nat.le_of_ble_eq_true rfl, Nat.le_of_ble_eq_true rfl⟩ ⟨Nat.zero_le _, Nat.zero_le _⟩ hl.1 (Nat.le_of_ble_eq_true rfl) rfl dX0_planDrains_41 (fun H locs Z => ?_)
          obtain ⟨x11, ex11⟩ := dw_eg (x3 + (1 : Int32))
          have h := dw_nmS ex11 h
          refine lv_iinc (v := x11) (lv' := [(2, .int x11), (0, .ref (dw_ad Γ 135)), (1, .ref (dw_ad Γ 11))]) hx hb dX0_planDrains_44 hl (k := 2) rfl (by rw [ex11]; rfl) (by decide) rfl (fun ls hl => ?_)
          refine lv_goto (tgt := 10) hx hb dX0_planDrains_47 (by decide) ?_
          obtain rfl := dw_s1 h
          exact ih10 x11 μ10 H locs ls Z (lv_sub hl [1, 2, 0] rfl) hq10
  exact L10 1000 (0 : Int32) μ2 H locs ls Z (lv_sub hl [1, 2, 0] rfl) h

def fX5_leadsIntoPipe (μ : dw_M) (i : Nat) : Int32 :=
  if (μ.1 i 5) < 0 then (
   (0 : Int32))
  else (
  if (100 : Int32) ≤ (μ.1 i 5) then (
   (0 : Int32))
  else (
   (1 : Int32)))
set_option maxHeartbeats 4000000 in
set_option maxRecDepth 100000 in
theorem kX5_leadsIntoPipe (l : Launch) (Γ : dw_G) (hj : dw_inj Γ) (μ : dw_M) (i : Nat) (hk_i : dw_kd i = 5) {r : Int32} (h : fX5_leadsIntoPipe μ i = r) : Met l yX5_leadsIntoPipe (dw_ws yX5_leadsIntoPipe cX5_leadsIntoPipe 1 (some .boolean)) (dw_rm 0 0) (dw_P Γ ([.ref (dw_ad Γ i)] : List Value) μ) (dw_Qi Γ r μ) 0 0 (dw_A Γ) := by
  refine dw_met (own := RX5) rfl rfl (Nat.le_of_ble_eq_true rfl) hj ?_
  intro p e s m below meth c C0 hr hlk Z ls hl
  have hx := C0.1
  have hb := C0.2.1
  have hl : lv_has ls 1 [(0, .ref (dw_ad Γ i))] := hl
  suffices key : ∀ (H : Heap) (locs : List Loc), dw_Z Γ (dw_A Γ) s.heap μ H locs → W p l e (dw_rm 0 0) s m ([.ref (dw_ad Γ i)] : List Value).toArray below meth c H locs 0 0 (MQ below (dw_Qi Γ r μ) ([.ref (dw_ad Γ i)] : List Value).toArray s 0 0 (dw_A Γ)) (F0 m 0 ls []) from key _ _ Z
  clear Z
  intro H locs Z
  unfold fX5_leadsIntoPipe at h
  refine lv_aload_n hx hb dX5_leadsIntoPipe_0 rfl (lv_at hl 0 rfl) ?_
  refine dw_g5_5 C0 Z hk_i tw_fX5_41 dX5_leadsIntoPipe_1 ?_
  refine lv_if_lt (tgt := 20) hx hb dX5_leadsIntoPipe_4 (by decide) (fun c1 => ?_) (fun c1 => ?_)
  · have h := dw_ifT c1 h
    refine lv_iconst (v := (0 : Int32)) hx hb dX5_leadsIntoPipe_20 (by decide) ?_
    obtain rfl := dw_t1 h
    exact dw_zret C0 Z hr hlk rfl dX5_leadsIntoPipe_21
  · have h := dw_ifF c1 h
    refine lv_aload_n hx hb dX5_leadsIntoPipe_7 rfl (lv_at hl 0 rfl) ?_
    refine dw_g5_5 C0 Z hk_i tw_fX5_41 dX5_leadsIntoPipe_8 ?_
    refine lv_bipush (v := (100 : Int32)) hx hb dX5_leadsIntoPipe_11 (by decide) ?_
    refine lv_icmp_ge (tgt := 20) hx hb dX5_leadsIntoPipe_13 (by decide) (fun c2 => ?_) (fun c2 => ?_)
    · have h := dw_ifT c2 h
      refine lv_iconst (v := (0 : Int32)) hx hb dX5_leadsIntoPipe_20 (by decide) ?_
      obtain rfl := dw_t1 h
      exact dw_zret C0 Z hr hlk rfl dX5_leadsIntoPipe_21
    · have h := dw_ifF c2 h
      refine lv_iconst (v := (1 : Int32)) hx hb dX5_leadsIntoPipe_16 (by decide) ?_
      refine lv_goto (tgt := 21) hx hb dX5_leadsIntoPipe_17 (by decide) ?_
      obtain rfl := dw_t1 h
      exact dw_zret C0 Z hr hlk rfl dX5_leadsIntoPipe_21
theorem zX5_leadsIntoPipe (μ : dw_M) (i : Nat) : narrow .boolean (.int (fX5_leadsIntoPipe μ i)) = .int (fX5_leadsIntoPipe μ i) := by
  unfold fX5_leadsIntoPipe
  repeat' split
  all_goals first | rfl

def sX4_rankOf_4 (μ : dw_M) (x1 : Int32) (x2 : Int32) : Option ((Int32 × Int32) ⊕ ((Int32))) :=
  if (20 : Int32) ≤ x1 then (
  some (.inr x1))
  else (
  dw_gd (dw_ok x2 20) (
  if (fX5_leadsIntoPipe μ (12 + 1 + 2 * x2.toNatClampNeg)) = 0 then (
  some (.inr x1))
  else (
  dw_nm (μ.1 (12 + 1 + 2 * x2.toNatClampNeg) 5) (fun x6 =>
  dw_nm (x1 + (1 : Int32)) (fun x7 =>
  some (.inl (x7, x6)))))))
def fX4_rankOf (μ : dw_M) (a1 : Int32) : Option (Int32) :=
  dw_bd (dw_wh (fun v => sX4_rankOf_4 μ v.1 v.2) 1000 ((0 : Int32), a1))
    (fun x8 => some x8)
set_option maxHeartbeats 4000000 in
set_option maxRecDepth 100000 in
theorem kX4_rankOf (l : Launch) (Γ : dw_G) (hj : dw_inj Γ) (μ : dw_M) (a1 : Int32) {r : Int32} (h : fX4_rankOf μ a1 = some r) : Met l yX4_rankOf (dw_ws yX4_rankOf cX4_rankOf 4 (some .int)) (dw_rm 1 20) (dw_P Γ ([.ref (dw_ad Γ 11), .int a1] : List Value) μ) (dw_Qi Γ r μ) 0 0 (dw_A Γ) := by
  refine dw_met (own := RX4) rfl rfl (Nat.le_of_ble_eq_true rfl) hj ?_
  intro p e s m below meth c C0 hr hlk Z ls hl
  have hx := C0.1
  have hb := C0.2.1
  have hl : lv_has ls 4 [(0, .ref (dw_ad Γ 11)), (1, .int a1)] := hl
  suffices key : ∀ (H : Heap) (locs : List Loc), dw_Z Γ (dw_A Γ) s.heap μ H locs → W p l e (dw_rm 1 20) s m ([.ref (dw_ad Γ 11), .int a1] : List Value).toArray below meth c H locs 0 0 (MQ below (dw_Qi Γ r μ) ([.ref (dw_ad Γ 11), .int a1] : List Value).toArray s 0 0 (dw_A Γ)) (F0 m 0 ls []) from key _ _ Z
  clear Z
  intro H locs Z
  unfold fX4_rankOf at h
  refine lv_iconst (v := (0 : Int32)) hx hb dX4_rankOf_0 (by decide) ?_
  refine lv_istore_n (lv' := [(2, .int (0 : Int32)), (0, .ref (dw_ad Γ 11)), (1, .int a1)]) hx hb dX4_rankOf_1 rfl hl (by decide) rfl (fun ls hl => ?_)
  refine lv_iload_n hx hb dX4_rankOf_2 rfl (lv_at hl 2 rfl) ?_
  refine lv_istore_n (lv' := [(3, .int a1), (2, .int (0 : Int32)), (0, .ref (dw_ad Γ 11)), (1, .int a1)]) hx hb dX4_rankOf_3 rfl hl (by decide) rfl (fun ls hl => ?_)
  obtain ⟨kc4, ekc4, h⟩ := dw_bdK h
  have E4 : ∀ (x8 : Int32) (H : Heap) (locs : List Loc) (ls : Array Slot), dw_Z Γ (dw_A Γ) s.heap μ H locs → lv_has ls 4 [(2, .int x8)] → kc4 x8 = some r → W p l e (dw_rm 1 20) s m ([.ref (dw_ad Γ 11), .int a1] : List Value).toArray below meth c H locs 0 0 (MQ below (dw_Qi Γ r μ) ([.ref (dw_ad Γ 11), .int a1] : List Value).toArray s 0 0 (dw_A Γ)) (F0 m 38 ls []) := by
    intro x8 H locs ls Z hl h
    rw [ekc4] at h
    dsimp only at h
    refine lv_iload_n hx hb dX4_rankOf_38 rfl (lv_at hl 0 rfl) ?_
    obtain rfl := dw_s1 h
    exact dw_iret C0 Z hr hlk dX4_rankOf_39
  have L4 : ∀ (n4 : Nat) (x1 : Int32) (x2 : Int32) (H : Heap) (locs : List Loc) (ls : Array Slot), dw_Z Γ (dw_A Γ) s.heap μ H locs → lv_has ls 4 [(0, .ref (dw_ad Γ 11)), (2, .int x1), (3, .int x2)] → dw_bd (dw_wh (fun v => sX4_rankOf_4 μ v.1 v.2) n4 (x1, x2)) kc4 = some r → W p l e (dw_rm 1 20) s m ([.ref (dw_ad Γ 11), .int a1] : List Value).toArray below meth c H locs 0 0 (MQ below (dw_Qi Γ r μ) ([.ref (dw_ad Γ 11), .int a1] : List Value).toArray s 0 0 (dw_A Γ)) (F0 m 4 ls []) := by
    clear h
    intro n4
    induction n4 with
    | zero =>
      intro x1 x2 H locs ls Z hl h
      exact (dw_wh0 h).elim
    | succ n4 ih4 =>
      intro x1 x2 H locs ls Z hl h
      obtain ⟨q4, hs, hq4⟩ := dw_whB h
      have h : sX4_rankOf_4 μ x1 x2 = some q4 := hs
      unfold sX4_rankOf_4 at h
      refine lv_iload_n hx hb dX4_rankOf_4 rfl (lv_at hl 1 rfl) ?_
      refine lv_bipush (v := (20 : Int32)) hx hb dX4_rankOf_5 (by decide) ?_
      refine lv_icmp_ge (tgt := 38) hx hb dX4_rankOf_7 (by decide) (fun c3 => ?_) (fun c3 => ?_)
      · have h := dw_ifT c3 h
        obtain rfl := dw_s1 h
        exact E4 x1 H locs ls Z (lv_sub hl [1] rfl) hq4
      · have h := dw_ifF c3 h
        refine lv_aload_n hx hb dX4_rankOf_10 rfl (lv_at hl 0 rfl) ?_
        refine dw_g4_0 (t := 12) C0 Z dw_kc11 tw_fX4_11 rfl dX4_rankOf_11 ?_
        refine lv_iload_n hx hb dX4_rankOf_14 rfl (lv_at hl 2 rfl) ?_
        obtain ⟨g4, h⟩ := dw_gdS h
        refine dw_aald C0 Z dw_kc12 g4 dX4_rankOf_15 ?_
        refine dw_cVi C0 Z dw_hA (dw_lt (dw_pk dw_kc12 (dw_ok_lt g4)) (by decide)) (dw_cz5 (dw_pk dw_kc12 (dw_ok_lt g4))) rfl (As := []) (rest := []) (kX5_leadsIntoPipe l Γ hj μ (12 + 1 + 2 * x2.toNatClampNeg) (dw_pk dw_kc12 (dw_ok_lt g4)) rfl) (dw_gV tw_lX4_26 tw_vX5_leadsIntoPipe tw_eX5_leadsIntoPipe tw_iX5 tw_kX5_leadsIntoPipe) dw_hX5_leadsIntoPipe ⟨Nat.le_of_ble_eq_true rfl, Nat.le_of_ble_eq_true rfl⟩ ⟨Nat.zero_le _, Nat.zero_le _⟩ hl.1 (Nat.le_of_ble_eq_true rfl) rfl dX4_rankOf_16 (fun H locs Z => ?_)
        refine lv_if_eq (tgt := 38) hx hb dX4_rankOf_19 (by decide) (fun c5 => ?_) (fun c5 => ?_)
        · have h := dw_ifT c5 h
          obtain rfl := dw_s1 h
          exact E4 x1 H locs ls Z (lv_sub hl [1] rfl) hq4
        · have h := dw_ifF c5 h
          refine lv_aload_n hx hb dX4_rankOf_22 rfl (lv_at hl 0 rfl) ?_
          refine dw_g4_0 (t := 12) C0 Z dw_kc11 tw_fX4_11 rfl dX4_rankOf_23 ?_
          refine lv_iload_n hx hb dX4_rankOf_26 rfl (lv_at hl 2 rfl) ?_
          refine dw_aald C0 Z dw_kc12 g4 dX4_rankOf_27 ?_
          refine dw_g5_5 C0 Z (dw_pk dw_kc12 (dw_ok_lt g4)) tw_fX4_30 dX4_rankOf_28 ?_
          refine lv_topi (fun x6 ex6 => ?_)
          have h := dw_nmS ex6 h
          refine lv_istore_n (lv' := [(3, .int x6), (0, .ref (dw_ad Γ 11)), (2, .int x1)]) hx hb dX4_rankOf_31 rfl hl (by decide) rfl (fun ls hl => ?_)
          obtain ⟨x7, ex7⟩ := dw_eg (x1 + (1 : Int32))
          have h := dw_nmS ex7 h
          refine lv_iinc (v := x7) (lv' := [(2, .int x7), (3, .int x6), (0, .ref (dw_ad Γ 11))]) hx hb dX4_rankOf_32 hl (k := 2) rfl (by rw [ex7]; rfl) (by decide) rfl (fun ls hl => ?_)
          refine lv_goto (tgt := 4) hx hb dX4_rankOf_35 (by decide) ?_
          obtain rfl := dw_s1 h
          exact ih4 x7 x6 H locs ls Z (lv_sub hl [2, 0, 1] rfl) hq4
  exact L4 1000 (0 : Int32) a1 H locs ls Z (lv_sub hl [2, 1, 0] rfl) h

def sX0_planOrder_2  (x1 : Int32) (μ2 : dw_M) : Option ((Int32 × dw_M) ⊕ ((dw_M))) :=
  if (μ2.1 11 1) ≤ x1 then (
  some (.inr μ2))
  else (
  dw_bd (fX4_rankOf μ2 x1) (fun r5 =>
  dw_gd (dw_ok x1 20) (
  dw_nm (dw_st μ2 137 x1.toNatClampNeg r5) (fun μ7 =>
  dw_nm (x1 + (1 : Int32)) (fun x8 =>
  some (.inl (x8, μ7)))))))
def sX0_planOrder_42 (x11 : Int32) (x14 : Int32) (x15 : Int32) (μ16 : dw_M) : Option ((Int32 × Int32 × dw_M) ⊕ ((Int32 × dw_M))) :=
  if (μ16.1 11 1) ≤ x15 then (
  some (.inr (x14, μ16)))
  else (
  dw_gd (dw_ok x15 20) (
  if (μ16.1 137 x15.toNatClampNeg) = x11 then (
  dw_gd (dw_ok x14 20) (
  dw_nm (dw_st μ16 136 x14.toNatClampNeg x15) (fun μ22 =>
  dw_nm (x14 + (1 : Int32)) (fun x23 =>
  dw_nm (x15 + (1 : Int32)) (fun x24 =>
  some (.inl (x23, x24, μ22)))))))
  else (
  dw_nm (x15 + (1 : Int32)) (fun x20 =>
  some (.inl (x14, x20, μ16))))))
def sX0_planOrder_31  (x10 : Int32) (x11 : Int32) (μ12 : dw_M) : Option ((Int32 × Int32 × dw_M) ⊕ ((dw_M))) :=
  if (μ12.1 11 1) ≤ x11 then (
  some (.inr μ12))
  else (
  dw_bd (dw_wh (fun v => sX0_planOrder_42 x11 v.1 v.2.1 v.2.2) 1000 (x10, (0 : Int32), μ12))
    (fun v => (fun x25 μ26 => dw_nm (x11 + (1 : Int32)) (fun x27 =>
  some (.inl (x25, x27, μ26)))) v.1 v.2))
def fX0_planOrder (μ : dw_M) : Option (dw_M) :=
  dw_bd (dw_wh (fun v => sX0_planOrder_2 v.1 v.2) 1000 ((0 : Int32), μ))
    (fun μ9 => dw_bd (dw_wh (fun v => sX0_planOrder_31 v.1 v.2.1 v.2.2) 1000 ((0 : Int32), (0 : Int32), μ9))
    (fun μ28 => some μ28))
set_option maxHeartbeats 4000000 in
set_option maxRecDepth 100000 in
theorem kX0_planOrder (l : Launch) (Γ : dw_G) (hj : dw_inj Γ) (μ : dw_M)  {ν : dw_M} (h : fX0_planOrder μ = some ν) : Met l yX0_planOrder (dw_ws yX0_planOrder cX0_planOrder 5 none) (dw_rm 2 43) (dw_P Γ ([.ref (dw_ad Γ 135), .ref (dw_ad Γ 11)] : List Value) μ) (dw_Qv Γ ν) 0 0 (dw_A Γ) := by
  refine dw_met (own := RX0) rfl rfl (Nat.le_of_ble_eq_true rfl) hj ?_
  intro p e s m below meth c C0 hr hlk Z ls hl
  have hx := C0.1
  have hb := C0.2.1
  have hl : lv_has ls 5 [(0, .ref (dw_ad Γ 135)), (1, .ref (dw_ad Γ 11))] := hl
  suffices key : ∀ (H : Heap) (locs : List Loc), dw_Z Γ (dw_A Γ) s.heap μ H locs → W p l e (dw_rm 2 43) s m ([.ref (dw_ad Γ 135), .ref (dw_ad Γ 11)] : List Value).toArray below meth c H locs 0 0 (MQ below (dw_Qv Γ ν) ([.ref (dw_ad Γ 135), .ref (dw_ad Γ 11)] : List Value).toArray s 0 0 (dw_A Γ)) (F0 m 0 ls []) from key _ _ Z
  clear Z
  intro H locs Z
  unfold fX0_planOrder at h
  refine lv_iconst (v := (0 : Int32)) hx hb dX0_planOrder_0 (by decide) ?_
  refine lv_istore_n (lv' := [(2, .int (0 : Int32)), (0, .ref (dw_ad Γ 135)), (1, .ref (dw_ad Γ 11))]) hx hb dX0_planOrder_1 rfl hl (by decide) rfl (fun ls hl => ?_)
  obtain ⟨kc2, ekc2, h⟩ := dw_bdK h
  have E2 : ∀ (μ9 : dw_M) (H : Heap) (locs : List Loc) (ls : Array Slot), dw_Z Γ (dw_A Γ) s.heap μ9 H locs → lv_has ls 5 [(0, .ref (dw_ad Γ 135)), (1, .ref (dw_ad Γ 11))] → kc2 μ9 = some ν → W p l e (dw_rm 2 43) s m ([.ref (dw_ad Γ 135), .ref (dw_ad Γ 11)] : List Value).toArray below meth c H locs 0 0 (MQ below (dw_Qv Γ ν) ([.ref (dw_ad Γ 135), .ref (dw_ad Γ 11)] : List Value).toArray s 0 0 (dw_A Γ)) (F0 m 27 ls []) := by
    intro μ9 H locs ls Z hl h
    rw [ekc2] at h
    dsimp only at h
    refine lv_iconst (v := (0 : Int32)) hx hb dX0_planOrder_27 (by decide) ?_
    refine lv_istore_n (lv' := [(2, .int (0 : Int32)), (0, .ref (dw_ad Γ 135)), (1, .ref (dw_ad Γ 11))]) hx hb dX0_planOrder_28 rfl hl (by decide) rfl (fun ls hl => ?_)
    refine lv_iconst (v := (0 : Int32)) hx hb dX0_planOrder_29 (by decide) ?_
    refine lv_istore_n (lv' := [(3, .int (0 : Int32)), (2, .int (0 : Int32)), (0, .ref (dw_ad Γ 135)), (1, .ref (dw_ad Γ 11))]) hx hb dX0_planOrder_30 rfl hl (by decide) rfl (fun ls hl => ?_)
    obtain ⟨kc31, ekc31, h⟩ := dw_bdK h
    have E31 : ∀ (μ28 : dw_M) (H : Heap) (locs : List Loc) (ls : Array Slot), dw_Z Γ (dw_A Γ) s.heap μ28 H locs → lv_has ls 5 [] → kc31 μ28 = some ν → W p l e (dw_rm 2 43) s m ([.ref (dw_ad Γ 135), .ref (dw_ad Γ 11)] : List Value).toArray below meth c H locs 0 0 (MQ below (dw_Qv Γ ν) ([.ref (dw_ad Γ 135), .ref (dw_ad Γ 11)] : List Value).toArray s 0 0 (dw_A Γ)) (F0 m 85 ls []) := by
      intro μ28 H locs ls Z hl h
      rw [ekc31] at h
      dsimp only at h
      obtain rfl := dw_s1 h
      exact dw_vret C0 Z hr hlk dX0_planOrder_85
    have L31 : ∀ (n31 : Nat) (x10 : Int32) (x11 : Int32) (μ12 : dw_M) (H : Heap) (locs : List Loc) (ls : Array Slot), dw_Z Γ (dw_A Γ) s.heap μ12 H locs → lv_has ls 5 [(0, .ref (dw_ad Γ 135)), (1, .ref (dw_ad Γ 11)), (2, .int x10), (3, .int x11)] → dw_bd (dw_wh (fun v => sX0_planOrder_31 v.1 v.2.1 v.2.2) n31 (x10, x11, μ12)) kc31 = some ν → W p l e (dw_rm 2 43) s m ([.ref (dw_ad Γ 135), .ref (dw_ad Γ 11)] : List Value).toArray below meth c H locs 0 0 (MQ below (dw_Qv Γ ν) ([.ref (dw_ad Γ 135), .ref (dw_ad Γ 11)] : List Value).toArray s 0 0 (dw_A Γ)) (F0 m 31 ls []) := by
      clear h
      intro n31
      induction n31 with
      | zero =>
        intro x10 x11 μ12 H locs ls Z hl h
        exact (dw_wh0 h).elim
      | succ n31 ih31 =>
        intro x10 x11 μ12 H locs ls Z hl h
        obtain ⟨q31, hs, hq31⟩ := dw_whB h
        have h : sX0_planOrder_31 x10 x11 μ12 = some q31 := hs
        unfold sX0_planOrder_31 at h
        refine lv_iload_n hx hb dX0_planOrder_31 rfl (lv_at hl 3 rfl) ?_
        refine lv_aload_n hx hb dX0_planOrder_32 rfl (lv_at hl 1 rfl) ?_
        refine dw_g4_1 C0 Z dw_kc11 tw_fX0_35 dX0_planOrder_33 ?_
        refine lv_icmp_ge (tgt := 85) hx hb dX0_planOrder_36 (by decide) (fun c13 => ?_) (fun c13 => ?_)
        · have h := dw_ifT c13 h
          obtain rfl := dw_s1 h
          exact E31  μ12 H locs ls Z (lv_sub hl [] rfl) hq31
        · have h := dw_ifF c13 h
          refine lv_iconst (v := (0 : Int32)) hx hb dX0_planOrder_39 (by decide) ?_
          refine lv_istore (lv' := [(4, .int (0 : Int32)), (0, .ref (dw_ad Γ 135)), (1, .ref (dw_ad Γ 11)), (2, .int x10), (3, .int x11)]) hx hb dX0_planOrder_40 hl (by decide) rfl (fun ls hl => ?_)
          obtain ⟨kc42, ekc42, h⟩ := dw_bdK h
          have E42 : ∀ (x25 : Int32) (μ26 : dw_M) (H : Heap) (locs : List Loc) (ls : Array Slot), dw_Z Γ (dw_A Γ) s.heap μ26 H locs → lv_has ls 5 [(0, .ref (dw_ad Γ 135)), (1, .ref (dw_ad Γ 11)), (2, .int x25), (3, .int x11)] → kc42 (x25, μ26) = some q31 → W p l e (dw_rm 2 43) s m ([.ref (dw_ad Γ 135), .ref (dw_ad Γ 11)] : List Value).toArray below meth c H locs 0 0 (MQ below (dw_Qv Γ ν) ([.ref (dw_ad Γ 135), .ref (dw_ad Γ 11)] : List Value).toArray s 0 0 (dw_A Γ)) (F0 m 79 ls []) := by
            intro x25 μ26 H locs ls Z hl h
            rw [ekc42] at h
            dsimp only at h
            obtain ⟨x27, ex27⟩ := dw_eg (x11 + (1 : Int32))
            have h := dw_nmS ex27 h
            refine lv_iinc (v := x27) (lv' := [(3, .int x27), (0, .ref (dw_ad Γ 135)), (1, .ref (dw_ad Γ 11)), (2, .int x25)]) hx hb dX0_planOrder_79 hl (k := 3) rfl (by rw [ex27]; rfl) (by decide) rfl (fun ls hl => ?_)
            refine lv_goto (tgt := 31) hx hb dX0_planOrder_82 (by decide) ?_
            obtain rfl := dw_s1 h
            exact ih31 x25 x27 μ26 H locs ls Z (lv_sub hl [1, 2, 3, 0] rfl) hq31
          have L42 : ∀ (n42 : Nat) (x14 : Int32) (x15 : Int32) (μ16 : dw_M) (H : Heap) (locs : List Loc) (ls : Array Slot), dw_Z Γ (dw_A Γ) s.heap μ16 H locs → lv_has ls 5 [(0, .ref (dw_ad Γ 135)), (1, .ref (dw_ad Γ 11)), (2, .int x14), (3, .int x11), (4, .int x15)] → dw_bd (dw_wh (fun v => sX0_planOrder_42 x11 v.1 v.2.1 v.2.2) n42 (x14, x15, μ16)) kc42 = some q31 → W p l e (dw_rm 2 43) s m ([.ref (dw_ad Γ 135), .ref (dw_ad Γ 11)] : List Value).toArray below meth c H locs 0 0 (MQ below (dw_Qv Γ ν) ([.ref (dw_ad Γ 135), .ref (dw_ad Γ 11)] : List Value).toArray s 0 0 (dw_A Γ)) (F0 m 42 ls []) := by
            clear h
            intro n42
            induction n42 with
            | zero =>
              intro x14 x15 μ16 H locs ls Z hl h
              exact (dw_wh0 h).elim
            | succ n42 ih42 =>
              intro x14 x15 μ16 H locs ls Z hl h
              obtain ⟨q42, hs, hq42⟩ := dw_whB h
              have h : sX0_planOrder_42 x11 x14 x15 μ16 = some q42 := hs
              unfold sX0_planOrder_42 at h
              refine lv_iload hx hb dX0_planOrder_42 (lv_at hl 4 rfl) ?_
              refine lv_aload_n hx hb dX0_planOrder_44 rfl (lv_at hl 1 rfl) ?_
              refine dw_g4_1 C0 Z dw_kc11 tw_fX0_35 dX0_planOrder_45 ?_
              refine lv_icmp_ge (tgt := 79) hx hb dX0_planOrder_48 (by decide) (fun c17 => ?_) (fun c17 => ?_)
              · have h := dw_ifT c17 h
                obtain rfl := dw_s1 h
                exact E42 x14 μ16 H locs ls Z (lv_sub hl [0, 1, 2, 3] rfl) hq42
              · have h := dw_ifF c17 h
                refine lv_aload_n hx hb dX0_planOrder_51 rfl (lv_at hl 0 rfl) ?_
                refine dw_g0_1 (t := 137) C0 Z dw_kc135 tw_fX0_15 rfl dX0_planOrder_52 ?_
                refine lv_iload hx hb dX0_planOrder_55 (lv_at hl 4 rfl) ?_
                obtain ⟨g18, h⟩ := dw_gdS h
                refine dw_ald C0 Z dw_kc137 dw_lc137 g18 dX0_planOrder_57 ?_
                refine lv_iload_n hx hb dX0_planOrder_58 rfl (lv_at hl 3 rfl) ?_
                refine lv_icmp_ne (tgt := 73) hx hb dX0_planOrder_59 (by decide) (fun c19 => ?_) (fun c19 => ?_)
                · have h := dw_ifF c19 h
                  obtain ⟨x20, ex20⟩ := dw_eg (x15 + (1 : Int32))
                  have h := dw_nmS ex20 h
                  refine lv_iinc (v := x20) (lv' := [(4, .int x20), (0, .ref (dw_ad Γ 135)), (1, .ref (dw_ad Γ 11)), (2, .int x14), (3, .int x11)]) hx hb dX0_planOrder_73 hl (k := 4) rfl (by rw [ex20]; rfl) (by decide) rfl (fun ls hl => ?_)
                  refine lv_goto (tgt := 42) hx hb dX0_planOrder_76 (by decide) ?_
                  obtain rfl := dw_s1 h
                  exact ih42 x14 x20 μ16 H locs ls Z (lv_sub hl [1, 2, 3, 4, 0] rfl) hq42
                · have h := dw_ifT c19 h
                  refine lv_aload_n hx hb dX0_planOrder_62 rfl (lv_at hl 0 rfl) ?_
                  refine dw_g0_0 (t := 136) C0 Z dw_kc135 tw_fX0_9 rfl dX0_planOrder_63 ?_
                  refine lv_iload_n hx hb dX0_planOrder_66 rfl (lv_at hl 2 rfl) ?_
                  refine lv_iload hx hb dX0_planOrder_67 (lv_at hl 4 rfl) ?_
                  obtain ⟨g21, h⟩ := dw_gdS h
                  refine dw_ast C0 Z dw_hA dw_kc136 dw_lc136 g21 dX0_planOrder_69 (fun μ22 eμ22 H locs Z => ?_)
                  have h := dw_nmS eμ22 h
                  obtain ⟨x23, ex23⟩ := dw_eg (x14 + (1 : Int32))
                  have h := dw_nmS ex23 h
                  refine lv_iinc (v := x23) (lv' := [(2, .int x23), (0, .ref (dw_ad Γ 135)), (1, .ref (dw_ad Γ 11)), (3, .int x11), (4, .int x15)]) hx hb dX0_planOrder_70 hl (k := 2) rfl (by rw [ex23]; rfl) (by decide) rfl (fun ls hl => ?_)
                  obtain ⟨x24, ex24⟩ := dw_eg (x15 + (1 : Int32))
                  have h := dw_nmS ex24 h
                  refine lv_iinc (v := x24) (lv' := [(4, .int x24), (2, .int x23), (0, .ref (dw_ad Γ 135)), (1, .ref (dw_ad Γ 11)), (3, .int x11)]) hx hb dX0_planOrder_73 hl (k := 4) rfl (by rw [ex24]; rfl) (by decide) rfl (fun ls hl => ?_)
                  refine lv_goto (tgt := 42) hx hb dX0_planOrder_76 (by decide) ?_
                  obtain rfl := dw_s1 h
                  exact ih42 x23 x24 μ22 H locs ls Z (lv_sub hl [2, 3, 1, 4, 0] rfl) hq42
          exact L42 1000 x10 (0 : Int32) μ12 H locs ls Z (lv_sub hl [1, 2, 3, 4, 0] rfl) h
    exact L31 1000 (0 : Int32) (0 : Int32) μ9 H locs ls Z (lv_sub hl [2, 3, 1, 0] rfl) h
  have L2 : ∀ (n2 : Nat) (x1 : Int32) (μ2 : dw_M) (H : Heap) (locs : List Loc) (ls : Array Slot), dw_Z Γ (dw_A Γ) s.heap μ2 H locs → lv_has ls 5 [(0, .ref (dw_ad Γ 135)), (1, .ref (dw_ad Γ 11)), (2, .int x1)] → dw_bd (dw_wh (fun v => sX0_planOrder_2 v.1 v.2) n2 (x1, μ2)) kc2 = some ν → W p l e (dw_rm 2 43) s m ([.ref (dw_ad Γ 135), .ref (dw_ad Γ 11)] : List Value).toArray below meth c H locs 0 0 (MQ below (dw_Qv Γ ν) ([.ref (dw_ad Γ 135), .ref (dw_ad Γ 11)] : List Value).toArray s 0 0 (dw_A Γ)) (F0 m 2 ls []) := by
    clear h
    intro n2
    induction n2 with
    | zero =>
      intro x1 μ2 H locs ls Z hl h
      exact (dw_wh0 h).elim
    | succ n2 ih2 =>
      intro x1 μ2 H locs ls Z hl h
      obtain ⟨q2, hs, hq2⟩ := dw_whB h
      have h : sX0_planOrder_2 x1 μ2 = some q2 := hs
      unfold sX0_planOrder_2 at h
      refine lv_iload_n hx hb dX0_planOrder_2 rfl (lv_at hl 2 rfl) ?_
      refine lv_aload_n hx hb dX0_planOrder_3 rfl (lv_at hl 1 rfl) ?_
      refine dw_g4_1 C0 Z dw_kc11 tw_fX0_35 dX0_planOrder_4 ?_
      refine lv_icmp_ge (tgt := 27) hx hb dX0_planOrder_7 (by decide) (fun c3 => ?_) (fun c3 => ?_)
      · have h := dw_ifT c3 h
        obtain rfl := dw_s1 h
        exact E2  μ2 H locs ls Z (lv_sub hl [0, 1] rfl) hq2
      · have h := dw_ifF c3 h
        refine lv_aload_n hx hb dX0_planOrder_10 rfl (lv_at hl 0 rfl) ?_
        refine dw_g0_1 (t := 137) C0 Z dw_kc135 tw_fX0_15 rfl dX0_planOrder_11 ?_
        refine lv_iload_n hx hb dX0_planOrder_14 rfl (lv_at hl 2 rfl) ?_
        refine lv_aload_n hx hb dX0_planOrder_15 rfl (lv_at hl 1 rfl) ?_
        refine lv_iload_n hx hb dX0_planOrder_16 rfl (lv_at hl 2 rfl) ?_
        obtain ⟨r5, hc4, h⟩ := dw_bdS h
        refine dw_cVi C0 Z dw_hA (dw_lt dw_kc11 (by decide)) (dw_cz4 dw_kc11) rfl (As := [.int x1]) (rest := [.int x1, .ref (dw_ad Γ 137)]) (kX4_rankOf l Γ hj μ2 x1 hc4) (dw_gV tw_lX0_68 tw_vX4_rankOf tw_eX4_rankOf tw_iX4 tw_kX4_rankOf) dw_hX4_rankOf ⟨Nat.le_of_ble_eq_true rfl, Nat.le_of_ble_eq_true rfl⟩ ⟨Nat.zero_le _, Nat.zero_le _⟩ hl.1 (Nat.le_of_ble_eq_true rfl) rfl dX0_planOrder_17 (fun H locs Z => ?_)
        obtain ⟨g6, h⟩ := dw_gdS h
        refine dw_ast C0 Z dw_hA dw_kc137 dw_lc137 g6 dX0_planOrder_20 (fun μ7 eμ7 H locs Z => ?_)
        have h := dw_nmS eμ7 h
        obtain ⟨x8, ex8⟩ := dw_eg (x1 + (1 : Int32))
        have h := dw_nmS ex8 h
        refine lv_iinc (v := x8) (lv' := [(2, .int x8), (0, .ref (dw_ad Γ 135)), (1, .ref (dw_ad Γ 11))]) hx hb dX0_planOrder_21 hl (k := 2) rfl (by rw [ex8]; rfl) (by decide) rfl (fun ls hl => ?_)
        refine lv_goto (tgt := 2) hx hb dX0_planOrder_24 (by decide) ?_
        obtain rfl := dw_s1 h
        exact ih2 x8 μ7 H locs ls Z (lv_sub hl [1, 2, 0] rfl) hq2
  exact L2 1000 (0 : Int32) μ H locs ls Z (lv_sub hl [1, 2, 0] rfl) h

def fX0_plan (μ : dw_M) : Option (dw_M) :=
  dw_bd (fX0_planDrains μ) (fun μ2 =>
  dw_bd (fX0_planOrder μ2) (fun μ4 =>
  some μ4))
set_option maxHeartbeats 4000000 in
set_option maxRecDepth 100000 in
theorem kX0_plan (l : Launch) (Γ : dw_G) (hj : dw_inj Γ) (μ : dw_M)  {ν : dw_M} (h : fX0_plan μ = some ν) : Met l yX0_plan (dw_ws yX0_plan cX0_plan 2 none) (dw_rm 3 67) (dw_P Γ ([.ref (dw_ad Γ 135), .ref (dw_ad Γ 11)] : List Value) μ) (dw_Qv Γ ν) 0 0 (dw_A Γ) := by
  refine dw_met (own := RX0) rfl rfl (Nat.le_of_ble_eq_true rfl) hj ?_
  intro p e s m below meth c C0 hr hlk Z ls hl
  have hx := C0.1
  have hb := C0.2.1
  have hl : lv_has ls 2 [(0, .ref (dw_ad Γ 135)), (1, .ref (dw_ad Γ 11))] := hl
  suffices key : ∀ (H : Heap) (locs : List Loc), dw_Z Γ (dw_A Γ) s.heap μ H locs → W p l e (dw_rm 3 67) s m ([.ref (dw_ad Γ 135), .ref (dw_ad Γ 11)] : List Value).toArray below meth c H locs 0 0 (MQ below (dw_Qv Γ ν) ([.ref (dw_ad Γ 135), .ref (dw_ad Γ 11)] : List Value).toArray s 0 0 (dw_A Γ)) (F0 m 0 ls []) from key _ _ Z
  clear Z
  intro H locs Z
  unfold fX0_plan at h
  refine lv_aload_n hx hb dX0_plan_0 rfl (lv_at hl 0 rfl) ?_
  refine lv_aload_n hx hb dX0_plan_1 rfl (lv_at hl 1 rfl) ?_
  obtain ⟨μ2, hc1, h⟩ := dw_bdS h
  refine dw_cVv C0 Z dw_hA (dw_lt dw_kc135 (by decide)) (dw_cz0 dw_kc135) rfl (As := [.ref (dw_ad Γ 11)]) (rest := []) (kX0_planDrains l Γ hj μ hc1) (dw_gV tw_lX0_24 tw_vX0_planDrains tw_eX0_planDrains tw_iX0 tw_kX0_planDrains) dw_hX0_planDrains ⟨Nat.le_of_ble_eq_true rfl, Nat.le_of_ble_eq_true rfl⟩ ⟨Nat.zero_le _, Nat.zero_le _⟩ hl.1 (Nat.le_of_ble_eq_true rfl) rfl dX0_plan_2 (fun H locs Z => ?_)
  refine lv_aload_n hx hb dX0_plan_5 rfl (lv_at hl 0 rfl) ?_
  refine lv_aload_n hx hb dX0_plan_6 rfl (lv_at hl 1 rfl) ?_
  obtain ⟨μ4, hc3, h⟩ := dw_bdS h
  refine dw_cVv C0 Z dw_hA (dw_lt dw_kc135 (by decide)) (dw_cz0 dw_kc135) rfl (As := [.ref (dw_ad Γ 11)]) (rest := []) (kX0_planOrder l Γ hj μ2 hc3) (dw_gV tw_lX0_28 tw_vX0_planOrder tw_eX0_planOrder tw_iX0 tw_kX0_planOrder) dw_hX0_planOrder ⟨Nat.le_of_ble_eq_true rfl, Nat.le_of_ble_eq_true rfl⟩ ⟨Nat.zero_le _, Nat.zero_le _⟩ hl.1 (Nat.le_of_ble_eq_true rfl) rfl dX0_plan_7 (fun H locs Z => ?_)
  obtain rfl := dw_s1 h
  exact dw_vret C0 Z hr hlk dX0_plan_10

def fX0_wetPlace (μ : dw_M) (i : Nat) (a1 : Int32) : Option (dw_M) :=
  dw_gd (dw_ok a1 36) (
  dw_nm (μ.1 4 a1.toNatClampNeg) (fun x2 =>
  dw_nm (dw_st μ i 7 ((μ.1 i 7) + (μ.1 61 a1.toNatClampNeg))) (fun μ3 =>
  dw_nm (dw_st μ3 (i + 1) a1.toNatClampNeg ((μ3.1 (i + 1) a1.toNatClampNeg) + (μ3.1 61 a1.toNatClampNeg))) (fun μ4 =>
  dw_gd (dw_ok x2 4) (
  dw_nm (dw_mx (0 : Int32) ((μ4.1 7 x2.toNatClampNeg) - (μ4.1 (i + 2) a1.toNatClampNeg))) (fun x6 =>
  dw_nm (dw_mn x6 (dw_mn (μ4.1 5 x2.toNatClampNeg) (μ4.1 (i + 1) a1.toNatClampNeg))) (fun x7 =>
  dw_nm (dw_st μ4 (i + 1) a1.toNatClampNeg ((μ4.1 (i + 1) a1.toNatClampNeg) - x7)) (fun μ8 =>
  dw_nm (dw_st μ8 (i + 2) a1.toNatClampNeg ((μ8.1 (i + 2) a1.toNatClampNeg) + x7)) (fun μ9 =>
  some μ9)))))))))
set_option maxHeartbeats 4000000 in
set_option maxRecDepth 100000 in
theorem kX0_wetPlace (l : Launch) (Γ : dw_G) (hj : dw_inj Γ) (μ : dw_M) (i : Nat) (hk_i : dw_kd i = 8) (a1 : Int32) {ν : dw_M} (h : fX0_wetPlace μ i a1 = some ν) : Met l yX0_wetPlace (dw_ws yX0_wetPlace cX0_wetPlace 8 none) (dw_rm 1 24) (dw_P Γ ([.ref (dw_ad Γ 135), .ref (dw_ad Γ 1), .ref (dw_ad Γ i), .int a1] : List Value) μ) (dw_Qv Γ ν) 0 0 (dw_A Γ) := by
  refine dw_met (own := RX0) rfl rfl (Nat.le_of_ble_eq_true rfl) hj ?_
  intro p e s m below meth c C0 hr hlk Z ls hl
  have hx := C0.1
  have hb := C0.2.1
  have hl : lv_has ls 8 [(0, .ref (dw_ad Γ 135)), (1, .ref (dw_ad Γ 1)), (2, .ref (dw_ad Γ i)), (3, .int a1)] := hl
  suffices key : ∀ (H : Heap) (locs : List Loc), dw_Z Γ (dw_A Γ) s.heap μ H locs → W p l e (dw_rm 1 24) s m ([.ref (dw_ad Γ 135), .ref (dw_ad Γ 1), .ref (dw_ad Γ i), .int a1] : List Value).toArray below meth c H locs 0 0 (MQ below (dw_Qv Γ ν) ([.ref (dw_ad Γ 135), .ref (dw_ad Γ 1), .ref (dw_ad Γ i), .int a1] : List Value).toArray s 0 0 (dw_A Γ)) (F0 m 0 ls []) from key _ _ Z
  clear Z
  intro H locs Z
  unfold fX0_wetPlace at h
  refine lv_aload_n hx hb dX0_wetPlace_0 rfl (lv_at hl 1 rfl) ?_
  refine dw_g6_0 (t := 2) C0 Z dw_kc1 tw_fX0_71 rfl dX0_wetPlace_1 ?_
  refine lv_astore (lv' := [(4, .ref (dw_ad Γ 2)), (0, .ref (dw_ad Γ 135)), (1, .ref (dw_ad Γ 1)), (2, .ref (dw_ad Γ i)), (3, .int a1)]) hx hb dX0_wetPlace_4 hl (by decide) rfl (fun ls hl => ?_)
  refine lv_aload hx hb dX0_wetPlace_6 (lv_at hl 0 rfl) ?_
  refine dw_g1_3 (t := 4) C0 Z dw_kc2 tw_fX0_104 rfl dX0_wetPlace_8 ?_
  refine lv_iload_n hx hb dX0_wetPlace_11 rfl (lv_at hl 4 rfl) ?_
  obtain ⟨g1, h⟩ := dw_gdS h
  refine dw_ald C0 Z dw_kc4 dw_lc4 g1 dX0_wetPlace_12 ?_
  refine lv_topi (fun x2 ex2 => ?_)
  have h := dw_nmS ex2 h
  refine lv_istore (lv' := [(5, .int x2), (4, .ref (dw_ad Γ 2)), (0, .ref (dw_ad Γ 135)), (1, .ref (dw_ad Γ 1)), (2, .ref (dw_ad Γ i)), (3, .int a1)]) hx hb dX0_wetPlace_13 hl (by decide) rfl (fun ls hl => ?_)
  refine lv_aload_n hx hb dX0_wetPlace_15 rfl (lv_at hl 4 rfl) ?_
  refine lv_dup hx hb dX0_wetPlace_16 rfl ?_
  refine dw_g8_7 C0 Z hk_i tw_fX0_107 dX0_wetPlace_17 ?_
  refine lv_aload_n hx hb dX0_wetPlace_20 rfl (lv_at hl 3 rfl) ?_
  refine dw_g6_4 (t := 61) C0 Z dw_kc1 tw_fX0_110 rfl dX0_wetPlace_21 ?_
  refine lv_iload_n hx hb dX0_wetPlace_24 rfl (lv_at hl 5 rfl) ?_
  refine dw_ald C0 Z dw_kc61 dw_lc61 g1 dX0_wetPlace_25 ?_
  refine lv_iadd hx hb dX0_wetPlace_26 ?_
  refine dw_p8_7 C0 Z dw_hA hk_i tw_fX0_107 dX0_wetPlace_27 (fun μ3 eμ3 H locs Z => ?_)
  have h := dw_nmS eμ3 h
  refine lv_aload_n hx hb dX0_wetPlace_30 rfl (lv_at hl 4 rfl) ?_
  refine dw_g8_0 (t := (i + 1)) C0 Z hk_i tw_fX0_113 rfl dX0_wetPlace_31 ?_
  refine lv_iload_n hx hb dX0_wetPlace_34 rfl (lv_at hl 5 rfl) ?_
  refine lv_dup2_11 hx hb dX0_wetPlace_35 rfl rfl ?_
  refine dw_ald C0 Z (dw_r8_0 hk_i) (dw_n8_0 hk_i) g1 dX0_wetPlace_36 ?_
  refine lv_aload_n hx hb dX0_wetPlace_37 rfl (lv_at hl 3 rfl) ?_
  refine dw_g6_4 (t := 61) C0 Z dw_kc1 tw_fX0_110 rfl dX0_wetPlace_38 ?_
  refine lv_iload_n hx hb dX0_wetPlace_41 rfl (lv_at hl 5 rfl) ?_
  refine dw_ald C0 Z dw_kc61 dw_lc61 g1 dX0_wetPlace_42 ?_
  refine lv_iadd hx hb dX0_wetPlace_43 ?_
  refine dw_ast C0 Z dw_hA (dw_r8_0 hk_i) (dw_n8_0 hk_i) g1 dX0_wetPlace_44 (fun μ4 eμ4 H locs Z => ?_)
  have h := dw_nmS eμ4 h
  refine lv_iconst (v := (0 : Int32)) hx hb dX0_wetPlace_45 (by decide) ?_
  refine lv_aload hx hb dX0_wetPlace_46 (lv_at hl 1 rfl) ?_
  refine dw_g1_6 (t := 7) C0 Z dw_kc2 tw_fX0_116 rfl dX0_wetPlace_48 ?_
  refine lv_iload hx hb dX0_wetPlace_51 (lv_at hl 0 rfl) ?_
  obtain ⟨g5, h⟩ := dw_gdS h
  refine dw_ald C0 Z dw_kc7 dw_lc7 g5 dX0_wetPlace_53 ?_
  refine lv_aload_n hx hb dX0_wetPlace_54 rfl (lv_at hl 4 rfl) ?_
  refine dw_g8_1 (t := (i + 2)) C0 Z hk_i tw_fX0_119 rfl dX0_wetPlace_55 ?_
  refine lv_iload_n hx hb dX0_wetPlace_58 rfl (lv_at hl 5 rfl) ?_
  refine dw_ald C0 Z (dw_r8_1 hk_i) (dw_n8_1 hk_i) g1 dX0_wetPlace_59 ?_
  refine lv_isub hx hb dX0_wetPlace_60 ?_
  refine dw_mmax C0 hl.1 tw_lX0_122 (Nat.le_of_ble_eq_true rfl) (Nat.le_of_ble_eq_true rfl) ⟨Nat.zero_le _, Nat.zero_le _⟩ dX0_wetPlace_61 ?_
  refine lv_topi (fun x6 ex6 => ?_)
  have h := dw_nmS ex6 h
  refine lv_istore (lv' := [(6, .int x6), (5, .int x2), (4, .ref (dw_ad Γ 2)), (0, .ref (dw_ad Γ 135)), (1, .ref (dw_ad Γ 1)), (2, .ref (dw_ad Γ i)), (3, .int a1)]) hx hb dX0_wetPlace_64 hl (by decide) rfl (fun ls hl => ?_)
  refine lv_iload hx hb dX0_wetPlace_66 (lv_at hl 0 rfl) ?_
  refine lv_aload hx hb dX0_wetPlace_68 (lv_at hl 2 rfl) ?_
  refine dw_g1_4 (t := 5) C0 Z dw_kc2 tw_fX0_128 rfl dX0_wetPlace_70 ?_
  refine lv_iload hx hb dX0_wetPlace_73 (lv_at hl 1 rfl) ?_
  refine dw_ald C0 Z dw_kc5 dw_lc5 g5 dX0_wetPlace_75 ?_
  refine lv_aload_n hx hb dX0_wetPlace_76 rfl (lv_at hl 5 rfl) ?_
  refine dw_g8_0 (t := (i + 1)) C0 Z hk_i tw_fX0_113 rfl dX0_wetPlace_77 ?_
  refine lv_iload_n hx hb dX0_wetPlace_80 rfl (lv_at hl 6 rfl) ?_
  refine dw_ald C0 Z (dw_r8_0 hk_i) (dw_n8_0 hk_i) g1 dX0_wetPlace_81 ?_
  refine dw_mmin C0 hl.1 tw_lX0_131 (Nat.le_of_ble_eq_true rfl) (Nat.le_of_ble_eq_true rfl) ⟨Nat.zero_le _, Nat.zero_le _⟩ dX0_wetPlace_82 ?_
  refine dw_mmin C0 hl.1 tw_lX0_131 (Nat.le_of_ble_eq_true rfl) (Nat.le_of_ble_eq_true rfl) ⟨Nat.zero_le _, Nat.zero_le _⟩ dX0_wetPlace_85 ?_
  refine lv_topi (fun x7 ex7 => ?_)
  have h := dw_nmS ex7 h
  refine lv_istore (lv' := [(7, .int x7), (6, .int x6), (5, .int x2), (4, .ref (dw_ad Γ 2)), (0, .ref (dw_ad Γ 135)), (1, .ref (dw_ad Γ 1)), (2, .ref (dw_ad Γ i)), (3, .int a1)]) hx hb dX0_wetPlace_88 hl (by decide) rfl (fun ls hl => ?_)
  refine lv_aload_n hx hb dX0_wetPlace_90 rfl (lv_at hl 6 rfl) ?_
  refine dw_g8_0 (t := (i + 1)) C0 Z hk_i tw_fX0_113 rfl dX0_wetPlace_91 ?_
  refine lv_iload_n hx hb dX0_wetPlace_94 rfl (lv_at hl 7 rfl) ?_
  refine lv_dup2_11 hx hb dX0_wetPlace_95 rfl rfl ?_
  refine dw_ald C0 Z (dw_r8_0 hk_i) (dw_n8_0 hk_i) g1 dX0_wetPlace_96 ?_
  refine lv_iload hx hb dX0_wetPlace_97 (lv_at hl 0 rfl) ?_
  refine lv_isub hx hb dX0_wetPlace_99 ?_
  refine dw_ast C0 Z dw_hA (dw_r8_0 hk_i) (dw_n8_0 hk_i) g1 dX0_wetPlace_100 (fun μ8 eμ8 H locs Z => ?_)
  have h := dw_nmS eμ8 h
  refine lv_aload_n hx hb dX0_wetPlace_101 rfl (lv_at hl 6 rfl) ?_
  refine dw_g8_1 (t := (i + 2)) C0 Z hk_i tw_fX0_119 rfl dX0_wetPlace_102 ?_
  refine lv_iload_n hx hb dX0_wetPlace_105 rfl (lv_at hl 7 rfl) ?_
  refine lv_dup2_11 hx hb dX0_wetPlace_106 rfl rfl ?_
  refine dw_ald C0 Z (dw_r8_1 hk_i) (dw_n8_1 hk_i) g1 dX0_wetPlace_107 ?_
  refine lv_iload hx hb dX0_wetPlace_108 (lv_at hl 0 rfl) ?_
  refine lv_iadd hx hb dX0_wetPlace_110 ?_
  refine dw_ast C0 Z dw_hA (dw_r8_1 hk_i) (dw_n8_1 hk_i) g1 dX0_wetPlace_111 (fun μ9 eμ9 H locs Z => ?_)
  have h := dw_nmS eμ9 h
  obtain rfl := dw_s1 h
  exact dw_vret C0 Z hr hlk dX0_wetPlace_112

def fX2_has (μ : dw_M) (i : Nat) (a1 : Int32) : Int32 :=
  if (lg_cmp ((dw_us (μ.2 i) a1) &&& (1 : Int64)) (0 : Int64)) = 0 then (
   (0 : Int32))
  else (
   (1 : Int32))
set_option maxHeartbeats 4000000 in
set_option maxRecDepth 100000 in
theorem kX2_has (l : Launch) (Γ : dw_G) (hj : dw_inj Γ) (μ : dw_M) (i : Nat) (hk_i : dw_kd i = 2) (a1 : Int32) {r : Int32} (h : fX2_has μ i a1 = r) : Met l yX2_has (dw_ws yX2_has cX2_has 2 (some .boolean)) (dw_rm 0 0) (dw_P Γ ([.ref (dw_ad Γ i), .int a1] : List Value) μ) (dw_Qi Γ r μ) 0 0 (dw_A Γ) := by
  refine dw_met (own := RX2) rfl rfl (Nat.le_of_ble_eq_true rfl) hj ?_
  intro p e s m below meth c C0 hr hlk Z ls hl
  have hx := C0.1
  have hb := C0.2.1
  have hl : lv_has ls 2 [(0, .ref (dw_ad Γ i)), (1, .int a1)] := hl
  suffices key : ∀ (H : Heap) (locs : List Loc), dw_Z Γ (dw_A Γ) s.heap μ H locs → W p l e (dw_rm 0 0) s m ([.ref (dw_ad Γ i), .int a1] : List Value).toArray below meth c H locs 0 0 (MQ below (dw_Qi Γ r μ) ([.ref (dw_ad Γ i), .int a1] : List Value).toArray s 0 0 (dw_A Γ)) (F0 m 0 ls []) from key _ _ Z
  clear Z
  intro H locs Z
  unfold fX2_has at h
  refine lv_aload_n hx hb dX2_has_0 rfl (lv_at hl 0 rfl) ?_
  refine dw_g2_0 C0 Z hk_i tw_fX2_7 dX2_has_1 ?_
  refine lv_iload_n hx hb dX2_has_4 rfl (lv_at hl 1 rfl) ?_
  refine lv_lushr (v := (dw_us (μ.2 i) a1)) hx hb dX2_has_5 rfl ?_
  refine lv_lconst (v := (1 : Int64)) hx hb dX2_has_6 (by decide) ?_
  refine lv_land hx hb dX2_has_7 ?_
  refine lv_lconst (v := (0 : Int64)) hx hb dX2_has_8 (by decide) ?_
  refine W.lcmp hx hb dX2_has_9 ?_
  refine lv_if_eq (tgt := 17) hx hb dX2_has_10 (by decide) (fun c1 => ?_) (fun c1 => ?_)
  · have h := dw_ifT c1 h
    refine lv_iconst (v := (0 : Int32)) hx hb dX2_has_17 (by decide) ?_
    obtain rfl := dw_t1 h
    exact dw_zret C0 Z hr hlk rfl dX2_has_18
  · have h := dw_ifF c1 h
    refine lv_iconst (v := (1 : Int32)) hx hb dX2_has_13 (by decide) ?_
    refine lv_goto (tgt := 18) hx hb dX2_has_14 (by decide) ?_
    obtain rfl := dw_t1 h
    exact dw_zret C0 Z hr hlk rfl dX2_has_18
theorem zX2_has (μ : dw_M) (i : Nat) (a1 : Int32) : narrow .boolean (.int (fX2_has μ i a1)) = .int (fX2_has μ i a1) := by
  unfold fX2_has
  repeat' split
  all_goals first | rfl

def sX0_drainPlace_22 (i : Nat) (a1 : Int32) (x3 : Int32) (x4 : Int32) (μ5 : dw_M) : Option ((Int32 × dw_M) ⊕ ((dw_M))) :=
  if (μ5.1 138 a1.toNatClampNeg) ≤ x4 then (
  some (.inr μ5))
  else (
  dw_gd (dw_ok ((a1 * (20 : Int32)) + x4) 720) (
  dw_nm (μ5.1 139 ((a1 * (20 : Int32)) + x4).toNatClampNeg) (fun x8 =>
  dw_gd (dw_ok x8 20) (
  dw_jm (fun (x10 : Int32) =>
  if x10 = 0 then (
  if (fX2_has μ5 (i + 7) x8) = 0 then (
  dw_nm ((μ5.1 (12 + 1 + 2 * x8.toNatClampNeg) 4) - (μ5.1 (i + 3) x8.toNatClampNeg)) (fun x15 =>
  dw_nm (dw_mn x15 (((μ5.1 (i + 2) a1.toNatClampNeg) * x3) / (100 : Int32))) (fun x16 =>
  dw_nm (dw_st μ5 (i + 2) a1.toNatClampNeg ((μ5.1 (i + 2) a1.toNatClampNeg) - x16)) (fun μ17 =>
  dw_nm (dw_st μ17 (i + 3) x8.toNatClampNeg ((μ17.1 (i + 3) x8.toNatClampNeg) + x16)) (fun μ18 =>
  dw_nm (x4 + (1 : Int32)) (fun x19 =>
  some (.inl (x19, μ18))))))))
  else (
  dw_nm (x4 + (1 : Int32)) (fun x14 =>
  some (.inl (x14, μ5)))))
  else (
  dw_nm (x4 + (1 : Int32)) (fun x12 =>
  some (.inl (x12, μ5))))) (fun k83 =>
  dw_jm (k83 (0 : Int32)) (fun k82 =>
  if (μ5.1 (12 + 1 + 2 * x8.toNatClampNeg) 1) = (2 : Int32) then (
  if (μ5.1 (i + 4) x8.toNatClampNeg) = 0 then (
  k83 (1 : Int32))
  else (
  k82))
  else (
  k82)))))))
def fX0_drainPlace (μ : dw_M) (i : Nat) (a1 : Int32) : Option (dw_M) :=
  dw_gd (dw_ok a1 36) (
  dw_gd (dw_ok (μ.1 4 a1.toNatClampNeg) 4) (
  dw_nm (μ.1 6 (μ.1 4 a1.toNatClampNeg).toNatClampNeg) (fun x3 =>
  dw_bd (dw_wh (fun v => sX0_drainPlace_22 i a1 x3 v.1 v.2) 1000 ((0 : Int32), μ))
    (fun μ22 => some μ22))))
set_option maxHeartbeats 4000000 in
set_option maxRecDepth 100000 in
theorem kX0_drainPlace (l : Launch) (Γ : dw_G) (hj : dw_inj Γ) (μ : dw_M) (i : Nat) (hk_i : dw_kd i = 8) (a1 : Int32) {ν : dw_M} (h : fX0_drainPlace μ i a1 = some ν) : Met l yX0_drainPlace (dw_ws yX0_drainPlace cX0_drainPlace 11 none) (dw_rm 1 24) (dw_P Γ ([.ref (dw_ad Γ 135), .ref (dw_ad Γ 1), .ref (dw_ad Γ i), .int a1] : List Value) μ) (dw_Qv Γ ν) 0 0 (dw_A Γ) := by
  refine dw_met (own := RX0) rfl rfl (Nat.le_of_ble_eq_true rfl) hj ?_
  intro p e s m below meth c C0 hr hlk Z ls hl
  have hx := C0.1
  have hb := C0.2.1
  have hl : lv_has ls 11 [(0, .ref (dw_ad Γ 135)), (1, .ref (dw_ad Γ 1)), (2, .ref (dw_ad Γ i)), (3, .int a1)] := hl
  suffices key : ∀ (H : Heap) (locs : List Loc), dw_Z Γ (dw_A Γ) s.heap μ H locs → W p l e (dw_rm 1 24) s m ([.ref (dw_ad Γ 135), .ref (dw_ad Γ 1), .ref (dw_ad Γ i), .int a1] : List Value).toArray below meth c H locs 0 0 (MQ below (dw_Qv Γ ν) ([.ref (dw_ad Γ 135), .ref (dw_ad Γ 1), .ref (dw_ad Γ i), .int a1] : List Value).toArray s 0 0 (dw_A Γ)) (F0 m 0 ls []) from key _ _ Z
  clear Z
  intro H locs Z
  unfold fX0_drainPlace at h
  refine lv_aload_n hx hb dX0_drainPlace_0 rfl (lv_at hl 1 rfl) ?_
  refine dw_g6_0 (t := 2) C0 Z dw_kc1 tw_fX0_71 rfl dX0_drainPlace_1 ?_
  refine dw_g1_5 (t := 6) C0 Z dw_kc2 tw_fX0_134 rfl dX0_drainPlace_4 ?_
  refine lv_aload_n hx hb dX0_drainPlace_7 rfl (lv_at hl 1 rfl) ?_
  refine dw_g6_0 (t := 2) C0 Z dw_kc1 tw_fX0_71 rfl dX0_drainPlace_8 ?_
  refine dw_g1_3 (t := 4) C0 Z dw_kc2 tw_fX0_104 rfl dX0_drainPlace_11 ?_
  refine lv_iload_n hx hb dX0_drainPlace_14 rfl (lv_at hl 3 rfl) ?_
  obtain ⟨g1, h⟩ := dw_gdS h
  refine dw_ald C0 Z dw_kc4 dw_lc4 g1 dX0_drainPlace_15 ?_
  obtain ⟨g2, h⟩ := dw_gdS h
  refine dw_ald C0 Z dw_kc6 dw_lc6 g2 dX0_drainPlace_16 ?_
  refine lv_topi (fun x3 ex3 => ?_)
  have h := dw_nmS ex3 h
  refine lv_istore (lv' := [(4, .int x3), (0, .ref (dw_ad Γ 135)), (1, .ref (dw_ad Γ 1)), (2, .ref (dw_ad Γ i)), (3, .int a1)]) hx hb dX0_drainPlace_17 hl (by decide) rfl (fun ls hl => ?_)
  refine lv_iconst (v := (0 : Int32)) hx hb dX0_drainPlace_19 (by decide) ?_
  refine lv_istore (lv' := [(5, .int (0 : Int32)), (4, .int x3), (0, .ref (dw_ad Γ 135)), (1, .ref (dw_ad Γ 1)), (2, .ref (dw_ad Γ i)), (3, .int a1)]) hx hb dX0_drainPlace_20 hl (by decide) rfl (fun ls hl => ?_)
  obtain ⟨kc22, ekc22, h⟩ := dw_bdK h
  have E22 : ∀ (μ22 : dw_M) (H : Heap) (locs : List Loc) (ls : Array Slot), dw_Z Γ (dw_A Γ) s.heap μ22 H locs → lv_has ls 11 [] → kc22 μ22 = some ν → W p l e (dw_rm 1 24) s m ([.ref (dw_ad Γ 135), .ref (dw_ad Γ 1), .ref (dw_ad Γ i), .int a1] : List Value).toArray below meth c H locs 0 0 (MQ below (dw_Qv Γ ν) ([.ref (dw_ad Γ 135), .ref (dw_ad Γ 1), .ref (dw_ad Γ i), .int a1] : List Value).toArray s 0 0 (dw_A Γ)) (F0 m 165 ls []) := by
    intro μ22 H locs ls Z hl h
    rw [ekc22] at h
    dsimp only at h
    obtain rfl := dw_s1 h
    exact dw_vret C0 Z hr hlk dX0_drainPlace_165
  have L22 : ∀ (n22 : Nat) (x4 : Int32) (μ5 : dw_M) (H : Heap) (locs : List Loc) (ls : Array Slot), dw_Z Γ (dw_A Γ) s.heap μ5 H locs → lv_has ls 11 [(0, .ref (dw_ad Γ 135)), (1, .ref (dw_ad Γ 1)), (2, .ref (dw_ad Γ i)), (3, .int a1), (4, .int x3), (5, .int x4)] → dw_bd (dw_wh (fun v => sX0_drainPlace_22 i a1 x3 v.1 v.2) n22 (x4, μ5)) kc22 = some ν → W p l e (dw_rm 1 24) s m ([.ref (dw_ad Γ 135), .ref (dw_ad Γ 1), .ref (dw_ad Γ i), .int a1] : List Value).toArray below meth c H locs 0 0 (MQ below (dw_Qv Γ ν) ([.ref (dw_ad Γ 135), .ref (dw_ad Γ 1), .ref (dw_ad Γ i), .int a1] : List Value).toArray s 0 0 (dw_A Γ)) (F0 m 22 ls []) := by
    clear h
    intro n22
    induction n22 with
    | zero =>
      intro x4 μ5 H locs ls Z hl h
      exact (dw_wh0 h).elim
    | succ n22 ih22 =>
      intro x4 μ5 H locs ls Z hl h
      obtain ⟨q22, hs, hq22⟩ := dw_whB h
      have h : sX0_drainPlace_22 i a1 x3 x4 μ5 = some q22 := hs
      unfold sX0_drainPlace_22 at h
      refine lv_iload hx hb dX0_drainPlace_22 (lv_at hl 5 rfl) ?_
      refine lv_aload_n hx hb dX0_drainPlace_24 rfl (lv_at hl 0 rfl) ?_
      refine dw_g0_2 (t := 138) C0 Z dw_kc135 tw_fX0_18 rfl dX0_drainPlace_25 ?_
      refine lv_iload_n hx hb dX0_drainPlace_28 rfl (lv_at hl 3 rfl) ?_
      refine dw_ald C0 Z dw_kc138 dw_lc138 g1 dX0_drainPlace_29 ?_
      refine lv_icmp_ge (tgt := 165) hx hb dX0_drainPlace_30 (by decide) (fun c6 => ?_) (fun c6 => ?_)
      · have h := dw_ifT c6 h
        obtain rfl := dw_s1 h
        exact E22  μ5 H locs ls Z (lv_sub hl [] rfl) hq22
      · have h := dw_ifF c6 h
        refine lv_aload_n hx hb dX0_drainPlace_33 rfl (lv_at hl 0 rfl) ?_
        refine dw_g0_3 (t := 139) C0 Z dw_kc135 tw_fX0_21 rfl dX0_drainPlace_34 ?_
        refine lv_iload_n hx hb dX0_drainPlace_37 rfl (lv_at hl 3 rfl) ?_
        refine lv_bipush (v := (20 : Int32)) hx hb dX0_drainPlace_38 (by decide) ?_
        refine lv_imul hx hb dX0_drainPlace_40 ?_
        refine lv_iload hx hb dX0_drainPlace_41 (lv_at hl 5 rfl) ?_
        refine lv_iadd hx hb dX0_drainPlace_43 ?_
        obtain ⟨g7, h⟩ := dw_gdS h
        refine dw_ald C0 Z dw_kc139 dw_lc139 g7 dX0_drainPlace_44 ?_
        refine lv_topi (fun x8 ex8 => ?_)
        have h := dw_nmS ex8 h
        refine lv_istore (lv' := [(6, .int x8), (0, .ref (dw_ad Γ 135)), (1, .ref (dw_ad Γ 1)), (2, .ref (dw_ad Γ i)), (3, .int a1), (4, .int x3), (5, .int x4)]) hx hb dX0_drainPlace_45 hl (by decide) rfl (fun ls hl => ?_)
        refine lv_aload_n hx hb dX0_drainPlace_47 rfl (lv_at hl 2 rfl) ?_
        refine dw_g6_2 (t := 11) C0 Z dw_kc1 tw_fX0_89 rfl dX0_drainPlace_48 ?_
        refine dw_g4_0 (t := 12) C0 Z dw_kc11 tw_fX0_41 rfl dX0_drainPlace_51 ?_
        refine lv_iload hx hb dX0_drainPlace_54 (lv_at hl 0 rfl) ?_
        obtain ⟨g9, h⟩ := dw_gdS h
        refine dw_aald C0 Z dw_kc12 g9 dX0_drainPlace_56 ?_
        refine lv_astore (lv' := [(7, .ref (dw_ad Γ (12 + 1 + 2 * x8.toNatClampNeg))), (6, .int x8), (0, .ref (dw_ad Γ 135)), (1, .ref (dw_ad Γ 1)), (2, .ref (dw_ad Γ i)), (3, .int a1), (4, .int x3), (5, .int x4)]) hx hb dX0_drainPlace_57 hl (by decide) rfl (fun ls hl => ?_)
        refine lv_aload hx hb dX0_drainPlace_59 (lv_at hl 0 rfl) ?_
        refine dw_g5_1 C0 Z (dw_pk dw_kc12 (dw_ok_lt g9)) tw_fX0_137 dX0_drainPlace_61 ?_
        refine lv_iconst (v := (2 : Int32)) hx hb dX0_drainPlace_64 (by decide) ?_
        obtain ⟨k83, ek83, h⟩ := dw_jnS h
        have J83 : ∀ (x10 : Int32) (H : Heap) (locs : List Loc) (ls : Array Slot), dw_Z Γ (dw_A Γ) s.heap μ5 H locs → lv_has ls 11 [(0, .ref (dw_ad Γ 135)), (1, .ref (dw_ad Γ 1)), (2, .ref (dw_ad Γ i)), (3, .int a1), (4, .int x3), (5, .int x4), (6, .int x8), (7, .ref (dw_ad Γ (12 + 1 + 2 * x8.toNatClampNeg)))] → k83 x10 = some q22 → W p l e (dw_rm 1 24) s m ([.ref (dw_ad Γ 135), .ref (dw_ad Γ 1), .ref (dw_ad Γ i), .int a1] : List Value).toArray below meth c H locs 0 0 (MQ below (dw_Qv Γ ν) ([.ref (dw_ad Γ 135), .ref (dw_ad Γ 1), .ref (dw_ad Γ i), .int a1] : List Value).toArray s 0 0 (dw_A Γ)) (F0 m 83 ls [.int x10]) := by
          clear h
          intro x10 H locs ls Z hl h
          rw [ek83] at h
          dsimp only at h
          refine lv_istore (lv' := [(8, .int x10), (0, .ref (dw_ad Γ 135)), (1, .ref (dw_ad Γ 1)), (2, .ref (dw_ad Γ i)), (3, .int a1), (4, .int x3), (5, .int x4), (6, .int x8), (7, .ref (dw_ad Γ (12 + 1 + 2 * x8.toNatClampNeg)))]) hx hb dX0_drainPlace_83 hl (by decide) rfl (fun ls hl => ?_)
          refine lv_iload hx hb dX0_drainPlace_85 (lv_at hl 0 rfl) ?_
          refine lv_if_ne (tgt := 159) hx hb dX0_drainPlace_87 (by decide) (fun c11 => ?_) (fun c11 => ?_)
          · have h := dw_ifF c11 h
            obtain ⟨x12, ex12⟩ := dw_eg (x4 + (1 : Int32))
            have h := dw_nmS ex12 h
            refine lv_iinc (v := x12) (lv' := [(5, .int x12), (8, .int x10), (0, .ref (dw_ad Γ 135)), (1, .ref (dw_ad Γ 1)), (2, .ref (dw_ad Γ i)), (3, .int a1), (4, .int x3), (6, .int x8), (7, .ref (dw_ad Γ (12 + 1 + 2 * x8.toNatClampNeg)))]) hx hb dX0_drainPlace_159 hl (k := 6) rfl (by rw [ex12]; rfl) (by decide) rfl (fun ls hl => ?_)
            refine lv_goto (tgt := 22) hx hb dX0_drainPlace_162 (by decide) ?_
            obtain rfl := dw_s1 h
            exact ih22 x12 μ5 H locs ls Z (lv_sub hl [2, 3, 4, 5, 6, 0] rfl) hq22
          · have h := dw_ifT c11 h
            refine lv_aload_n hx hb dX0_drainPlace_90 rfl (lv_at hl 3 rfl) ?_
            refine dw_g8_6 (t := (i + 7)) C0 Z hk_i tw_fX0_140 rfl dX0_drainPlace_91 ?_
            refine lv_iload hx hb dX0_drainPlace_94 (lv_at hl 7 rfl) ?_
            refine dw_cVi C0 Z dw_hA (dw_lt (dw_r8_6 hk_i) (by decide)) (dw_cz2 (dw_r8_6 hk_i)) rfl (As := [.int x8]) (rest := []) (kX2_has l Γ hj μ5 (i + 7) (dw_r8_6 hk_i) x8 rfl) (dw_gV tw_lX0_144 tw_vX2_has tw_eX2_has tw_iX2 tw_kX2_has) dw_hX2_has ⟨Nat.le_of_ble_eq_true rfl, Nat.le_of_ble_eq_true rfl⟩ ⟨Nat.zero_le _, Nat.zero_le _⟩ hl.1 (Nat.le_of_ble_eq_true rfl) rfl dX0_drainPlace_96 (fun H locs Z => ?_)
            refine lv_if_ne (tgt := 159) hx hb dX0_drainPlace_99 (by decide) (fun c13 => ?_) (fun c13 => ?_)
            · have h := dw_ifF c13 h
              obtain ⟨x14, ex14⟩ := dw_eg (x4 + (1 : Int32))
              have h := dw_nmS ex14 h
              refine lv_iinc (v := x14) (lv' := [(5, .int x14), (8, .int x10), (0, .ref (dw_ad Γ 135)), (1, .ref (dw_ad Γ 1)), (2, .ref (dw_ad Γ i)), (3, .int a1), (4, .int x3), (6, .int x8), (7, .ref (dw_ad Γ (12 + 1 + 2 * x8.toNatClampNeg)))]) hx hb dX0_drainPlace_159 hl (k := 6) rfl (by rw [ex14]; rfl) (by decide) rfl (fun ls hl => ?_)
              refine lv_goto (tgt := 22) hx hb dX0_drainPlace_162 (by decide) ?_
              obtain rfl := dw_s1 h
              exact ih22 x14 μ5 H locs ls Z (lv_sub hl [2, 3, 4, 5, 6, 0] rfl) hq22
            · have h := dw_ifT c13 h
              refine lv_aload hx hb dX0_drainPlace_102 (lv_at hl 8 rfl) ?_
              refine dw_g5_4 C0 Z (dw_pk dw_kc12 (dw_ok_lt g9)) tw_fX0_150 dX0_drainPlace_104 ?_
              refine lv_aload_n hx hb dX0_drainPlace_107 rfl (lv_at hl 3 rfl) ?_
              refine dw_g8_2 (t := (i + 3)) C0 Z hk_i tw_fX0_153 rfl dX0_drainPlace_108 ?_
              refine lv_iload hx hb dX0_drainPlace_111 (lv_at hl 7 rfl) ?_
              refine dw_ald C0 Z (dw_r8_2 hk_i) (dw_n8_2 hk_i) g9 dX0_drainPlace_113 ?_
              refine lv_isub hx hb dX0_drainPlace_114 ?_
              refine lv_topi (fun x15 ex15 => ?_)
              have h := dw_nmS ex15 h
              refine lv_istore (lv' := [(9, .int x15), (8, .int x10), (0, .ref (dw_ad Γ 135)), (1, .ref (dw_ad Γ 1)), (2, .ref (dw_ad Γ i)), (3, .int a1), (4, .int x3), (5, .int x4), (6, .int x8), (7, .ref (dw_ad Γ (12 + 1 + 2 * x8.toNatClampNeg)))]) hx hb dX0_drainPlace_115 hl (by decide) rfl (fun ls hl => ?_)
              refine lv_iload hx hb dX0_drainPlace_117 (lv_at hl 0 rfl) ?_
              refine lv_aload_n hx hb dX0_drainPlace_119 rfl (lv_at hl 4 rfl) ?_
              refine dw_g8_1 (t := (i + 2)) C0 Z hk_i tw_fX0_119 rfl dX0_drainPlace_120 ?_
              refine lv_iload_n hx hb dX0_drainPlace_123 rfl (lv_at hl 5 rfl) ?_
              refine dw_ald C0 Z (dw_r8_1 hk_i) (dw_n8_1 hk_i) g1 dX0_drainPlace_124 ?_
              refine lv_iload hx hb dX0_drainPlace_125 (lv_at hl 6 rfl) ?_
              refine lv_imul hx hb dX0_drainPlace_127 ?_
              refine lv_bipush (v := (100 : Int32)) hx hb dX0_drainPlace_128 (by decide) ?_
              refine lv_idiv hx hb dX0_drainPlace_130 (by decide) ?_
              refine dw_mmin C0 hl.1 tw_lX0_131 (Nat.le_of_ble_eq_true rfl) (Nat.le_of_ble_eq_true rfl) ⟨Nat.zero_le _, Nat.zero_le _⟩ dX0_drainPlace_131 ?_
              refine lv_topi (fun x16 ex16 => ?_)
              have h := dw_nmS ex16 h
              refine lv_istore (lv' := [(10, .int x16), (9, .int x15), (8, .int x10), (0, .ref (dw_ad Γ 135)), (1, .ref (dw_ad Γ 1)), (2, .ref (dw_ad Γ i)), (3, .int a1), (4, .int x3), (5, .int x4), (6, .int x8), (7, .ref (dw_ad Γ (12 + 1 + 2 * x8.toNatClampNeg)))]) hx hb dX0_drainPlace_134 hl (by decide) rfl (fun ls hl => ?_)
              refine lv_aload_n hx hb dX0_drainPlace_136 rfl (lv_at hl 5 rfl) ?_
              refine dw_g8_1 (t := (i + 2)) C0 Z hk_i tw_fX0_119 rfl dX0_drainPlace_137 ?_
              refine lv_iload_n hx hb dX0_drainPlace_140 rfl (lv_at hl 6 rfl) ?_
              refine lv_dup2_11 hx hb dX0_drainPlace_141 rfl rfl ?_
              refine dw_ald C0 Z (dw_r8_1 hk_i) (dw_n8_1 hk_i) g1 dX0_drainPlace_142 ?_
              refine lv_iload hx hb dX0_drainPlace_143 (lv_at hl 0 rfl) ?_
              refine lv_isub hx hb dX0_drainPlace_145 ?_
              refine dw_ast C0 Z dw_hA (dw_r8_1 hk_i) (dw_n8_1 hk_i) g1 dX0_drainPlace_146 (fun μ17 eμ17 H locs Z => ?_)
              have h := dw_nmS eμ17 h
              refine lv_aload_n hx hb dX0_drainPlace_147 rfl (lv_at hl 5 rfl) ?_
              refine dw_g8_2 (t := (i + 3)) C0 Z hk_i tw_fX0_153 rfl dX0_drainPlace_148 ?_
              refine lv_iload hx hb dX0_drainPlace_151 (lv_at hl 9 rfl) ?_
              refine lv_dup2_11 hx hb dX0_drainPlace_153 rfl rfl ?_
              refine dw_ald C0 Z (dw_r8_2 hk_i) (dw_n8_2 hk_i) g9 dX0_drainPlace_154 ?_
              refine lv_iload hx hb dX0_drainPlace_155 (lv_at hl 0 rfl) ?_
              refine lv_iadd hx hb dX0_drainPlace_157 ?_
              refine dw_ast C0 Z dw_hA (dw_r8_2 hk_i) (dw_n8_2 hk_i) g9 dX0_drainPlace_158 (fun μ18 eμ18 H locs Z => ?_)
              have h := dw_nmS eμ18 h
              obtain ⟨x19, ex19⟩ := dw_eg (x4 + (1 : Int32))
              have h := dw_nmS ex19 h
              refine lv_iinc (v := x19) (lv' := [(5, .int x19), (10, .int x16), (9, .int x15), (8, .int x10), (0, .ref (dw_ad Γ 135)), (1, .ref (dw_ad Γ 1)), (2, .ref (dw_ad Γ i)), (3, .int a1), (4, .int x3), (6, .int x8), (7, .ref (dw_ad Γ (12 + 1 + 2 * x8.toNatClampNeg)))]) hx hb dX0_drainPlace_159 hl (k := 8) rfl (by rw [ex19]; rfl) (by decide) rfl (fun ls hl => ?_)
              refine lv_goto (tgt := 22) hx hb dX0_drainPlace_162 (by decide) ?_
              obtain rfl := dw_s1 h
              exact ih22 x19 μ18 H locs ls Z (lv_sub hl [4, 5, 6, 7, 8, 0] rfl) hq22
        obtain ⟨k82, ek82, h⟩ := dw_jnS h
        have J82 : ∀ (H : Heap) (locs : List Loc) (ls : Array Slot), dw_Z Γ (dw_A Γ) s.heap μ5 H locs → lv_has ls 11 [(0, .ref (dw_ad Γ 135)), (1, .ref (dw_ad Γ 1)), (2, .ref (dw_ad Γ i)), (3, .int a1), (4, .int x3), (5, .int x4), (6, .int x8), (7, .ref (dw_ad Γ (12 + 1 + 2 * x8.toNatClampNeg)))] → k82 = some q22 → W p l e (dw_rm 1 24) s m ([.ref (dw_ad Γ 135), .ref (dw_ad Γ 1), .ref (dw_ad Γ i), .int a1] : List Value).toArray below meth c H locs 0 0 (MQ below (dw_Qv Γ ν) ([.ref (dw_ad Γ 135), .ref (dw_ad Γ 1), .ref (dw_ad Γ i), .int a1] : List Value).toArray s 0 0 (dw_A Γ)) (F0 m 82 ls []) := by
          clear h
          intro  H locs ls Z hl h
          rw [ek82] at h
          refine lv_iconst (v := (0 : Int32)) hx hb dX0_drainPlace_82 (by decide) ?_
          exact J83 (0 : Int32) H locs ls Z (lv_sub hl [0, 1, 2, 3, 4, 5, 6, 7] rfl) h
        refine lv_icmp_ne (tgt := 82) hx hb dX0_drainPlace_65 (by decide) (fun c20 => ?_) (fun c20 => ?_)
        · have h := dw_ifF c20 h
          exact J82 H locs ls Z (lv_sub hl [2, 3, 4, 5, 6, 7, 1, 0] rfl) h
        · have h := dw_ifT c20 h
          refine lv_aload_n hx hb dX0_drainPlace_68 rfl (lv_at hl 4 rfl) ?_
          refine dw_g8_3 (t := (i + 4)) C0 Z hk_i tw_fX0_96 rfl dX0_drainPlace_69 ?_
          refine lv_iload hx hb dX0_drainPlace_72 (lv_at hl 1 rfl) ?_
          refine dw_ald C0 Z (dw_r8_3 hk_i) (dw_n8_3 hk_i) g9 dX0_drainPlace_74 ?_
          refine lv_if_ne (tgt := 82) hx hb dX0_drainPlace_75 (by decide) (fun c21 => ?_) (fun c21 => ?_)
          · have h := dw_ifF c21 h
            exact J82 H locs ls Z (lv_sub hl [2, 3, 4, 5, 6, 7, 1, 0] rfl) h
          · have h := dw_ifT c21 h
            refine lv_iconst (v := (1 : Int32)) hx hb dX0_drainPlace_78 (by decide) ?_
            refine lv_goto (tgt := 83) hx hb dX0_drainPlace_79 (by decide) ?_
            exact J83 (1 : Int32) H locs ls Z (lv_sub hl [2, 3, 4, 5, 6, 7, 1, 0] rfl) h
  exact L22 1000 (0 : Int32) μ H locs ls Z (lv_sub hl [2, 3, 4, 5, 1, 0] rfl) h

def fX3_levelAt (μ : dw_M) (i : Nat) (a1 : Int32) : Int32 :=
   ((μ.1 i 3) - (a1 * (μ.1 i 4)))
set_option maxHeartbeats 4000000 in
set_option maxRecDepth 100000 in
theorem kX3_levelAt (l : Launch) (Γ : dw_G) (hj : dw_inj Γ) (μ : dw_M) (i : Nat) (hk_i : dw_kd i = 3) (a1 : Int32) {r : Int32} (h : fX3_levelAt μ i a1 = r) : Met l yX3_levelAt (dw_ws yX3_levelAt cX3_levelAt 2 (some .int)) (dw_rm 0 0) (dw_P Γ ([.ref (dw_ad Γ i), .int a1] : List Value) μ) (dw_Qi Γ r μ) 0 0 (dw_A Γ) := by
  refine dw_met (own := RX3) rfl rfl (Nat.le_of_ble_eq_true rfl) hj ?_
  intro p e s m below meth c C0 hr hlk Z ls hl
  have hx := C0.1
  have hb := C0.2.1
  have hl : lv_has ls 2 [(0, .ref (dw_ad Γ i)), (1, .int a1)] := hl
  suffices key : ∀ (H : Heap) (locs : List Loc), dw_Z Γ (dw_A Γ) s.heap μ H locs → W p l e (dw_rm 0 0) s m ([.ref (dw_ad Γ i), .int a1] : List Value).toArray below meth c H locs 0 0 (MQ below (dw_Qi Γ r μ) ([.ref (dw_ad Γ i), .int a1] : List Value).toArray s 0 0 (dw_A Γ)) (F0 m 0 ls []) from key _ _ Z
  clear Z
  intro H locs Z
  unfold fX3_levelAt at h
  refine lv_aload_n hx hb dX3_levelAt_0 rfl (lv_at hl 0 rfl) ?_
  refine dw_g3_3 C0 Z hk_i tw_fX3_19 dX3_levelAt_1 ?_
  refine lv_iload_n hx hb dX3_levelAt_4 rfl (lv_at hl 1 rfl) ?_
  refine lv_aload_n hx hb dX3_levelAt_5 rfl (lv_at hl 0 rfl) ?_
  refine dw_g3_4 C0 Z hk_i tw_fX3_22 dX3_levelAt_6 ?_
  refine lv_imul hx hb dX3_levelAt_9 ?_
  refine lv_isub hx hb dX3_levelAt_10 ?_
  obtain rfl := dw_t1 h
  exact dw_iret C0 Z hr hlk dX3_levelAt_11

def fX0_mostInto (μ : dw_M) (i : Nat) (j : Nat) : Option (Int32) :=
  if (fX5_leadsIntoPipe μ j) = 0 then (
  if (100 : Int32) ≤ (μ.1 j 5) then (
  dw_nm (fX3_levelAt μ (j + 1) ((μ.1 (j + 1) 2) - (1 : Int32))) (fun x3 =>
  dw_gd (dw_ok ((μ.1 j 5) - (100 : Int32)) 4) (
  dw_jm (fun (x5 : Int32) =>
  if x5 = 0 then (
  some (μ.1 j 3))
  else (
  some (0 : Int32))) (fun k87 =>
  if (μ.1 9 ((μ.1 j 5) - (100 : Int32)).toNatClampNeg) ≤ x3 then (
  k87 (0 : Int32))
  else (
  k87 (1 : Int32))))))
  else (
  some (0 : Int32)))
  else (
  dw_gd (dw_ok (μ.1 j 5) 20) (
  some ((μ.1 (12 + 1 + 2 * (μ.1 j 5).toNatClampNeg) 4) - (μ.1 (i + 3) (μ.1 j 5).toNatClampNeg))))
set_option maxHeartbeats 4000000 in
set_option maxRecDepth 100000 in
theorem kX0_mostInto (l : Launch) (Γ : dw_G) (hj : dw_inj Γ) (μ : dw_M) (i : Nat) (hk_i : dw_kd i = 8) (j : Nat) (hk_j : dw_kd j = 5) {r : Int32} (h : fX0_mostInto μ i j = some r) : Met l yX0_mostInto (dw_ws yX0_mostInto cX0_mostInto 6 (some .int)) (dw_rm 1 21) (dw_P Γ ([.ref (dw_ad Γ 135), .ref (dw_ad Γ 1), .ref (dw_ad Γ i), .ref (dw_ad Γ j)] : List Value) μ) (dw_Qi Γ r μ) 0 0 (dw_A Γ) := by
  refine dw_met (own := RX0) rfl rfl (Nat.le_of_ble_eq_true rfl) hj ?_
  intro p e s m below meth c C0 hr hlk Z ls hl
  have hx := C0.1
  have hb := C0.2.1
  have hl : lv_has ls 6 [(0, .ref (dw_ad Γ 135)), (1, .ref (dw_ad Γ 1)), (2, .ref (dw_ad Γ i)), (3, .ref (dw_ad Γ j))] := hl
  suffices key : ∀ (H : Heap) (locs : List Loc), dw_Z Γ (dw_A Γ) s.heap μ H locs → W p l e (dw_rm 1 21) s m ([.ref (dw_ad Γ 135), .ref (dw_ad Γ 1), .ref (dw_ad Γ i), .ref (dw_ad Γ j)] : List Value).toArray below meth c H locs 0 0 (MQ below (dw_Qi Γ r μ) ([.ref (dw_ad Γ 135), .ref (dw_ad Γ 1), .ref (dw_ad Γ i), .ref (dw_ad Γ j)] : List Value).toArray s 0 0 (dw_A Γ)) (F0 m 0 ls []) from key _ _ Z
  clear Z
  intro H locs Z
  unfold fX0_mostInto at h
  refine lv_aload_n hx hb dX0_mostInto_0 rfl (lv_at hl 3 rfl) ?_
  refine dw_cVi C0 Z dw_hA (dw_lt hk_j (by decide)) (dw_cz5 hk_j) rfl (As := []) (rest := []) (kX5_leadsIntoPipe l Γ hj μ j hk_j rfl) (dw_gV tw_lX0_166 tw_vX5_leadsIntoPipe tw_eX5_leadsIntoPipe tw_iX5 tw_kX5_leadsIntoPipe) dw_hX5_leadsIntoPipe ⟨Nat.le_of_ble_eq_true rfl, Nat.le_of_ble_eq_true rfl⟩ ⟨Nat.zero_le _, Nat.zero_le _⟩ hl.1 (Nat.le_of_ble_eq_true rfl) rfl dX0_mostInto_1 (fun H locs Z => ?_)
  refine lv_if_eq (tgt := 33) hx hb dX0_mostInto_4 (by decide) (fun c1 => ?_) (fun c1 => ?_)
  · have h := dw_ifT c1 h
    refine lv_aload_n hx hb dX0_mostInto_33 rfl (lv_at hl 3 rfl) ?_
    refine dw_g5_5 C0 Z hk_j tw_fX0_169 dX0_mostInto_34 ?_
    refine lv_bipush (v := (100 : Int32)) hx hb dX0_mostInto_37 (by decide) ?_
    refine lv_icmp_ge (tgt := 44) hx hb dX0_mostInto_39 (by decide) (fun c2 => ?_) (fun c2 => ?_)
    · have h := dw_ifT c2 h
      refine lv_aload_n hx hb dX0_mostInto_44 rfl (lv_at hl 3 rfl) ?_
      refine dw_g5_0 (t := (j + 1)) C0 Z hk_j tw_fX0_51 rfl dX0_mostInto_45 ?_
      refine lv_aload_n hx hb dX0_mostInto_48 rfl (lv_at hl 3 rfl) ?_
      refine dw_g5_0 (t := (j + 1)) C0 Z hk_j tw_fX0_51 rfl dX0_mostInto_49 ?_
      refine dw_g3_2 C0 Z (dw_r5_0 hk_j) tw_fX0_59 dX0_mostInto_52 ?_
      refine lv_iconst (v := (1 : Int32)) hx hb dX0_mostInto_55 (by decide) ?_
      refine lv_isub hx hb dX0_mostInto_56 ?_
      refine dw_cVi C0 Z dw_hA (dw_lt (dw_r5_0 hk_j) (by decide)) (dw_cz3 (dw_r5_0 hk_j)) rfl (As := [.int ((μ.1 (j + 1) 2) - (1 : Int32))]) (rest := []) (kX3_levelAt l Γ hj μ (j + 1) (dw_r5_0 hk_j) ((μ.1 (j + 1) 2) - (1 : Int32)) rfl) (dw_gV tw_lX0_175 tw_vX3_levelAt tw_eX3_levelAt tw_iX3 tw_kX3_levelAt) dw_hX3_levelAt ⟨Nat.le_of_ble_eq_true rfl, Nat.le_of_ble_eq_true rfl⟩ ⟨Nat.zero_le _, Nat.zero_le _⟩ hl.1 (Nat.le_of_ble_eq_true rfl) rfl dX0_mostInto_57 (fun H locs Z => ?_)
      refine lv_topi (fun x3 ex3 => ?_)
      have h := dw_nmS ex3 h
      refine lv_istore (lv' := [(4, .int x3), (0, .ref (dw_ad Γ 135)), (1, .ref (dw_ad Γ 1)), (2, .ref (dw_ad Γ i)), (3, .ref (dw_ad Γ j))]) hx hb dX0_mostInto_60 hl (by decide) rfl (fun ls hl => ?_)
      refine lv_aload_n hx hb dX0_mostInto_62 rfl (lv_at hl 2 rfl) ?_
      refine dw_g6_0 (t := 2) C0 Z dw_kc1 tw_fX0_71 rfl dX0_mostInto_63 ?_
      refine dw_g1_8 (t := 9) C0 Z dw_kc2 tw_fX0_178 rfl dX0_mostInto_66 ?_
      refine lv_aload_n hx hb dX0_mostInto_69 rfl (lv_at hl 4 rfl) ?_
      refine dw_g5_5 C0 Z hk_j tw_fX0_169 dX0_mostInto_70 ?_
      refine lv_bipush (v := (100 : Int32)) hx hb dX0_mostInto_73 (by decide) ?_
      refine lv_isub hx hb dX0_mostInto_75 ?_
      obtain ⟨g4, h⟩ := dw_gdS h
      refine dw_ald C0 Z dw_kc9 dw_lc9 g4 dX0_mostInto_76 ?_
      refine lv_iload hx hb dX0_mostInto_77 (lv_at hl 0 rfl) ?_
      obtain ⟨k87, ek87, h⟩ := dw_jnS h
      have J87 : ∀ (x5 : Int32) (H : Heap) (locs : List Loc) (ls : Array Slot), dw_Z Γ (dw_A Γ) s.heap μ H locs → lv_has ls 6 [(3, .ref (dw_ad Γ j))] → k87 x5 = some r → W p l e (dw_rm 1 21) s m ([.ref (dw_ad Γ 135), .ref (dw_ad Γ 1), .ref (dw_ad Γ i), .ref (dw_ad Γ j)] : List Value).toArray below meth c H locs 0 0 (MQ below (dw_Qi Γ r μ) ([.ref (dw_ad Γ 135), .ref (dw_ad Γ 1), .ref (dw_ad Γ i), .ref (dw_ad Γ j)] : List Value).toArray s 0 0 (dw_A Γ)) (F0 m 87 ls [.int x5]) := by
        clear h
        intro x5 H locs ls Z hl h
        rw [ek87] at h
        dsimp only at h
        refine lv_istore (lv' := [(5, .int x5), (3, .ref (dw_ad Γ j))]) hx hb dX0_mostInto_87 hl (by decide) rfl (fun ls hl => ?_)
        refine lv_iload hx hb dX0_mostInto_89 (lv_at hl 0 rfl) ?_
        refine lv_if_eq (tgt := 98) hx hb dX0_mostInto_91 (by decide) (fun c6 => ?_) (fun c6 => ?_)
        · have h := dw_ifT c6 h
          refine lv_aload_n hx hb dX0_mostInto_98 rfl (lv_at hl 1 rfl) ?_
          refine dw_g5_3 C0 Z hk_j tw_fX0_160 dX0_mostInto_99 ?_
          obtain rfl := dw_s1 h
          exact dw_iret C0 Z hr hlk dX0_mostInto_102
        · have h := dw_ifF c6 h
          refine lv_iconst (v := (0 : Int32)) hx hb dX0_mostInto_94 (by decide) ?_
          refine lv_goto (tgt := 102) hx hb dX0_mostInto_95 (by decide) ?_
          obtain rfl := dw_s1 h
          exact dw_iret C0 Z hr hlk dX0_mostInto_102
      refine lv_icmp_le (tgt := 86) hx hb dX0_mostInto_79 (by decide) (fun c7 => ?_) (fun c7 => ?_)
      · have h := dw_ifT c7 h
        refine lv_iconst (v := (0 : Int32)) hx hb dX0_mostInto_86 (by decide) ?_
        exact J87 (0 : Int32) H locs ls Z (lv_sub hl [4] rfl) h
      · have h := dw_ifF c7 h
        refine lv_iconst (v := (1 : Int32)) hx hb dX0_mostInto_82 (by decide) ?_
        refine lv_goto (tgt := 87) hx hb dX0_mostInto_83 (by decide) ?_
        exact J87 (1 : Int32) H locs ls Z (lv_sub hl [4] rfl) h
    · have h := dw_ifF c2 h
      refine lv_iconst (v := (0 : Int32)) hx hb dX0_mostInto_42 (by decide) ?_
      obtain rfl := dw_s1 h
      exact dw_iret C0 Z hr hlk dX0_mostInto_43
  · have h := dw_ifF c1 h
    refine lv_aload_n hx hb dX0_mostInto_7 rfl (lv_at hl 1 rfl) ?_
    refine dw_g6_2 (t := 11) C0 Z dw_kc1 tw_fX0_89 rfl dX0_mostInto_8 ?_
    refine dw_g4_0 (t := 12) C0 Z dw_kc11 tw_fX0_41 rfl dX0_mostInto_11 ?_
    refine lv_aload_n hx hb dX0_mostInto_14 rfl (lv_at hl 3 rfl) ?_
    refine dw_g5_5 C0 Z hk_j tw_fX0_169 dX0_mostInto_15 ?_
    obtain ⟨g8, h⟩ := dw_gdS h
    refine dw_aald C0 Z dw_kc12 g8 dX0_mostInto_18 ?_
    refine dw_g5_4 C0 Z (dw_pk dw_kc12 (dw_ok_lt g8)) tw_fX0_150 dX0_mostInto_19 ?_
    refine lv_aload_n hx hb dX0_mostInto_22 rfl (lv_at hl 2 rfl) ?_
    refine dw_g8_2 (t := (i + 3)) C0 Z hk_i tw_fX0_153 rfl dX0_mostInto_23 ?_
    refine lv_aload_n hx hb dX0_mostInto_26 rfl (lv_at hl 3 rfl) ?_
    refine dw_g5_5 C0 Z hk_j tw_fX0_169 dX0_mostInto_27 ?_
    refine dw_ald C0 Z (dw_r8_2 hk_i) (dw_n8_2 hk_i) g8 dX0_mostInto_30 ?_
    refine lv_isub hx hb dX0_mostInto_31 ?_
    obtain rfl := dw_s1 h
    exact dw_iret C0 Z hr hlk dX0_mostInto_32

def fX0_passOn (μ : dw_M) (i : Nat) (a1 : Int32) : Option (dw_M) :=
  dw_gd (dw_ok a1 20) (
  dw_jm (fun (x2 : Int32) =>
  dw_nm (dw_mn x2 (dw_mn (μ.1 (12 + 1 + 2 * a1.toNatClampNeg) 3) (μ.1 (i + 3) a1.toNatClampNeg))) (fun x3 =>
  dw_nm (dw_st μ (i + 5) a1.toNatClampNeg x3) (fun μ4 =>
  dw_nm (dw_st μ4 (i + 3) a1.toNatClampNeg ((μ4.1 (i + 3) a1.toNatClampNeg) - x3)) (fun μ5 =>
  if (fX5_leadsIntoPipe μ5 (12 + 1 + 2 * a1.toNatClampNeg)) = 0 then (
  if (μ5.1 (12 + 1 + 2 * a1.toNatClampNeg) 5) < (100 : Int32) then (
  some μ5)
  else (
  dw_gd (dw_ok ((μ5.1 (12 + 1 + 2 * a1.toNatClampNeg) 5) - (100 : Int32)) 4) (
  dw_nm (dw_st μ5 (i + 6) ((μ5.1 (12 + 1 + 2 * a1.toNatClampNeg) 5) - (100 : Int32)).toNatClampNeg ((μ5.1 (i + 6) ((μ5.1 (12 + 1 + 2 * a1.toNatClampNeg) 5) - (100 : Int32)).toNatClampNeg) + x3)) (fun μ9 =>
  some μ9))))
  else (
  dw_gd (dw_ok (μ5.1 (12 + 1 + 2 * a1.toNatClampNeg) 5) 20) (
  dw_nm (dw_st μ5 (i + 3) (μ5.1 (12 + 1 + 2 * a1.toNatClampNeg) 5).toNatClampNeg ((μ5.1 (i + 3) (μ5.1 (12 + 1 + 2 * a1.toNatClampNeg) 5).toNatClampNeg) + x3)) (fun μ11 =>
  some μ11))))))) (fun k34 =>
  if (fX2_has μ (i + 7) a1) = 0 then (
  dw_bd (fX0_mostInto μ i (12 + 1 + 2 * a1.toNatClampNeg)) (fun r14 =>
  k34 r14))
  else (
  k34 (0 : Int32))))
set_option maxHeartbeats 4000000 in
set_option maxRecDepth 100000 in
theorem kX0_passOn (l : Launch) (Γ : dw_G) (hj : dw_inj Γ) (μ : dw_M) (i : Nat) (hk_i : dw_kd i = 8) (a1 : Int32) {ν : dw_M} (h : fX0_passOn μ i a1 = some ν) : Met l yX0_passOn (dw_ws yX0_passOn cX0_passOn 7 none) (dw_rm 2 46) (dw_P Γ ([.ref (dw_ad Γ 135), .ref (dw_ad Γ 1), .ref (dw_ad Γ i), .int a1] : List Value) μ) (dw_Qv Γ ν) 0 0 (dw_A Γ) := by
  refine dw_met (own := RX0) rfl rfl (Nat.le_of_ble_eq_true rfl) hj ?_
  intro p e s m below meth c C0 hr hlk Z ls hl
  have hx := C0.1
  have hb := C0.2.1
  have hl : lv_has ls 7 [(0, .ref (dw_ad Γ 135)), (1, .ref (dw_ad Γ 1)), (2, .ref (dw_ad Γ i)), (3, .int a1)] := hl
  suffices key : ∀ (H : Heap) (locs : List Loc), dw_Z Γ (dw_A Γ) s.heap μ H locs → W p l e (dw_rm 2 46) s m ([.ref (dw_ad Γ 135), .ref (dw_ad Γ 1), .ref (dw_ad Γ i), .int a1] : List Value).toArray below meth c H locs 0 0 (MQ below (dw_Qv Γ ν) ([.ref (dw_ad Γ 135), .ref (dw_ad Γ 1), .ref (dw_ad Γ i), .int a1] : List Value).toArray s 0 0 (dw_A Γ)) (F0 m 0 ls []) from key _ _ Z
  clear Z
  intro H locs Z
  unfold fX0_passOn at h
  refine lv_aload_n hx hb dX0_passOn_0 rfl (lv_at hl 1 rfl) ?_
  refine dw_g6_2 (t := 11) C0 Z dw_kc1 tw_fX0_89 rfl dX0_passOn_1 ?_
  refine dw_g4_0 (t := 12) C0 Z dw_kc11 tw_fX0_41 rfl dX0_passOn_4 ?_
  refine lv_iload_n hx hb dX0_passOn_7 rfl (lv_at hl 3 rfl) ?_
  obtain ⟨g1, h⟩ := dw_gdS h
  refine dw_aald C0 Z dw_kc12 g1 dX0_passOn_8 ?_
  refine lv_astore (lv' := [(4, .ref (dw_ad Γ (12 + 1 + 2 * a1.toNatClampNeg))), (0, .ref (dw_ad Γ 135)), (1, .ref (dw_ad Γ 1)), (2, .ref (dw_ad Γ i)), (3, .int a1)]) hx hb dX0_passOn_9 hl (by decide) rfl (fun ls hl => ?_)
  refine lv_aload_n hx hb dX0_passOn_11 rfl (lv_at hl 3 rfl) ?_
  refine dw_g8_6 (t := (i + 7)) C0 Z hk_i tw_fX0_140 rfl dX0_passOn_12 ?_
  refine lv_iload_n hx hb dX0_passOn_15 rfl (lv_at hl 4 rfl) ?_
  refine dw_cVi C0 Z dw_hA (dw_lt (dw_r8_6 hk_i) (by decide)) (dw_cz2 (dw_r8_6 hk_i)) rfl (As := [.int a1]) (rest := []) (kX2_has l Γ hj μ (i + 7) (dw_r8_6 hk_i) a1 rfl) (dw_gV tw_lX0_144 tw_vX2_has tw_eX2_has tw_iX2 tw_kX2_has) dw_hX2_has ⟨Nat.le_of_ble_eq_true rfl, Nat.le_of_ble_eq_true rfl⟩ ⟨Nat.zero_le _, Nat.zero_le _⟩ hl.1 (Nat.le_of_ble_eq_true rfl) rfl dX0_passOn_16 (fun H locs Z => ?_)
  obtain ⟨k34, ek34, h⟩ := dw_jnS h
  have J34 : ∀ (x2 : Int32) (H : Heap) (locs : List Loc) (ls : Array Slot), dw_Z Γ (dw_A Γ) s.heap μ H locs → lv_has ls 7 [(2, .ref (dw_ad Γ i)), (3, .int a1), (4, .ref (dw_ad Γ (12 + 1 + 2 * a1.toNatClampNeg)))] → k34 x2 = some ν → W p l e (dw_rm 2 46) s m ([.ref (dw_ad Γ 135), .ref (dw_ad Γ 1), .ref (dw_ad Γ i), .int a1] : List Value).toArray below meth c H locs 0 0 (MQ below (dw_Qv Γ ν) ([.ref (dw_ad Γ 135), .ref (dw_ad Γ 1), .ref (dw_ad Γ i), .int a1] : List Value).toArray s 0 0 (dw_A Γ)) (F0 m 34 ls [.int x2]) := by
    clear h
    intro x2 H locs ls Z hl h
    rw [ek34] at h
    dsimp only at h
    refine lv_istore (lv' := [(5, .int x2), (2, .ref (dw_ad Γ i)), (3, .int a1), (4, .ref (dw_ad Γ (12 + 1 + 2 * a1.toNatClampNeg)))]) hx hb dX0_passOn_34 hl (by decide) rfl (fun ls hl => ?_)
    refine lv_iload hx hb dX0_passOn_36 (lv_at hl 0 rfl) ?_
    refine lv_aload hx hb dX0_passOn_38 (lv_at hl 3 rfl) ?_
    refine dw_g5_3 C0 Z (dw_pk dw_kc12 (dw_ok_lt g1)) tw_fX0_160 dX0_passOn_40 ?_
    refine lv_aload_n hx hb dX0_passOn_43 rfl (lv_at hl 1 rfl) ?_
    refine dw_g8_2 (t := (i + 3)) C0 Z hk_i tw_fX0_153 rfl dX0_passOn_44 ?_
    refine lv_iload_n hx hb dX0_passOn_47 rfl (lv_at hl 2 rfl) ?_
    refine dw_ald C0 Z (dw_r8_2 hk_i) (dw_n8_2 hk_i) g1 dX0_passOn_48 ?_
    refine dw_mmin C0 hl.1 tw_lX0_131 (Nat.le_of_ble_eq_true rfl) (Nat.le_of_ble_eq_true rfl) ⟨Nat.zero_le _, Nat.zero_le _⟩ dX0_passOn_49 ?_
    refine dw_mmin C0 hl.1 tw_lX0_131 (Nat.le_of_ble_eq_true rfl) (Nat.le_of_ble_eq_true rfl) ⟨Nat.zero_le _, Nat.zero_le _⟩ dX0_passOn_52 ?_
    refine lv_topi (fun x3 ex3 => ?_)
    have h := dw_nmS ex3 h
    refine lv_istore (lv' := [(6, .int x3), (5, .int x2), (2, .ref (dw_ad Γ i)), (3, .int a1), (4, .ref (dw_ad Γ (12 + 1 + 2 * a1.toNatClampNeg)))]) hx hb dX0_passOn_55 hl (by decide) rfl (fun ls hl => ?_)
    refine lv_aload_n hx hb dX0_passOn_57 rfl (lv_at hl 2 rfl) ?_
    refine dw_g8_4 (t := (i + 5)) C0 Z hk_i tw_fX0_163 rfl dX0_passOn_58 ?_
    refine lv_iload_n hx hb dX0_passOn_61 rfl (lv_at hl 3 rfl) ?_
    refine lv_iload hx hb dX0_passOn_62 (lv_at hl 0 rfl) ?_
    refine dw_ast C0 Z dw_hA (dw_r8_4 hk_i) (dw_n8_4 hk_i) g1 dX0_passOn_64 (fun μ4 eμ4 H locs Z => ?_)
    have h := dw_nmS eμ4 h
    refine lv_aload_n hx hb dX0_passOn_65 rfl (lv_at hl 2 rfl) ?_
    refine dw_g8_2 (t := (i + 3)) C0 Z hk_i tw_fX0_153 rfl dX0_passOn_66 ?_
    refine lv_iload_n hx hb dX0_passOn_69 rfl (lv_at hl 3 rfl) ?_
    refine lv_dup2_11 hx hb dX0_passOn_70 rfl rfl ?_
    refine dw_ald C0 Z (dw_r8_2 hk_i) (dw_n8_2 hk_i) g1 dX0_passOn_71 ?_
    refine lv_iload hx hb dX0_passOn_72 (lv_at hl 0 rfl) ?_
    refine lv_isub hx hb dX0_passOn_74 ?_
    refine dw_ast C0 Z dw_hA (dw_r8_2 hk_i) (dw_n8_2 hk_i) g1 dX0_passOn_75 (fun μ5 eμ5 H locs Z => ?_)
    have h := dw_nmS eμ5 h
    refine lv_aload hx hb dX0_passOn_76 (lv_at hl 4 rfl) ?_
    refine dw_cVi C0 Z dw_hA (dw_lt (dw_pk dw_kc12 (dw_ok_lt g1)) (by decide)) (dw_cz5 (dw_pk dw_kc12 (dw_ok_lt g1))) rfl (As := []) (rest := []) (kX5_leadsIntoPipe l Γ hj μ5 (12 + 1 + 2 * a1.toNatClampNeg) (dw_pk dw_kc12 (dw_ok_lt g1)) rfl) (dw_gV tw_lX0_166 tw_vX5_leadsIntoPipe tw_eX5_leadsIntoPipe tw_iX5 tw_kX5_leadsIntoPipe) dw_hX5_leadsIntoPipe ⟨Nat.le_of_ble_eq_true rfl, Nat.le_of_ble_eq_true rfl⟩ ⟨Nat.zero_le _, Nat.zero_le _⟩ hl.1 (Nat.le_of_ble_eq_true rfl) rfl dX0_passOn_78 (fun H locs Z => ?_)
    refine lv_if_eq (tgt := 102) hx hb dX0_passOn_81 (by decide) (fun c6 => ?_) (fun c6 => ?_)
    · have h := dw_ifT c6 h
      refine lv_aload hx hb dX0_passOn_102 (lv_at hl 4 rfl) ?_
      refine dw_g5_5 C0 Z (dw_pk dw_kc12 (dw_ok_lt g1)) tw_fX0_169 dX0_passOn_104 ?_
      refine lv_bipush (v := (100 : Int32)) hx hb dX0_passOn_107 (by decide) ?_
      refine lv_icmp_lt (tgt := 130) hx hb dX0_passOn_109 (by decide) (fun c7 => ?_) (fun c7 => ?_)
      · have h := dw_ifT c7 h
        obtain rfl := dw_s1 h
        exact dw_vret C0 Z hr hlk dX0_passOn_130
      · have h := dw_ifF c7 h
        refine lv_aload_n hx hb dX0_passOn_112 rfl (lv_at hl 2 rfl) ?_
        refine dw_g8_5 (t := (i + 6)) C0 Z hk_i tw_fX0_172 rfl dX0_passOn_113 ?_
        refine lv_aload hx hb dX0_passOn_116 (lv_at hl 4 rfl) ?_
        refine dw_g5_5 C0 Z (dw_pk dw_kc12 (dw_ok_lt g1)) tw_fX0_169 dX0_passOn_118 ?_
        refine lv_bipush (v := (100 : Int32)) hx hb dX0_passOn_121 (by decide) ?_
        refine lv_isub hx hb dX0_passOn_123 ?_
        refine lv_dup2_11 hx hb dX0_passOn_124 rfl rfl ?_
        obtain ⟨g8, h⟩ := dw_gdS h
        refine dw_ald C0 Z (dw_r8_5 hk_i) (dw_n8_5 hk_i) g8 dX0_passOn_125 ?_
        refine lv_iload hx hb dX0_passOn_126 (lv_at hl 0 rfl) ?_
        refine lv_iadd hx hb dX0_passOn_128 ?_
        refine dw_ast C0 Z dw_hA (dw_r8_5 hk_i) (dw_n8_5 hk_i) g8 dX0_passOn_129 (fun μ9 eμ9 H locs Z => ?_)
        have h := dw_nmS eμ9 h
        obtain rfl := dw_s1 h
        exact dw_vret C0 Z hr hlk dX0_passOn_130
    · have h := dw_ifF c6 h
      refine lv_aload_n hx hb dX0_passOn_84 rfl (lv_at hl 2 rfl) ?_
      refine dw_g8_2 (t := (i + 3)) C0 Z hk_i tw_fX0_153 rfl dX0_passOn_85 ?_
      refine lv_aload hx hb dX0_passOn_88 (lv_at hl 4 rfl) ?_
      refine dw_g5_5 C0 Z (dw_pk dw_kc12 (dw_ok_lt g1)) tw_fX0_169 dX0_passOn_90 ?_
      refine lv_dup2_11 hx hb dX0_passOn_93 rfl rfl ?_
      obtain ⟨g10, h⟩ := dw_gdS h
      refine dw_ald C0 Z (dw_r8_2 hk_i) (dw_n8_2 hk_i) g10 dX0_passOn_94 ?_
      refine lv_iload hx hb dX0_passOn_95 (lv_at hl 0 rfl) ?_
      refine lv_iadd hx hb dX0_passOn_97 ?_
      refine dw_ast C0 Z dw_hA (dw_r8_2 hk_i) (dw_n8_2 hk_i) g10 dX0_passOn_98 (fun μ11 eμ11 H locs Z => ?_)
      have h := dw_nmS eμ11 h
      refine lv_goto (tgt := 130) hx hb dX0_passOn_99 (by decide) ?_
      obtain rfl := dw_s1 h
      exact dw_vret C0 Z hr hlk dX0_passOn_130
  refine lv_if_eq (tgt := 26) hx hb dX0_passOn_19 (by decide) (fun c12 => ?_) (fun c12 => ?_)
  · have h := dw_ifT c12 h
    refine lv_aload_n hx hb dX0_passOn_26 rfl (lv_at hl 1 rfl) ?_
    refine lv_aload_n hx hb dX0_passOn_27 rfl (lv_at hl 2 rfl) ?_
    refine lv_aload_n hx hb dX0_passOn_28 rfl (lv_at hl 3 rfl) ?_
    refine lv_aload hx hb dX0_passOn_29 (lv_at hl 0 rfl) ?_
    obtain ⟨r14, hc13, h⟩ := dw_bdS h
    refine dw_cVi C0 Z dw_hA (dw_lt dw_kc135 (by decide)) (dw_cz0 dw_kc135) rfl (As := [.ref (dw_ad Γ 1), .ref (dw_ad Γ i), .ref (dw_ad Γ (12 + 1 + 2 * a1.toNatClampNeg))]) (rest := []) (kX0_mostInto l Γ hj μ i hk_i (12 + 1 + 2 * a1.toNatClampNeg) (dw_pk dw_kc12 (dw_ok_lt g1)) hc13) (dw_gV tw_lX0_156 tw_vX0_mostInto tw_eX0_mostInto tw_iX0 tw_kX0_mostInto) dw_hX0_mostInto ⟨Nat.le_of_ble_eq_true rfl, Nat.le_of_ble_eq_true rfl⟩ ⟨Nat.zero_le _, Nat.zero_le _⟩ hl.1 (Nat.le_of_ble_eq_true rfl) rfl dX0_passOn_31 (fun H locs Z => ?_)
    exact J34 r14 H locs ls Z (lv_sub hl [3, 4, 0] rfl) h
  · have h := dw_ifF c12 h
    refine lv_iconst (v := (0 : Int32)) hx hb dX0_passOn_22 (by decide) ?_
    refine lv_goto (tgt := 34) hx hb dX0_passOn_23 (by decide) ?_
    exact J34 (0 : Int32) H locs ls Z (lv_sub hl [3, 4, 0] rfl) h
